section
-- ===== PART A: goes FIRST, ahead of the names: the tables' words, and 'selects' of the private methods out of them =====
/-- a private method of a class that the tables say can be made, by its rows of tables_1 -/
def lw_okq (q : MethodName × Nat) : Prop := (q.1.cls ≠ "java/lang/invoke/MethodHandle" ∧ q.1.cls ≠ "java/lang/invoke/VarHandle") ∧ Cond.instantiable q.1.cls q.2 ∈ tables_1 ∧ Cond.privateMethod q.1 ∈ tables_1 ∧ Cond.instanceMethod q.1 ∈ tables_1
theorem lw_p0 : lw_okq (⟨"IdealProver", "forgetBasis", "()V"⟩, 14) := ⟨⟨by decide +kernel, by decide +kernel⟩, List.mem_of_getElem? (i := 13) (by decide +kernel), List.mem_of_getElem? (i := 230) (by decide +kernel), List.mem_of_getElem? (i := 231) (by decide +kernel)⟩
theorem lw_p1 : lw_okq (⟨"IdealProver", "isTold", "(I)Z"⟩, 14) := ⟨⟨by decide +kernel, by decide +kernel⟩, List.mem_of_getElem? (i := 13) (by decide +kernel), List.mem_of_getElem? (i := 245) (by decide +kernel), List.mem_of_getElem? (i := 246) (by decide +kernel)⟩
theorem lw_p2 : lw_okq (⟨"IdealProver$Polynomial", "find", "(I)I"⟩, 5) := ⟨⟨by decide +kernel, by decide +kernel⟩, List.mem_of_getElem? (i := 36) (by decide +kernel), List.mem_of_getElem? (i := 266) (by decide +kernel), List.mem_of_getElem? (i := 267) (by decide +kernel)⟩
theorem lw_p3 : lw_okq (⟨"IdealProver$Polynomial", "shift", "(II)V"⟩, 5) := ⟨⟨by decide +kernel, by decide +kernel⟩, List.mem_of_getElem? (i := 36) (by decide +kernel), List.mem_of_getElem? (i := 280) (by decide +kernel), List.mem_of_getElem? (i := 281) (by decide +kernel)⟩
theorem lw_p4 : lw_okq (⟨"IdealProver", "put", "(LIdealProver$Polynomial;I)I"⟩, 14) := ⟨⟨by decide +kernel, by decide +kernel⟩, List.mem_of_getElem? (i := 13) (by decide +kernel), List.mem_of_getElem? (i := 323) (by decide +kernel), List.mem_of_getElem? (i := 324) (by decide +kernel)⟩
theorem lw_p5 : lw_okq (⟨"IdealProver$Polynomial", "termAt", "(I[II)J"⟩, 5) := ⟨⟨by decide +kernel, by decide +kernel⟩, List.mem_of_getElem? (i := 36) (by decide +kernel), List.mem_of_getElem? (i := 357) (by decide +kernel), List.mem_of_getElem? (i := 358) (by decide +kernel)⟩
theorem lw_p6 : lw_okq (⟨"IdealProver$Ideal", "begin", "(I)V"⟩, 11) := ⟨⟨by decide +kernel, by decide +kernel⟩, List.mem_of_getElem? (i := 71) (by decide +kernel), List.mem_of_getElem? (i := 379) (by decide +kernel), List.mem_of_getElem? (i := 380) (by decide +kernel)⟩
theorem lw_p7 : lw_okq (⟨"IdealProver$Ideal", "adopt", "([LIdealProver$Polynomial;I)I"⟩, 11) := ⟨⟨by decide +kernel, by decide +kernel⟩, List.mem_of_getElem? (i := 71) (by decide +kernel), List.mem_of_getElem? (i := 387) (by decide +kernel), List.mem_of_getElem? (i := 388) (by decide +kernel)⟩
theorem lw_p8 : lw_okq (⟨"IdealProver$Ideal", "add", "()V"⟩, 11) := ⟨⟨by decide +kernel, by decide +kernel⟩, List.mem_of_getElem? (i := 71) (by decide +kernel), List.mem_of_getElem? (i := 406) (by decide +kernel), List.mem_of_getElem? (i := 407) (by decide +kernel)⟩
theorem lw_p9 : lw_okq (⟨"IdealProver$Ideal", "choosePair", "()Z"⟩, 11) := ⟨⟨by decide +kernel, by decide +kernel⟩, List.mem_of_getElem? (i := 71) (by decide +kernel), List.mem_of_getElem? (i := 419) (by decide +kernel), List.mem_of_getElem? (i := 420) (by decide +kernel)⟩
theorem lw_p10 : lw_okq (⟨"IdealProver$Ideal", "settlePair", "(LIdealProver$Division;)I"⟩, 11) := ⟨⟨by decide +kernel, by decide +kernel⟩, List.mem_of_getElem? (i := 71) (by decide +kernel), List.mem_of_getElem? (i := 423) (by decide +kernel), List.mem_of_getElem? (i := 424) (by decide +kernel)⟩
theorem lw_p11 : lw_okq (⟨"IdealProver$Ideal", "isNeedless", "(I)Z"⟩, 11) := ⟨⟨by decide +kernel, by decide +kernel⟩, List.mem_of_getElem? (i := 71) (by decide +kernel), List.mem_of_getElem? (i := 427) (by decide +kernel), List.mem_of_getElem? (i := 428) (by decide +kernel)⟩
theorem lw_p12 : lw_okq (⟨"IdealProver$Ideal", "isWaiting", "(II)Z"⟩, 11) := ⟨⟨by decide +kernel, by decide +kernel⟩, List.mem_of_getElem? (i := 71) (by decide +kernel), List.mem_of_getElem? (i := 438) (by decide +kernel), List.mem_of_getElem? (i := 439) (by decide +kernel)⟩
theorem lw_p13 : lw_okq (⟨"IdealProver$Ideal", "crossOut", "(ILIdealProver$Polynomial;)Z"⟩, 11) := ⟨⟨by decide +kernel, by decide +kernel⟩, List.mem_of_getElem? (i := 71) (by decide +kernel), List.mem_of_getElem? (i := 447) (by decide +kernel), List.mem_of_getElem? (i := 448) (by decide +kernel)⟩
theorem lw_p14 : lw_okq (⟨"IdealProver$Division", "firstDivisor", "([LIdealProver$Element;II)I"⟩, 5) := ⟨⟨by decide +kernel, by decide +kernel⟩, List.mem_of_getElem? (i := 139) (by decide +kernel), List.mem_of_getElem? (i := 457) (by decide +kernel), List.mem_of_getElem? (i := 458) (by decide +kernel)⟩
theorem lw_p15 : lw_okq (⟨"IdealProver$Ideal", "takeQuotients", "(LIdealProver$Element;LIdealProver$Division;)Z"⟩, 11) := ⟨⟨by decide +kernel, by decide +kernel⟩, List.mem_of_getElem? (i := 71) (by decide +kernel), List.mem_of_getElem? (i := 472) (by decide +kernel), List.mem_of_getElem? (i := 473) (by decide +kernel)⟩
def lw_privs_1 : List (MethodName × Nat) := [(⟨"IdealProver", "forgetBasis", "()V"⟩, 14), (⟨"IdealProver", "isTold", "(I)Z"⟩, 14), (⟨"IdealProver$Polynomial", "find", "(I)I"⟩, 5), (⟨"IdealProver$Polynomial", "shift", "(II)V"⟩, 5), (⟨"IdealProver", "put", "(LIdealProver$Polynomial;I)I"⟩, 14), (⟨"IdealProver$Polynomial", "termAt", "(I[II)J"⟩, 5), (⟨"IdealProver$Ideal", "begin", "(I)V"⟩, 11), (⟨"IdealProver$Ideal", "adopt", "([LIdealProver$Polynomial;I)I"⟩, 11), (⟨"IdealProver$Ideal", "add", "()V"⟩, 11), (⟨"IdealProver$Ideal", "choosePair", "()Z"⟩, 11), (⟨"IdealProver$Ideal", "settlePair", "(LIdealProver$Division;)I"⟩, 11), (⟨"IdealProver$Ideal", "isNeedless", "(I)Z"⟩, 11), (⟨"IdealProver$Ideal", "isWaiting", "(II)Z"⟩, 11), (⟨"IdealProver$Ideal", "crossOut", "(ILIdealProver$Polynomial;)Z"⟩, 11), (⟨"IdealProver$Division", "firstDivisor", "([LIdealProver$Element;II)I"⟩, 5), (⟨"IdealProver$Ideal", "takeQuotients", "(LIdealProver$Element;LIdealProver$Division;)Z"⟩, 11)]
theorem lw_r1 : ∀ q ∈ lw_privs_1, lw_okq q := List.forall_mem_cons.mpr ⟨lw_p0, List.forall_mem_cons.mpr ⟨lw_p1, List.forall_mem_cons.mpr ⟨lw_p2, List.forall_mem_cons.mpr ⟨lw_p3, List.forall_mem_cons.mpr ⟨lw_p4, List.forall_mem_cons.mpr ⟨lw_p5, List.forall_mem_cons.mpr ⟨lw_p6, List.forall_mem_cons.mpr ⟨lw_p7, List.forall_mem_cons.mpr ⟨lw_p8, List.forall_mem_cons.mpr ⟨lw_p9, List.forall_mem_cons.mpr ⟨lw_p10, List.forall_mem_cons.mpr ⟨lw_p11, List.forall_mem_cons.mpr ⟨lw_p12, List.forall_mem_cons.mpr ⟨lw_p13, List.forall_mem_cons.mpr ⟨lw_p14, List.forall_mem_cons.mpr ⟨lw_p15, fun _ h => absurd h List.not_mem_nil⟩⟩⟩⟩⟩⟩⟩⟩⟩⟩⟩⟩⟩⟩⟩⟩
theorem lw_p16 : lw_okq (⟨"IdealProver$Ideal", "dropNeedless", "()V"⟩, 11) := ⟨⟨by decide +kernel, by decide +kernel⟩, List.mem_of_getElem? (i := 71) (by decide +kernel), List.mem_of_getElem? (i := 477) (by decide +kernel), List.mem_of_getElem? (i := 478) (by decide +kernel)⟩
theorem lw_p17 : lw_okq (⟨"IdealProver$Ideal", "isCovered", "(II)Z"⟩, 11) := ⟨⟨by decide +kernel, by decide +kernel⟩, List.mem_of_getElem? (i := 71) (by decide +kernel), List.mem_of_getElem? (i := 481) (by decide +kernel), List.mem_of_getElem? (i := 482) (by decide +kernel)⟩
theorem lw_p18 : lw_okq (⟨"IdealProver$Ideal", "sortElements", "()V"⟩, 11) := ⟨⟨by decide +kernel, by decide +kernel⟩, List.mem_of_getElem? (i := 71) (by decide +kernel), List.mem_of_getElem? (i := 485) (by decide +kernel), List.mem_of_getElem? (i := 486) (by decide +kernel)⟩
theorem lw_p19 : lw_okq (⟨"IdealProver$Ideal", "reduceElement", "(ILIdealProver$Division;)I"⟩, 11) := ⟨⟨by decide +kernel, by decide +kernel⟩, List.mem_of_getElem? (i := 71) (by decide +kernel), List.mem_of_getElem? (i := 489) (by decide +kernel), List.mem_of_getElem? (i := 490) (by decide +kernel)⟩
theorem lw_p20 : lw_okq (⟨"IdealProver", "isElement", "(I)Z"⟩, 14) := ⟨⟨by decide +kernel, by decide +kernel⟩, List.mem_of_getElem? (i := 13) (by decide +kernel), List.mem_of_getElem? (i := 502) (by decide +kernel), List.mem_of_getElem? (i := 503) (by decide +kernel)⟩
theorem lw_p21 : lw_okq (⟨"IdealProver", "isGenerator", "(I)Z"⟩, 14) := ⟨⟨by decide +kernel, by decide +kernel⟩, List.mem_of_getElem? (i := 13) (by decide +kernel), List.mem_of_getElem? (i := 510) (by decide +kernel), List.mem_of_getElem? (i := 511) (by decide +kernel)⟩
theorem lw_p22 : lw_okq (⟨"IdealProver", "sumUp", "([LIdealProver$Polynomial;)Z"⟩, 14) := ⟨⟨by decide +kernel, by decide +kernel⟩, List.mem_of_getElem? (i := 13) (by decide +kernel), List.mem_of_getElem? (i := 530) (by decide +kernel), List.mem_of_getElem? (i := 531) (by decide +kernel)⟩
theorem lw_p23 : lw_okq (⟨"IdealProver$Ideal", "wall", "(II)I"⟩, 11) := ⟨⟨by decide +kernel, by decide +kernel⟩, List.mem_of_getElem? (i := 71) (by decide +kernel), List.mem_of_getElem? (i := 562) (by decide +kernel), List.mem_of_getElem? (i := 563) (by decide +kernel)⟩
theorem lw_p24 : lw_okq (⟨"IdealProver$Ideal", "height", "(II)I"⟩, 11) := ⟨⟨by decide +kernel, by decide +kernel⟩, List.mem_of_getElem? (i := 71) (by decide +kernel), List.mem_of_getElem? (i := 567) (by decide +kernel), List.mem_of_getElem? (i := 568) (by decide +kernel)⟩
theorem lw_p25 : lw_okq (⟨"IdealProverModel", "sorted", "(I)V"⟩, 28) := ⟨⟨by decide +kernel, by decide +kernel⟩, List.mem_of_getElem? (i := 578) (by decide +kernel), List.mem_of_getElem? (i := 679) (by decide +kernel), List.mem_of_getElem? (i := 680) (by decide +kernel)⟩
theorem lw_p26 : lw_okq (⟨"IdealProverModel", "compare", "(II)I"⟩, 28) := ⟨⟨by decide +kernel, by decide +kernel⟩, List.mem_of_getElem? (i := 578) (by decide +kernel), List.mem_of_getElem? (i := 683) (by decide +kernel), List.mem_of_getElem? (i := 684) (by decide +kernel)⟩
theorem lw_p27 : lw_okq (⟨"IdealProverModel", "sum", "(I)I"⟩, 28) := ⟨⟨by decide +kernel, by decide +kernel⟩, List.mem_of_getElem? (i := 578) (by decide +kernel), List.mem_of_getElem? (i := 690) (by decide +kernel), List.mem_of_getElem? (i := 691) (by decide +kernel)⟩
theorem lw_p28 : lw_okq (⟨"IdealProverModel", "copy", "(II)V"⟩, 28) := ⟨⟨by decide +kernel, by decide +kernel⟩, List.mem_of_getElem? (i := 578) (by decide +kernel), List.mem_of_getElem? (i := 703) (by decide +kernel), List.mem_of_getElem? (i := 704) (by decide +kernel)⟩
theorem lw_p29 : lw_okq (⟨"IdealProverModel", "lowest", "(JJ)V"⟩, 28) := ⟨⟨by decide +kernel, by decide +kernel⟩, List.mem_of_getElem? (i := 578) (by decide +kernel), List.mem_of_getElem? (i := 707) (by decide +kernel), List.mem_of_getElem? (i := 708) (by decide +kernel)⟩
theorem lw_p30 : lw_okq (⟨"IdealProverModel", "comes", "(IIII)V"⟩, 28) := ⟨⟨by decide +kernel, by decide +kernel⟩, List.mem_of_getElem? (i := 578) (by decide +kernel), List.mem_of_getElem? (i := 713) (by decide +kernel), List.mem_of_getElem? (i := 714) (by decide +kernel)⟩
theorem lw_p31 : lw_okq (⟨"IdealProverModel", "taken", "(II)I"⟩, 28) := ⟨⟨by decide +kernel, by decide +kernel⟩, List.mem_of_getElem? (i := 578) (by decide +kernel), List.mem_of_getElem? (i := 717) (by decide +kernel), List.mem_of_getElem? (i := 718) (by decide +kernel)⟩
def lw_privs_2 : List (MethodName × Nat) := [(⟨"IdealProver$Ideal", "dropNeedless", "()V"⟩, 11), (⟨"IdealProver$Ideal", "isCovered", "(II)Z"⟩, 11), (⟨"IdealProver$Ideal", "sortElements", "()V"⟩, 11), (⟨"IdealProver$Ideal", "reduceElement", "(ILIdealProver$Division;)I"⟩, 11), (⟨"IdealProver", "isElement", "(I)Z"⟩, 14), (⟨"IdealProver", "isGenerator", "(I)Z"⟩, 14), (⟨"IdealProver", "sumUp", "([LIdealProver$Polynomial;)Z"⟩, 14), (⟨"IdealProver$Ideal", "wall", "(II)I"⟩, 11), (⟨"IdealProver$Ideal", "height", "(II)I"⟩, 11), (⟨"IdealProverModel", "sorted", "(I)V"⟩, 28), (⟨"IdealProverModel", "compare", "(II)I"⟩, 28), (⟨"IdealProverModel", "sum", "(I)I"⟩, 28), (⟨"IdealProverModel", "copy", "(II)V"⟩, 28), (⟨"IdealProverModel", "lowest", "(JJ)V"⟩, 28), (⟨"IdealProverModel", "comes", "(IIII)V"⟩, 28), (⟨"IdealProverModel", "taken", "(II)I"⟩, 28)]
theorem lw_r2 : ∀ q ∈ lw_privs_2, lw_okq q := List.forall_mem_cons.mpr ⟨lw_p16, List.forall_mem_cons.mpr ⟨lw_p17, List.forall_mem_cons.mpr ⟨lw_p18, List.forall_mem_cons.mpr ⟨lw_p19, List.forall_mem_cons.mpr ⟨lw_p20, List.forall_mem_cons.mpr ⟨lw_p21, List.forall_mem_cons.mpr ⟨lw_p22, List.forall_mem_cons.mpr ⟨lw_p23, List.forall_mem_cons.mpr ⟨lw_p24, List.forall_mem_cons.mpr ⟨lw_p25, List.forall_mem_cons.mpr ⟨lw_p26, List.forall_mem_cons.mpr ⟨lw_p27, List.forall_mem_cons.mpr ⟨lw_p28, List.forall_mem_cons.mpr ⟨lw_p29, List.forall_mem_cons.mpr ⟨lw_p30, List.forall_mem_cons.mpr ⟨lw_p31, fun _ h => absurd h List.not_mem_nil⟩⟩⟩⟩⟩⟩⟩⟩⟩⟩⟩⟩⟩⟩⟩⟩
theorem lw_p32 : lw_okq (⟨"IdealProverModel", "adds", "(IIIII)V"⟩, 28) := ⟨⟨by decide +kernel, by decide +kernel⟩, List.mem_of_getElem? (i := 578) (by decide +kernel), List.mem_of_getElem? (i := 737) (by decide +kernel), List.mem_of_getElem? (i := 738) (by decide +kernel)⟩
theorem lw_p33 : lw_okq (⟨"IdealProverModel", "product", "(II)I"⟩, 28) := ⟨⟨by decide +kernel, by decide +kernel⟩, List.mem_of_getElem? (i := 578) (by decide +kernel), List.mem_of_getElem? (i := 741) (by decide +kernel), List.mem_of_getElem? (i := 742) (by decide +kernel)⟩
theorem lw_p34 : lw_okq (⟨"IdealProverModel", "multiplied", "(JJJJ)V"⟩, 28) := ⟨⟨by decide +kernel, by decide +kernel⟩, List.mem_of_getElem? (i := 578) (by decide +kernel), List.mem_of_getElem? (i := 745) (by decide +kernel), List.mem_of_getElem? (i := 746) (by decide +kernel)⟩
theorem lw_p35 : lw_okq (⟨"IdealProverModel", "made", "(III)V"⟩, 28) := ⟨⟨by decide +kernel, by decide +kernel⟩, List.mem_of_getElem? (i := 578) (by decide +kernel), List.mem_of_getElem? (i := 753) (by decide +kernel), List.mem_of_getElem? (i := 754) (by decide +kernel)⟩
theorem lw_p36 : lw_okq (⟨"IdealProverModel", "isSame", "(II)Z"⟩, 28) := ⟨⟨by decide +kernel, by decide +kernel⟩, List.mem_of_getElem? (i := 578) (by decide +kernel), List.mem_of_getElem? (i := 761) (by decide +kernel), List.mem_of_getElem? (i := 762) (by decide +kernel)⟩
theorem lw_p37 : lw_okq (⟨"IdealProverModel", "make", "(IIZ)V"⟩, 28) := ⟨⟨by decide +kernel, by decide +kernel⟩, List.mem_of_getElem? (i := 578) (by decide +kernel), List.mem_of_getElem? (i := 781) (by decide +kernel), List.mem_of_getElem? (i := 782) (by decide +kernel)⟩
theorem lw_p38 : lw_okq (⟨"IdealProverModel", "cofactor", "(II)I"⟩, 28) := ⟨⟨by decide +kernel, by decide +kernel⟩, List.mem_of_getElem? (i := 578) (by decide +kernel), List.mem_of_getElem? (i := 785) (by decide +kernel), List.mem_of_getElem? (i := 786) (by decide +kernel)⟩
theorem lw_p39 : lw_okq (⟨"IdealProverModel", "monic", "(I)V"⟩, 28) := ⟨⟨by decide +kernel, by decide +kernel⟩, List.mem_of_getElem? (i := 578) (by decide +kernel), List.mem_of_getElem? (i := 789) (by decide +kernel), List.mem_of_getElem? (i := 790) (by decide +kernel)⟩
theorem lw_p40 : lw_okq (⟨"IdealProverModel", "scaled", "(III)V"⟩, 28) := ⟨⟨by decide +kernel, by decide +kernel⟩, List.mem_of_getElem? (i := 578) (by decide +kernel), List.mem_of_getElem? (i := 793) (by decide +kernel), List.mem_of_getElem? (i := 794) (by decide +kernel)⟩
theorem lw_p41 : lw_okq (⟨"IdealProverModel", "addPairs", "(I)V"⟩, 28) := ⟨⟨by decide +kernel, by decide +kernel⟩, List.mem_of_getElem? (i := 578) (by decide +kernel), List.mem_of_getElem? (i := 797) (by decide +kernel), List.mem_of_getElem? (i := 798) (by decide +kernel)⟩
theorem lw_p42 : lw_okq (⟨"IdealProverModel", "onePair", "()Z"⟩, 28) := ⟨⟨by decide +kernel, by decide +kernel⟩, List.mem_of_getElem? (i := 578) (by decide +kernel), List.mem_of_getElem? (i := 801) (by decide +kernel), List.mem_of_getElem? (i := 802) (by decide +kernel)⟩
theorem lw_p43 : lw_okq (⟨"IdealProverModel", "lead", "(I)I"⟩, 28) := ⟨⟨by decide +kernel, by decide +kernel⟩, List.mem_of_getElem? (i := 578) (by decide +kernel), List.mem_of_getElem? (i := 805) (by decide +kernel), List.mem_of_getElem? (i := 806) (by decide +kernel)⟩
theorem lw_p44 : lw_okq (⟨"IdealProverModel", "common", "(II)I"⟩, 28) := ⟨⟨by decide +kernel, by decide +kernel⟩, List.mem_of_getElem? (i := 578) (by decide +kernel), List.mem_of_getElem? (i := 809) (by decide +kernel), List.mem_of_getElem? (i := 810) (by decide +kernel)⟩
theorem lw_p45 : lw_okq (⟨"IdealProverModel", "isPassed", "(III)Z"⟩, 28) := ⟨⟨by decide +kernel, by decide +kernel⟩, List.mem_of_getElem? (i := 578) (by decide +kernel), List.mem_of_getElem? (i := 813) (by decide +kernel), List.mem_of_getElem? (i := 814) (by decide +kernel)⟩
theorem lw_p46 : lw_okq (⟨"IdealProverModel", "divides", "(II)Z"⟩, 28) := ⟨⟨by decide +kernel, by decide +kernel⟩, List.mem_of_getElem? (i := 578) (by decide +kernel), List.mem_of_getElem? (i := 817) (by decide +kernel), List.mem_of_getElem? (i := 818) (by decide +kernel)⟩
theorem lw_p47 : lw_okq (⟨"IdealProverModel", "isWaiting", "(II)Z"⟩, 28) := ⟨⟨by decide +kernel, by decide +kernel⟩, List.mem_of_getElem? (i := 578) (by decide +kernel), List.mem_of_getElem? (i := 821) (by decide +kernel), List.mem_of_getElem? (i := 822) (by decide +kernel)⟩
def lw_privs_3 : List (MethodName × Nat) := [(⟨"IdealProverModel", "adds", "(IIIII)V"⟩, 28), (⟨"IdealProverModel", "product", "(II)I"⟩, 28), (⟨"IdealProverModel", "multiplied", "(JJJJ)V"⟩, 28), (⟨"IdealProverModel", "made", "(III)V"⟩, 28), (⟨"IdealProverModel", "isSame", "(II)Z"⟩, 28), (⟨"IdealProverModel", "make", "(IIZ)V"⟩, 28), (⟨"IdealProverModel", "cofactor", "(II)I"⟩, 28), (⟨"IdealProverModel", "monic", "(I)V"⟩, 28), (⟨"IdealProverModel", "scaled", "(III)V"⟩, 28), (⟨"IdealProverModel", "addPairs", "(I)V"⟩, 28), (⟨"IdealProverModel", "onePair", "()Z"⟩, 28), (⟨"IdealProverModel", "lead", "(I)I"⟩, 28), (⟨"IdealProverModel", "common", "(II)I"⟩, 28), (⟨"IdealProverModel", "isPassed", "(III)Z"⟩, 28), (⟨"IdealProverModel", "divides", "(II)Z"⟩, 28), (⟨"IdealProverModel", "isWaiting", "(II)Z"⟩, 28)]
theorem lw_r3 : ∀ q ∈ lw_privs_3, lw_okq q := List.forall_mem_cons.mpr ⟨lw_p32, List.forall_mem_cons.mpr ⟨lw_p33, List.forall_mem_cons.mpr ⟨lw_p34, List.forall_mem_cons.mpr ⟨lw_p35, List.forall_mem_cons.mpr ⟨lw_p36, List.forall_mem_cons.mpr ⟨lw_p37, List.forall_mem_cons.mpr ⟨lw_p38, List.forall_mem_cons.mpr ⟨lw_p39, List.forall_mem_cons.mpr ⟨lw_p40, List.forall_mem_cons.mpr ⟨lw_p41, List.forall_mem_cons.mpr ⟨lw_p42, List.forall_mem_cons.mpr ⟨lw_p43, List.forall_mem_cons.mpr ⟨lw_p44, List.forall_mem_cons.mpr ⟨lw_p45, List.forall_mem_cons.mpr ⟨lw_p46, List.forall_mem_cons.mpr ⟨lw_p47, fun _ h => absurd h List.not_mem_nil⟩⟩⟩⟩⟩⟩⟩⟩⟩⟩⟩⟩⟩⟩⟩⟩
theorem lw_p48 : lw_okq (⟨"IdealProverModel", "divided", "(II)V"⟩, 28) := ⟨⟨by decide +kernel, by decide +kernel⟩, List.mem_of_getElem? (i := 578) (by decide +kernel), List.mem_of_getElem? (i := 825) (by decide +kernel), List.mem_of_getElem? (i := 826) (by decide +kernel)⟩
theorem lw_p49 : lw_okq (⟨"IdealProverModel", "lessShares", "(III)V"⟩, 28) := ⟨⟨by decide +kernel, by decide +kernel⟩, List.mem_of_getElem? (i := 578) (by decide +kernel), List.mem_of_getElem? (i := 829) (by decide +kernel), List.mem_of_getElem? (i := 830) (by decide +kernel)⟩
theorem lw_p50 : lw_okq (⟨"IdealProverModel", "clean", "()V"⟩, 28) := ⟨⟨by decide +kernel, by decide +kernel⟩, List.mem_of_getElem? (i := 578) (by decide +kernel), List.mem_of_getElem? (i := 833) (by decide +kernel), List.mem_of_getElem? (i := 834) (by decide +kernel)⟩
theorem lw_p51 : lw_okq (⟨"IdealProverModel", "move", "(II)V"⟩, 28) := ⟨⟨by decide +kernel, by decide +kernel⟩, List.mem_of_getElem? (i := 578) (by decide +kernel), List.mem_of_getElem? (i := 837) (by decide +kernel), List.mem_of_getElem? (i := 838) (by decide +kernel)⟩
theorem lw_p52 : lw_okq (⟨"IdealProverModel", "reduce", "(I)V"⟩, 28) := ⟨⟨by decide +kernel, by decide +kernel⟩, List.mem_of_getElem? (i := 578) (by decide +kernel), List.mem_of_getElem? (i := 841) (by decide +kernel), List.mem_of_getElem? (i := 842) (by decide +kernel)⟩
theorem lw_p53 : lw_okq (⟨"IdealProverModel", "own", "()V"⟩, 28) := ⟨⟨by decide +kernel, by decide +kernel⟩, List.mem_of_getElem? (i := 578) (by decide +kernel), List.mem_of_getElem? (i := 861) (by decide +kernel), List.mem_of_getElem? (i := 862) (by decide +kernel)⟩
theorem lw_p54 : lw_okq (⟨"IdealProverModel", "isStair", "(I)Z"⟩, 28) := ⟨⟨by decide +kernel, by decide +kernel⟩, List.mem_of_getElem? (i := 578) (by decide +kernel), List.mem_of_getElem? (i := 885) (by decide +kernel), List.mem_of_getElem? (i := 886) (by decide +kernel)⟩
def lw_privs_4 : List (MethodName × Nat) := [(⟨"IdealProverModel", "divided", "(II)V"⟩, 28), (⟨"IdealProverModel", "lessShares", "(III)V"⟩, 28), (⟨"IdealProverModel", "clean", "()V"⟩, 28), (⟨"IdealProverModel", "move", "(II)V"⟩, 28), (⟨"IdealProverModel", "reduce", "(I)V"⟩, 28), (⟨"IdealProverModel", "own", "()V"⟩, 28), (⟨"IdealProverModel", "isStair", "(I)Z"⟩, 28)]
theorem lw_r4 : ∀ q ∈ lw_privs_4, lw_okq q := List.forall_mem_cons.mpr ⟨lw_p48, List.forall_mem_cons.mpr ⟨lw_p49, List.forall_mem_cons.mpr ⟨lw_p50, List.forall_mem_cons.mpr ⟨lw_p51, List.forall_mem_cons.mpr ⟨lw_p52, List.forall_mem_cons.mpr ⟨lw_p53, List.forall_mem_cons.mpr ⟨lw_p54, fun _ h => absurd h List.not_mem_nil⟩⟩⟩⟩⟩⟩⟩
def lw_privs : List (MethodName × Nat) := lw_privs_1 ++ (lw_privs_2 ++ (lw_privs_3 ++ (lw_privs_4)))
def lw_tbl : List Cond := k2_sels lw_privs ++ tables_1
theorem lw_privs_ok : ∀ q ∈ lw_privs, lw_okq q := by
  show ∀ q ∈ lw_privs_1 ++ (lw_privs_2 ++ (lw_privs_3 ++ (lw_privs_4))), lw_okq q
  exact List.forall_mem_append.mpr ⟨lw_r1, List.forall_mem_append.mpr ⟨lw_r2, List.forall_mem_append.mpr ⟨lw_r3, lw_r4⟩⟩⟩
-- ===== end of PART A; then your names; then what follows =====
end
section
/-! ===== BEGIN words of one list among another's, by their places ===== -/
theorem goodIn_r {big : List Cond} (ws : List Cond) (ps : List Nat) (hp : ws = ps.filterMap (fun i => big[i]?)) (h : ws.all goodWord = true) : GoodIn big ws := by
  intro w hw
  have h1 := List.all_eq_true.mp h w hw
  rw [hp] at hw
  obtain ⟨i, -, hi⟩ := List.mem_filterMap.mp hw
  have hm : w ∈ big := by first | exact List.mem_of_getElem? hi | exact List.getElem?_mem hi
  exact ⟨hm, good_of_word h1⟩
theorem goodIn_app {big a b : List Cond} (ha : GoodIn big a) (hb : GoodIn big b) : GoodIn big (a ++ b) := fun w h => (List.mem_append.mp h).elim (ha w) (hb w)
theorem goodIn_ca {big a b : List Cond} {c : Cond} (ha : GoodIn big (c :: a)) (hb : GoodIn big b) : GoodIn big (c :: (a ++ b)) := fun w h => (List.mem_cons.mp h).elim (fun e => ha w (List.mem_cons.mpr (Or.inl e))) (fun h => (List.mem_append.mp h).elim (fun h => ha w (List.mem_cons.mpr (Or.inr h))) (hb w))
theorem goodIn_sub {big ws : List Cond} (hm : ∀ w ∈ ws, w ∈ big) (h : ws.all goodWord = true) : GoodIn big ws := fun w hw => ⟨hm w hw, good_of_word (List.all_eq_true.mp h w hw)⟩
/-! ===== END ===== -/

/-! ===== BEGIN printed: names, fields, word lists, decode rows ===== -/
def RX0 : String := "IdealProver$Division"
def TX0 : u_T := fun k => match k with
  | 0 => ("IdealProver$Division", "dividend", "LIdealProver$Polynomial;", true)
  | 1 => ("IdealProver$Division", "rest", "LIdealProver$Polynomial;", true)
  | 2 => ("IdealProver$Division", "quotients", "[LIdealProver$Polynomial;", true)
  | 3 => ("IdealProver$Division", "steps", "I", false)
  | _ => ("IdealProver$Division", "limit", "I", false)
def tyX0 : Nat → FieldType := fun k => match k with
  | 0 => .object "IdealProver$Polynomial"
  | 1 => .object "IdealProver$Polynomial"
  | 2 => .array (.object "IdealProver$Polynomial")
  | 3 => .int
  | _ => .int
abbrev wsX00 : List Cond := u_ws RX0 TX0 5
theorem nmX0 : ∀ a, a < 5 → ∀ b, b < 5 → a ≠ b → (TX0 a).2.1 ≠ (TX0 b).2.1 := by decide +kernel
theorem tyX0_ok : ∀ k, k < 5 → parseFieldDescriptor (TX0 k).2.2.1 = some (tyX0 k) := by decide +kernel
abbrev cX0_init : ByteArray := prog_2_method_1_code
def yX0_init : MethodName := ⟨RX0, "<init>", "(LIdealProver$Order;)V"⟩
abbrev cX0_allow : ByteArray := prog_2_method_2_code
def yX0_allow : MethodName := ⟨RX0, "allow", "(I)V"⟩
abbrev cX0_makeReady : ByteArray := prog_2_method_3_code
def yX0_makeReady : MethodName := ⟨RX0, "makeReady", "(I)V"⟩
abbrev cX0_run : ByteArray := prog_2_method_4_code
def yX0_run : MethodName := ⟨RX0, "run", "([LIdealProver$Element;II)I"⟩
abbrev cX0_firstDivisor : ByteArray := prog_2_method_5_code
def yX0_firstDivisor : MethodName := ⟨RX0, "firstDivisor", "([LIdealProver$Element;II)I"⟩
def RX1 : String := "IdealProver$Element"
def TX1 : u_T := fun k => match k with
  | 0 => ("IdealProver$Element", "body", "LIdealProver$Polynomial;", true)
  | _ => ("IdealProver$Element", "cofactors", "[LIdealProver$Polynomial;", true)
def tyX1 : Nat → FieldType := fun k => match k with
  | 0 => .object "IdealProver$Polynomial"
  | _ => .array (.object "IdealProver$Polynomial")
abbrev wsX10 : List Cond := u_ws RX1 TX1 2
theorem nmX1 : ∀ a, a < 2 → ∀ b, b < 2 → a ≠ b → (TX1 a).2.1 ≠ (TX1 b).2.1 := by decide +kernel
theorem tyX1_ok : ∀ k, k < 2 → parseFieldDescriptor (TX1 k).2.2.1 = some (tyX1 k) := by decide +kernel
abbrev cX1_init : ByteArray := prog_3_method_1_code
def yX1_init : MethodName := ⟨RX1, "<init>", "(LIdealProver$Order;I)V"⟩
abbrev cX1_leading : ByteArray := prog_3_method_2_code
def yX1_leading : MethodName := ⟨RX1, "leading", "()I"⟩
abbrev cX1_makeMonic : ByteArray := prog_3_method_3_code
def yX1_makeMonic : MethodName := ⟨RX1, "makeMonic", "(I)Z"⟩
def RX2 : String := "IdealProver$Fraction"
def TX2 : u_T := fun k => match k with
  | _ => ("", "", "", false)
def tyX2 : Nat → FieldType := fun k => match k with
  | _ => .int
abbrev wsX20 : List Cond := u_ws RX2 TX2 0
theorem nmX2 : ∀ a, a < 0 → ∀ b, b < 0 → a ≠ b → (TX2 a).2.1 ≠ (TX2 b).2.1 := by decide +kernel
theorem tyX2_ok : ∀ k, k < 0 → parseFieldDescriptor (TX2 k).2.2.1 = some (tyX2 k) := by decide +kernel
abbrev cX2_over : ByteArray := prog_4_method_2_code
def yX2_over : MethodName := ⟨RX2, "over", "(J)I"⟩
abbrev cX2_under : ByteArray := prog_4_method_3_code
def yX2_under : MethodName := ⟨RX2, "under", "(J)I"⟩
abbrev cX2_lowest : ByteArray := prog_4_method_4_code
def yX2_lowest : MethodName := ⟨RX2, "lowest", "(JJ)J"⟩
abbrev cX2_sum : ByteArray := prog_4_method_5_code
def yX2_sum : MethodName := ⟨RX2, "sum", "(JJ)J"⟩
abbrev cX2_product : ByteArray := prog_4_method_6_code
def yX2_product : MethodName := ⟨RX2, "product", "(JJ)J"⟩
abbrev cX2_negative : ByteArray := prog_4_method_7_code
def yX2_negative : MethodName := ⟨RX2, "negative", "(J)J"⟩
abbrev cX2_inverse : ByteArray := prog_4_method_8_code
def yX2_inverse : MethodName := ⟨RX2, "inverse", "(J)J"⟩
def RX3 : String := "IdealProver$Ideal"
def TX3 : u_T := fun k => match k with
  | 0 => ("IdealProver$Ideal", "order", "LIdealProver$Order;", true)
  | 1 => ("IdealProver$Ideal", "elements", "[LIdealProver$Element;", true)
  | 2 => ("IdealProver$Ideal", "count", "I", false)
  | 3 => ("IdealProver$Ideal", "stepsBegun", "I", false)
  | 4 => ("IdealProver$Ideal", "pairsTaken", "I", false)
  | 5 => ("IdealProver$Ideal", "pairsPassedOver", "I", false)
  | 6 => ("IdealProver$Ideal", "elementsMade", "I", false)
  | 7 => ("IdealProver$Ideal", "waiting", "[I", true)
  | 8 => ("IdealProver$Ideal", "left", "I", false)
  | 9 => ("IdealProver$Ideal", "right", "I", false)
  | _ => ("IdealProver$Ideal", "shares", "I", false)
def tyX3 : Nat → FieldType := fun k => match k with
  | 0 => .object "IdealProver$Order"
  | 1 => .array (.object "IdealProver$Element")
  | 2 => .int
  | 3 => .int
  | 4 => .int
  | 5 => .int
  | 6 => .int
  | 7 => .array .int
  | 8 => .int
  | 9 => .int
  | _ => .int
abbrev wsX30 : List Cond := u_ws RX3 TX3 11
theorem nmX3 : ∀ a, a < 11 → ∀ b, b < 11 → a ≠ b → (TX3 a).2.1 ≠ (TX3 b).2.1 := by decide +kernel
theorem tyX3_ok : ∀ k, k < 11 → parseFieldDescriptor (TX3 k).2.2.1 = some (tyX3 k) := by decide +kernel
abbrev cX3_init : ByteArray := prog_5_method_1_code
def yX3_init : MethodName := ⟨RX3, "<init>", "(LIdealProver$Order;I)V"⟩
abbrev cX3_build : ByteArray := prog_5_method_2_code
def yX3_build : MethodName := ⟨RX3, "build", "([LIdealProver$Polynomial;IILIdealProver$Division;I)I"⟩
abbrev cX3_begin : ByteArray := prog_5_method_3_code
def yX3_begin : MethodName := ⟨RX3, "begin", "(I)V"⟩
abbrev cX3_adopt : ByteArray := prog_5_method_4_code
def yX3_adopt : MethodName := ⟨RX3, "adopt", "([LIdealProver$Polynomial;I)I"⟩
abbrev cX3_add : ByteArray := prog_5_method_5_code
def yX3_add : MethodName := ⟨RX3, "add", "()V"⟩
abbrev cX3_choosePair : ByteArray := prog_5_method_6_code
def yX3_choosePair : MethodName := ⟨RX3, "choosePair", "()Z"⟩
abbrev cX3_settlePair : ByteArray := prog_5_method_7_code
def yX3_settlePair : MethodName := ⟨RX3, "settlePair", "(LIdealProver$Division;)I"⟩
abbrev cX3_isNeedless : ByteArray := prog_5_method_8_code
def yX3_isNeedless : MethodName := ⟨RX3, "isNeedless", "(I)Z"⟩
abbrev cX3_isWaiting : ByteArray := prog_5_method_9_code
def yX3_isWaiting : MethodName := ⟨RX3, "isWaiting", "(II)Z"⟩
abbrev cX3_crossOut : ByteArray := prog_5_method_10_code
def yX3_crossOut : MethodName := ⟨RX3, "crossOut", "(ILIdealProver$Polynomial;)Z"⟩
abbrev cX3_takeQuotients : ByteArray := prog_5_method_11_code
def yX3_takeQuotients : MethodName := ⟨RX3, "takeQuotients", "(LIdealProver$Element;LIdealProver$Division;)Z"⟩
abbrev cX3_dropNeedless : ByteArray := prog_5_method_12_code
def yX3_dropNeedless : MethodName := ⟨RX3, "dropNeedless", "()V"⟩
abbrev cX3_isCovered : ByteArray := prog_5_method_13_code
def yX3_isCovered : MethodName := ⟨RX3, "isCovered", "(II)Z"⟩
abbrev cX3_sortElements : ByteArray := prog_5_method_14_code
def yX3_sortElements : MethodName := ⟨RX3, "sortElements", "()V"⟩
abbrev cX3_reduceElement : ByteArray := prog_5_method_15_code
def yX3_reduceElement : MethodName := ⟨RX3, "reduceElement", "(ILIdealProver$Division;)I"⟩
abbrev cX3_isWhole : ByteArray := prog_5_method_16_code
def yX3_isWhole : MethodName := ⟨RX3, "isWhole", "()Z"⟩
abbrev cX3_countBelow : ByteArray := prog_5_method_17_code
def yX3_countBelow : MethodName := ⟨RX3, "countBelow", "(I)I"⟩
abbrev cX3_wall : ByteArray := prog_5_method_18_code
def yX3_wall : MethodName := ⟨RX3, "wall", "(II)I"⟩
abbrev cX3_height : ByteArray := prog_5_method_19_code
def yX3_height : MethodName := ⟨RX3, "height", "(II)I"⟩
def RX4 : String := "IdealProver$Monomial"
def TX4 : u_T := fun k => match k with
  | _ => ("", "", "", false)
def tyX4 : Nat → FieldType := fun k => match k with
  | _ => .int
abbrev wsX40 : List Cond := u_ws RX4 TX4 0
theorem nmX4 : ∀ a, a < 0 → ∀ b, b < 0 → a ≠ b → (TX4 a).2.1 ≠ (TX4 b).2.1 := by decide +kernel
theorem tyX4_ok : ∀ k, k < 0 → parseFieldDescriptor (TX4 k).2.2.1 = some (tyX4 k) := by decide +kernel
abbrev cX4_exponent : ByteArray := prog_6_method_2_code
def yX4_exponent : MethodName := ⟨RX4, "exponent", "(II)I"⟩
abbrev cX4_single : ByteArray := prog_6_method_3_code
def yX4_single : MethodName := ⟨RX4, "single", "(I)I"⟩
abbrev cX4_isInside : ByteArray := prog_6_method_4_code
def yX4_isInside : MethodName := ⟨RX4, "isInside", "(I)Z"⟩
abbrev cX4_divides : ByteArray := prog_6_method_5_code
def yX4_divides : MethodName := ⟨RX4, "divides", "(II)Z"⟩
abbrev cX4_leastCommon : ByteArray := prog_6_method_6_code
def yX4_leastCommon : MethodName := ⟨RX4, "leastCommon", "(II)I"⟩
abbrev cX4_haveVariableInCommon : ByteArray := prog_6_method_7_code
def yX4_haveVariableInCommon : MethodName := ⟨RX4, "haveVariableInCommon", "(II)Z"⟩
def RX5 : String := "IdealProver$Order"
def TX5 : u_T := fun k => match k with
  | _ => ("IdealProver$Order", "kind", "I", false)
def tyX5 : Nat → FieldType := fun k => match k with
  | _ => .int
abbrev wsX50 : List Cond := u_ws RX5 TX5 1
theorem nmX5 : ∀ a, a < 1 → ∀ b, b < 1 → a ≠ b → (TX5 a).2.1 ≠ (TX5 b).2.1 := by decide +kernel
theorem tyX5_ok : ∀ k, k < 1 → parseFieldDescriptor (TX5 k).2.2.1 = some (tyX5 k) := by decide +kernel
abbrev cX5_init : ByteArray := prog_7_method_1_code
def yX5_init : MethodName := ⟨RX5, "<init>", "()V"⟩
abbrev cX5_rank : ByteArray := prog_7_method_2_code
def yX5_rank : MethodName := ⟨RX5, "rank", "(I)I"⟩
def RX6 : String := "IdealProver$Polynomial"
def TX6 : u_T := fun k => match k with
  | 0 => ("IdealProver$Polynomial", "order", "LIdealProver$Order;", true)
  | 1 => ("IdealProver$Polynomial", "fractions", "[J", true)
  | 2 => ("IdealProver$Polynomial", "powers", "[I", true)
  | 3 => ("IdealProver$Polynomial", "ranks", "[I", true)
  | _ => ("IdealProver$Polynomial", "count", "I", false)
def tyX6 : Nat → FieldType := fun k => match k with
  | 0 => .object "IdealProver$Order"
  | 1 => .array .long
  | 2 => .array .int
  | 3 => .array .int
  | _ => .int
abbrev wsX60 : List Cond := u_ws RX6 TX6 5
theorem nmX6 : ∀ a, a < 5 → ∀ b, b < 5 → a ≠ b → (TX6 a).2.1 ≠ (TX6 b).2.1 := by decide +kernel
theorem tyX6_ok : ∀ k, k < 5 → parseFieldDescriptor (TX6 k).2.2.1 = some (tyX6 k) := by decide +kernel
abbrev cX6_init : ByteArray := prog_8_method_1_code
def yX6_init : MethodName := ⟨RX6, "<init>", "(LIdealProver$Order;)V"⟩
abbrev cX6_empty : ByteArray := prog_8_method_2_code
def yX6_empty : MethodName := ⟨RX6, "empty", "()V"⟩
abbrev cX6_become : ByteArray := prog_8_method_3_code
def yX6_become : MethodName := ⟨RX6, "become", "(LIdealProver$Polynomial;)V"⟩
abbrev cX6_isLike : ByteArray := prog_8_method_4_code
def yX6_isLike : MethodName := ⟨RX6, "isLike", "(LIdealProver$Polynomial;)Z"⟩
abbrev cX6_isWithout : ByteArray := prog_8_method_5_code
def yX6_isWithout : MethodName := ⟨RX6, "isWithout", "(I)Z"⟩
abbrev cX6_come : ByteArray := prog_8_method_6_code
def yX6_come : MethodName := ⟨RX6, "come", "(JI)Z"⟩
abbrev cX6_find : ByteArray := prog_8_method_7_code
def yX6_find : MethodName := ⟨RX6, "find", "(I)I"⟩
abbrev cX6_shift : ByteArray := prog_8_method_8_code
def yX6_shift : MethodName := ⟨RX6, "shift", "(II)V"⟩
abbrev cX6_behead : ByteArray := prog_8_method_9_code
def yX6_behead : MethodName := ⟨RX6, "behead", "()V"⟩
abbrev cX6_addMultiple : ByteArray := prog_8_method_10_code
def yX6_addMultiple : MethodName := ⟨RX6, "addMultiple", "(JILIdealProver$Polynomial;)Z"⟩
abbrev cX6_addProduct : ByteArray := prog_8_method_11_code
def yX6_addProduct : MethodName := ⟨RX6, "addProduct", "(LIdealProver$Polynomial;LIdealProver$Polynomial;)Z"⟩
abbrev cX6_becomeProduct : ByteArray := prog_8_method_12_code
def yX6_becomeProduct : MethodName := ⟨RX6, "becomeProduct", "(LIdealProver$Polynomial;LIdealProver$Polynomial;)Z"⟩
abbrev cX6_multiply : ByteArray := prog_8_method_13_code
def yX6_multiply : MethodName := ⟨RX6, "multiply", "(J)Z"⟩
abbrev cX6_arrange : ByteArray := prog_8_method_14_code
def yX6_arrange : MethodName := ⟨RX6, "arrange", "()V"⟩
abbrev cX6_valueAt : ByteArray := prog_8_method_15_code
def yX6_valueAt : MethodName := ⟨RX6, "valueAt", "([II)J"⟩
abbrev cX6_termAt : ByteArray := prog_8_method_16_code
def yX6_termAt : MethodName := ⟨RX6, "termAt", "(I[II)J"⟩
def RX7 : String := "IdealProver"
def TX7 : u_T := fun k => match k with
  | 0 => ("IdealProver", "variableCount", "I", true)
  | 1 => ("IdealProver", "monomialOrder", "LIdealProver$Order;", true)
  | 2 => ("IdealProver", "places", "[LIdealProver$Polynomial;", true)
  | 3 => ("IdealProver", "generators", "[LIdealProver$Polynomial;", true)
  | 4 => ("IdealProver", "generatorCount", "I", false)
  | 5 => ("IdealProver", "house", "LIdealProver$Ideal;", true)
  | 6 => ("IdealProver", "houseStands", "Z", false)
  | 7 => ("IdealProver", "guest", "LIdealProver$Ideal;", true)
  | 8 => ("IdealProver", "work", "LIdealProver$Division;", false)
  | 9 => ("IdealProver", "proof", "LIdealProver$Division;", false)
  | 10 => ("IdealProver", "proven", "Z", false)
  | 11 => ("IdealProver", "sum", "LIdealProver$Polynomial;", true)
  | 12 => ("IdealProver", "product", "LIdealProver$Polynomial;", true)
  | _ => ("IdealProver", "point", "[I", true)
def tyX7 : Nat → FieldType := fun k => match k with
  | 0 => .int
  | 1 => .object "IdealProver$Order"
  | 2 => .array (.object "IdealProver$Polynomial")
  | 3 => .array (.object "IdealProver$Polynomial")
  | 4 => .int
  | 5 => .object "IdealProver$Ideal"
  | 6 => .boolean
  | 7 => .object "IdealProver$Ideal"
  | 8 => .object "IdealProver$Division"
  | 9 => .object "IdealProver$Division"
  | 10 => .boolean
  | 11 => .object "IdealProver$Polynomial"
  | 12 => .object "IdealProver$Polynomial"
  | _ => .array .int
abbrev wsX70 : List Cond := u_ws RX7 TX7 14
theorem nmX7 : ∀ a, a < 14 → ∀ b, b < 14 → a ≠ b → (TX7 a).2.1 ≠ (TX7 b).2.1 := by decide +kernel
theorem tyX7_ok : ∀ k, k < 14 → parseFieldDescriptor (TX7 k).2.2.1 = some (tyX7 k) := by decide +kernel
abbrev cX7_init : ByteArray := prog_1_method_1_code
def yX7_init : MethodName := ⟨RX7, "<init>", "(I)V"⟩
abbrev cX7_variables : ByteArray := prog_1_method_2_code
def yX7_variables : MethodName := ⟨RX7, "variables", "()I"⟩
abbrev cX7_order : ByteArray := prog_1_method_3_code
def yX7_order : MethodName := ⟨RX7, "order", "(I)I"⟩
abbrev cX7_term : ByteArray := prog_1_method_4_code
def yX7_term : MethodName := ⟨RX7, "term", "(IIII)I"⟩
abbrev cX7_zero : ByteArray := prog_1_method_5_code
def yX7_zero : MethodName := ⟨RX7, "zero", "(I)I"⟩
abbrev cX7_size : ByteArray := prog_1_method_6_code
def yX7_size : MethodName := ⟨RX7, "size", "(I)I"⟩
abbrev cX7_told : ByteArray := prog_1_method_7_code
def yX7_told : MethodName := ⟨RX7, "told", "(III)I"⟩
abbrev cX7_plus : ByteArray := prog_1_method_8_code
def yX7_plus : MethodName := ⟨RX7, "plus", "(III)I"⟩
abbrev cX7_times : ByteArray := prog_1_method_9_code
def yX7_times : MethodName := ⟨RX7, "times", "(III)I"⟩
abbrev cX7_same : ByteArray := prog_1_method_10_code
def yX7_same : MethodName := ⟨RX7, "same", "(II)I"⟩
abbrev cX7_vanishes : ByteArray := prog_1_method_11_code
def yX7_vanishes : MethodName := ⟨RX7, "vanishes", "(IIIII)I"⟩
abbrev cX7_generator : ByteArray := prog_1_method_12_code
def yX7_generator : MethodName := ⟨RX7, "generator", "(I)I"⟩
abbrev cX7_clear : ByteArray := prog_1_method_13_code
def yX7_clear : MethodName := ⟨RX7, "clear", "()I"⟩
abbrev cX7_basis : ByteArray := prog_1_method_14_code
def yX7_basis : MethodName := ⟨RX7, "basis", "(I)I"⟩
abbrev cX7_done : ByteArray := prog_1_method_15_code
def yX7_done : MethodName := ⟨RX7, "done", "(I)I"⟩
abbrev cX7_element : ByteArray := prog_1_method_16_code
def yX7_element : MethodName := ⟨RX7, "element", "(II)I"⟩
abbrev cX7_share : ByteArray := prog_1_method_17_code
def yX7_share : MethodName := ⟨RX7, "share", "(III)I"⟩
abbrev cX7_divide : ByteArray := prog_1_method_18_code
def yX7_divide : MethodName := ⟨RX7, "divide", "(II)I"⟩
abbrev cX7_certificate : ByteArray := prog_1_method_19_code
def yX7_certificate : MethodName := ⟨RX7, "certificate", "(II)I"⟩
abbrev cX7_check : ByteArray := prog_1_method_20_code
def yX7_check : MethodName := ⟨RX7, "check", "()I"⟩
abbrev cX7_radical : ByteArray := prog_1_method_21_code
def yX7_radical : MethodName := ⟨RX7, "radical", "(II)I"⟩
abbrev cX7_free : ByteArray := prog_1_method_22_code
def yX7_free : MethodName := ⟨RX7, "free", "(I)I"⟩
abbrev cX7_stairs : ByteArray := prog_1_method_23_code
def yX7_stairs : MethodName := ⟨RX7, "stairs", "()I"⟩
abbrev cX7_row : ByteArray := prog_1_method_24_code
def yX7_row : MethodName := ⟨RX7, "row", "(ILIdealProver$Order;)[LIdealProver$Polynomial;"⟩
abbrev cX7_isPlace : ByteArray := prog_1_method_25_code
def yX7_isPlace : MethodName := ⟨RX7, "isPlace", "(I)Z"⟩
abbrev cX7_isLarge : ByteArray := prog_1_method_26_code
def yX7_isLarge : MethodName := ⟨RX7, "isLarge", "(II)Z"⟩
abbrev cX7_isTold : ByteArray := prog_1_method_27_code
def yX7_isTold : MethodName := ⟨RX7, "isTold", "(I)Z"⟩
abbrev cX7_isElement : ByteArray := prog_1_method_28_code
def yX7_isElement : MethodName := ⟨RX7, "isElement", "(I)Z"⟩
abbrev cX7_isGenerator : ByteArray := prog_1_method_29_code
def yX7_isGenerator : MethodName := ⟨RX7, "isGenerator", "(I)Z"⟩
abbrev cX7_put : ByteArray := prog_1_method_30_code
def yX7_put : MethodName := ⟨RX7, "put", "(LIdealProver$Polynomial;I)I"⟩
abbrev cX7_forgetBasis : ByteArray := prog_1_method_31_code
def yX7_forgetBasis : MethodName := ⟨RX7, "forgetBasis", "()V"⟩
abbrev cX7_sumUp : ByteArray := prog_1_method_32_code
def yX7_sumUp : MethodName := ⟨RX7, "sumUp", "([LIdealProver$Polynomial;)Z"⟩
def RX8 : String := "IdealProverModel"
def TX8 : u_T := fun k => match k with
  | 0 => ("IdealProverModel", "n", "I", true)
  | 1 => ("IdealProverModel", "vars", "I", false)
  | 2 => ("IdealProverModel", "kind", "I", false)
  | 3 => ("IdealProverModel", "num", "[I", true)
  | 4 => ("IdealProverModel", "den", "[I", true)
  | 5 => ("IdealProverModel", "mono", "[I", true)
  | 6 => ("IdealProverModel", "size", "[I", true)
  | 7 => ("IdealProverModel", "generators", "I", false)
  | 8 => ("IdealProverModel", "elements", "I", false)
  | 9 => ("IdealProverModel", "hasBasis", "Z", false)
  | 10 => ("IdealProverModel", "hasCertificate", "Z", false)
  | 11 => ("IdealProverModel", "full", "Z", false)
  | 12 => ("IdealProverModel", "spent", "Z", false)
  | 13 => ("IdealProverModel", "steps", "I", false)
  | 14 => ("IdealProverModel", "most", "I", false)
  | 15 => ("IdealProverModel", "did", "[I", true)
  | 16 => ("IdealProverModel", "up", "I", false)
  | 17 => ("IdealProverModel", "down", "I", false)
  | 18 => ("IdealProverModel", "at", "[I", true)
  | 19 => ("IdealProverModel", "firstOf", "I", false)
  | 20 => ("IdealProverModel", "manyOf", "I", false)
  | 21 => ("IdealProverModel", "leftOut", "I", false)
  | 22 => ("IdealProverModel", "withShares", "Z", false)
  | 23 => ("IdealProverModel", "waits", "[Z", true)
  | 24 => ("IdealProverModel", "pairsDone", "I", false)
  | 25 => ("IdealProverModel", "pairsPassed", "I", false)
  | 26 => ("IdealProverModel", "madeCount", "I", false)
  | _ => ("IdealProverModel", "goes", "[Z", true)
def tyX8 : Nat → FieldType := fun k => match k with
  | 0 => .int
  | 1 => .int
  | 2 => .int
  | 3 => .array .int
  | 4 => .array .int
  | 5 => .array .int
  | 6 => .array .int
  | 7 => .int
  | 8 => .int
  | 9 => .boolean
  | 10 => .boolean
  | 11 => .boolean
  | 12 => .boolean
  | 13 => .int
  | 14 => .int
  | 15 => .array .int
  | 16 => .int
  | 17 => .int
  | 18 => .array .int
  | 19 => .int
  | 20 => .int
  | 21 => .int
  | 22 => .boolean
  | 23 => .array .boolean
  | 24 => .int
  | 25 => .int
  | 26 => .int
  | _ => .array .boolean
abbrev wsX80 : List Cond := u_ws RX8 TX8 28
theorem nmX8 : ∀ a, a < 28 → ∀ b, b < 28 → a ≠ b → (TX8 a).2.1 ≠ (TX8 b).2.1 := by decide +kernel
theorem tyX8_ok : ∀ k, k < 28 → parseFieldDescriptor (TX8 k).2.2.1 = some (tyX8 k) := by decide +kernel
abbrev cX8_init : ByteArray := prog_10_method_1_code
def yX8_init : MethodName := ⟨RX8, "<init>", "(I)V"⟩
abbrev cX8_variables : ByteArray := prog_10_method_2_code
def yX8_variables : MethodName := ⟨RX8, "variables", "()I"⟩
abbrev cX8_exponent : ByteArray := prog_10_method_3_code
def yX8_exponent : MethodName := ⟨RX8, "exponent", "(II)I"⟩
abbrev cX8_sum : ByteArray := prog_10_method_4_code
def yX8_sum : MethodName := ⟨RX8, "sum", "(I)I"⟩
abbrev cX8_compare : ByteArray := prog_10_method_5_code
def yX8_compare : MethodName := ⟨RX8, "compare", "(II)I"⟩
abbrev cX8_divides : ByteArray := prog_10_method_6_code
def yX8_divides : MethodName := ⟨RX8, "divides", "(II)Z"⟩
abbrev cX8_common : ByteArray := prog_10_method_7_code
def yX8_common : MethodName := ⟨RX8, "common", "(II)I"⟩
abbrev cX8_product : ByteArray := prog_10_method_8_code
def yX8_product : MethodName := ⟨RX8, "product", "(II)I"⟩
abbrev cX8_lowest : ByteArray := prog_10_method_9_code
def yX8_lowest : MethodName := ⟨RX8, "lowest", "(JJ)V"⟩
abbrev cX8_multiplied : ByteArray := prog_10_method_10_code
def yX8_multiplied : MethodName := ⟨RX8, "multiplied", "(JJJJ)V"⟩
abbrev cX8_copy : ByteArray := prog_10_method_11_code
def yX8_copy : MethodName := ⟨RX8, "copy", "(II)V"⟩
abbrev cX8_lead : ByteArray := prog_10_method_12_code
def yX8_lead : MethodName := ⟨RX8, "lead", "(I)I"⟩
abbrev cX8_comes : ByteArray := prog_10_method_13_code
def yX8_comes : MethodName := ⟨RX8, "comes", "(IIII)V"⟩
abbrev cX8_adds : ByteArray := prog_10_method_14_code
def yX8_adds : MethodName := ⟨RX8, "adds", "(IIIII)V"⟩
abbrev cX8_made : ByteArray := prog_10_method_15_code
def yX8_made : MethodName := ⟨RX8, "made", "(III)V"⟩
abbrev cX8_isSame : ByteArray := prog_10_method_16_code
def yX8_isSame : MethodName := ⟨RX8, "isSame", "(II)Z"⟩
abbrev cX8_sorted : ByteArray := prog_10_method_17_code
def yX8_sorted : MethodName := ⟨RX8, "sorted", "(I)V"⟩
abbrev cX8_order : ByteArray := prog_10_method_18_code
def yX8_order : MethodName := ⟨RX8, "order", "(I)I"⟩
abbrev cX8_isPlace : ByteArray := prog_10_method_19_code
def yX8_isPlace : MethodName := ⟨RX8, "isPlace", "(I)Z"⟩
abbrev cX8_term : ByteArray := prog_10_method_20_code
def yX8_term : MethodName := ⟨RX8, "term", "(IIII)I"⟩
abbrev cX8_taken : ByteArray := prog_10_method_21_code
def yX8_taken : MethodName := ⟨RX8, "taken", "(II)I"⟩
abbrev cX8_zero : ByteArray := prog_10_method_22_code
def yX8_zero : MethodName := ⟨RX8, "zero", "(I)I"⟩
abbrev cX8_size : ByteArray := prog_10_method_23_code
def yX8_size : MethodName := ⟨RX8, "size", "(I)I"⟩
abbrev cX8_told : ByteArray := prog_10_method_24_code
def yX8_told : MethodName := ⟨RX8, "told", "(III)I"⟩
abbrev cX8_plus : ByteArray := prog_10_method_25_code
def yX8_plus : MethodName := ⟨RX8, "plus", "(III)I"⟩
abbrev cX8_times : ByteArray := prog_10_method_26_code
def yX8_times : MethodName := ⟨RX8, "times", "(III)I"⟩
abbrev cX8_same : ByteArray := prog_10_method_27_code
def yX8_same : MethodName := ⟨RX8, "same", "(II)I"⟩
abbrev cX8_vanishes : ByteArray := prog_10_method_28_code
def yX8_vanishes : MethodName := ⟨RX8, "vanishes", "(IIIII)I"⟩
abbrev cX8_divided : ByteArray := prog_10_method_29_code
def yX8_divided : MethodName := ⟨RX8, "divided", "(II)V"⟩
abbrev cX8_cofactor : ByteArray := prog_10_method_30_code
def yX8_cofactor : MethodName := ⟨RX8, "cofactor", "(II)I"⟩
abbrev cX8_lessShares : ByteArray := prog_10_method_31_code
def yX8_lessShares : MethodName := ⟨RX8, "lessShares", "(III)V"⟩
abbrev cX8_scaled : ByteArray := prog_10_method_32_code
def yX8_scaled : MethodName := ⟨RX8, "scaled", "(III)V"⟩
abbrev cX8_monic : ByteArray := prog_10_method_33_code
def yX8_monic : MethodName := ⟨RX8, "monic", "(I)V"⟩
abbrev cX8_isWaiting : ByteArray := prog_10_method_34_code
def yX8_isWaiting : MethodName := ⟨RX8, "isWaiting", "(II)Z"⟩
abbrev cX8_addPairs : ByteArray := prog_10_method_35_code
def yX8_addPairs : MethodName := ⟨RX8, "addPairs", "(I)V"⟩
abbrev cX8_isPassed : ByteArray := prog_10_method_36_code
def yX8_isPassed : MethodName := ⟨RX8, "isPassed", "(III)Z"⟩
abbrev cX8_make : ByteArray := prog_10_method_37_code
def yX8_make : MethodName := ⟨RX8, "make", "(IIZ)V"⟩
abbrev cX8_onePair : ByteArray := prog_10_method_38_code
def yX8_onePair : MethodName := ⟨RX8, "onePair", "()Z"⟩
abbrev cX8_clean : ByteArray := prog_10_method_39_code
def yX8_clean : MethodName := ⟨RX8, "clean", "()V"⟩
abbrev cX8_move : ByteArray := prog_10_method_40_code
def yX8_move : MethodName := ⟨RX8, "move", "(II)V"⟩
abbrev cX8_reduce : ByteArray := prog_10_method_41_code
def yX8_reduce : MethodName := ⟨RX8, "reduce", "(I)V"⟩
abbrev cX8_generator : ByteArray := prog_10_method_42_code
def yX8_generator : MethodName := ⟨RX8, "generator", "(I)I"⟩
abbrev cX8_clear : ByteArray := prog_10_method_43_code
def yX8_clear : MethodName := ⟨RX8, "clear", "()I"⟩
abbrev cX8_basis : ByteArray := prog_10_method_44_code
def yX8_basis : MethodName := ⟨RX8, "basis", "(I)I"⟩
abbrev cX8_done : ByteArray := prog_10_method_45_code
def yX8_done : MethodName := ⟨RX8, "done", "(I)I"⟩
abbrev cX8_element : ByteArray := prog_10_method_46_code
def yX8_element : MethodName := ⟨RX8, "element", "(II)I"⟩
abbrev cX8_share : ByteArray := prog_10_method_47_code
def yX8_share : MethodName := ⟨RX8, "share", "(III)I"⟩
abbrev cX8_own : ByteArray := prog_10_method_48_code
def yX8_own : MethodName := ⟨RX8, "own", "()V"⟩
abbrev cX8_divide : ByteArray := prog_10_method_49_code
def yX8_divide : MethodName := ⟨RX8, "divide", "(II)I"⟩
abbrev cX8_certificate : ByteArray := prog_10_method_50_code
def yX8_certificate : MethodName := ⟨RX8, "certificate", "(II)I"⟩
abbrev cX8_check : ByteArray := prog_10_method_51_code
def yX8_check : MethodName := ⟨RX8, "check", "()I"⟩
abbrev cX8_radical : ByteArray := prog_10_method_52_code
def yX8_radical : MethodName := ⟨RX8, "radical", "(II)I"⟩
abbrev cX8_free : ByteArray := prog_10_method_53_code
def yX8_free : MethodName := ⟨RX8, "free", "(I)I"⟩
abbrev cX8_stairs : ByteArray := prog_10_method_54_code
def yX8_stairs : MethodName := ⟨RX8, "stairs", "()I"⟩
abbrev cX8_isStair : ByteArray := prog_10_method_55_code
def yX8_isStair : MethodName := ⟨RX8, "isStair", "(I)Z"⟩
def RJ9 : String := "java/lang/Math"
def TJ9 : u_T := fun k => match k with
  | _ => ("", "", "", false)
def tyJ9 : Nat → FieldType := fun k => match k with
  | _ => .int
abbrev wsJ90 : List Cond := u_ws RJ9 TJ9 0
theorem nmJ9 : ∀ a, a < 0 → ∀ b, b < 0 → a ≠ b → (TJ9 a).2.1 ≠ (TJ9 b).2.1 := by decide +kernel
theorem tyJ9_ok : ∀ k, k < 0 → parseFieldDescriptor (TJ9 k).2.2.1 = some (tyJ9 k) := by decide +kernel
abbrev cJ9_min_7cf53 : ByteArray := prog_11_method_69_code
def yJ9_min_7cf53 : MethodName := ⟨RJ9, "min", "(II)I"⟩
def RJ10 : String := "java/lang/System"
def TJ10 : u_T := fun k => match k with
  | _ => ("", "", "", false)
def tyJ10 : Nat → FieldType := fun k => match k with
  | _ => .int
abbrev wsJ100 : List Cond := u_ws RJ10 TJ10 0
theorem nmJ10 : ∀ a, a < 0 → ∀ b, b < 0 → a ≠ b → (TJ10 a).2.1 ≠ (TJ10 b).2.1 := by decide +kernel
theorem tyJ10_ok : ∀ k, k < 0 → parseFieldDescriptor (TJ10 k).2.2.1 = some (tyJ10 k) := by decide +kernel
def RL : String := "IdealProverLaw"
abbrev cL_cell : ByteArray := method_2_code
def yL_cell : MethodName := ⟨RL, "cell", "([II)I"⟩
abbrev cL_law : ByteArray := code
def yL_law : MethodName := ⟨RL, "law", "([I)Z"⟩
end
section
/-! THE SMALL MACHINE: a memory of rows of numbers under small names (0 is null, 1 the script, the rest in the order of their making), instructions whose pool numbers are resolved, and what it is that a run of them ends well -/
abbrev zM : Type := (Nat → Nat × Nat) × Nat × Nat × (Nat → Nat → Int32) × (Nat → Nat → Int64) × (Nat → Nat → Nat)
abbrev zLv : Type := List (Option Value)
abbrev zO : Type := (Nat × zLv × List Value × zM) ⊕ (List Value × zM) ⊕ (Nat × Nat × List Value × Nat × zLv × List Value × zM)
abbrev zRes : Type := Option (List Prop × List (Prop × zO) × zO)
/-- shape of a row: its kind and length; 1 the script, 2 int[], 3 long[], 4 boolean[], 5 and 6 arrays of objects, 10 + c an object of class c -/
def zsh (M : zM) (a : Nat) : Nat × Nat := M.1 a
def zn (M : zM) : Nat := M.2.1
def zs (M : zM) : Nat := M.2.2.1
def zI (M : zM) (a k : Nat) : Int32 := M.2.2.2.1 a k
def zL (M : zM) (a k : Nat) : Int64 := M.2.2.2.2.1 a k
def zR (M : zM) (a k : Nat) : Nat := M.2.2.2.2.2 a k
def zuI (M : zM) (a k : Nat) (v : Int32) : zM := (M.1, M.2.1, M.2.2.1, (fun i j => if i = a ∧ j = k then v else M.2.2.2.1 i j), M.2.2.2.2.1, M.2.2.2.2.2)
def zuL (M : zM) (a k : Nat) (v : Int64) : zM := (M.1, M.2.1, M.2.2.1, M.2.2.2.1, (fun i j => if i = a ∧ j = k then v else M.2.2.2.2.1 i j), M.2.2.2.2.2)
def zuR (M : zM) (a k : Nat) (v : Nat) : zM := (M.1, M.2.1, M.2.2.1, M.2.2.2.1, M.2.2.2.2.1, (fun i j => if i = a ∧ j = k then v else M.2.2.2.2.2 i j))
/-- a row copied into another -/
def zcI (M : zM) (a sp b dp n : Nat) : zM := (M.1, M.2.1, M.2.2.1, (fun i j => if i = b ∧ dp ≤ j ∧ j < dp + n then M.2.2.2.1 a (sp + (j - dp)) else M.2.2.2.1 i j), M.2.2.2.2.1, M.2.2.2.2.2)
def zcL (M : zM) (a sp b dp n : Nat) : zM := (M.1, M.2.1, M.2.2.1, M.2.2.2.1, (fun i j => if i = b ∧ dp ≤ j ∧ j < dp + n then M.2.2.2.2.1 a (sp + (j - dp)) else M.2.2.2.2.1 i j), M.2.2.2.2.2)
/-- a new row of a shape, of so many slots -/
def zal (M : zM) (sh : Nat × Nat) (w : Nat) : zM := ((fun i => if i = M.2.1 then sh else M.1 i), M.2.1 + 1, M.2.2.1 + w, (fun i j => if i = M.2.1 then 0 else M.2.2.2.1 i j), (fun i j => if i = M.2.1 then 0 else M.2.2.2.2.1 i j), (fun i j => if i = M.2.1 then 0 else M.2.2.2.2.2 i j))
def zat {α : Type} : List α → Nat → Option α
  | [], _ => none
  | a :: _, 0 => some a
  | _ :: l, j + 1 => zat l j
def zset {α : Type} : List α → Nat → α → List α
  | [], _, _ => []
  | _ :: l, 0, v => v :: l
  | a :: l, j + 1, v => a :: zset l j v
/-- the first half of a long goes when its second half is written -/
def zwipe : Option Value → Option Value
  | some (.long _) => none
  | some (.double _) => none
  | v => v
def zkl : zLv → Nat → zLv
  | [], _ => []
  | a :: l, 0 => a :: l
  | a :: l, 1 => zwipe a :: l
  | a :: l, j + 2 => a :: zkl l (j + 1)
def zst1 (lv : zLv) (j : Nat) (v : Value) : zLv := zset (zkl lv j) j (some v)
def zst2 (lv : zLv) (j : Nat) (v : Value) : zLv := zset (zset (zkl lv j) j (some v)) (j + 1) none
/-- a constant -/
def zc : Int → Int32
  | .ofNat k => Int32.ofNat k
  | .negSucc k => -(Int32.ofNat (k + 1))
def zcl : Int → Int64
  | .ofNat k => Int64.ofNat k
  | .negSucc k => -(Int64.ofNat (k + 1))
def zin (j : Int32) (n : Nat) : Prop := ¬ (j < 0 ∨ n ≤ j.toNatClampNeg)
def zb (x : Int32) : Prop := x = 0 ∨ x = 1
def zcat : List Value → Nat
  | [] => 0
  | .long _ :: l => zcat l + 2
  | .double _ :: l => zcat l + 2
  | _ :: l => zcat l + 1
def zpop : Nat → List Value → List Value → Option (List Value × List Value)
  | 0, acc, st => some (acc, st)
  | _ + 1, _, [] => none
  | n + 1, acc, v :: st => zpop n (v :: acc) st
def znx (i : Nat) (lv : zLv) (st : List Value) (M : zM) : zRes := some ([], [], .inl (i, lv, st, M))
def zcs (cs : List Prop) (i : Nat) (lv : zLv) (st : List Value) (M : zM) : zRes := some (cs, [], .inl (i, lv, st, M))
def zbr (c : Prop) (t i : Nat) (lv : zLv) (st : List Value) (M : zM) : zRes := some ([], [(c, .inl (t, lv, st, M))], .inl (i, lv, st, M))
def zti (st : List Value) (f : Int32 → List Value → zRes) : zRes := match st with
  | .int x :: r => f x r
  | _ => none
def ztii (st : List Value) (f : Int32 → Int32 → List Value → zRes) : zRes := match st with
  | .int y :: .int x :: r => f x y r
  | _ => none
def ztl (st : List Value) (f : Int64 → List Value → zRes) : zRes := match st with
  | .long x :: r => f x r
  | _ => none
def ztll (st : List Value) (f : Int64 → Int64 → List Value → zRes) : zRes := match st with
  | .long y :: .long x :: r => f x y r
  | _ => none
def ztli (st : List Value) (f : Int64 → Int32 → List Value → zRes) : zRes := match st with
  | .int y :: .long x :: r => f x y r
  | _ => none
def ztr (st : List Value) (f : Nat → List Value → zRes) : zRes := match st with
  | .ref x :: r => f x r
  | _ => none
def ztri (st : List Value) (f : Nat → Int32 → List Value → zRes) : zRes := match st with
  | .int j :: .ref a :: r => f a j r
  | _ => none
def ztrii (st : List Value) (f : Nat → Int32 → Int32 → List Value → zRes) : zRes := match st with
  | .int v :: .int j :: .ref a :: r => f a j v r
  | _ => none
def ztril (st : List Value) (f : Nat → Int32 → Int64 → List Value → zRes) : zRes := match st with
  | .long v :: .int j :: .ref a :: r => f a j v r
  | _ => none
def ztrir (st : List Value) (f : Nat → Int32 → Nat → List Value → zRes) : zRes := match st with
  | .ref v :: .int j :: .ref a :: r => f a j v r
  | _ => none
def ztrr (st : List Value) (f : Nat → Nat → List Value → zRes) : zRes := match st with
  | .ref v :: .ref a :: r => f a v r
  | _ => none
/-- what arraycopy takes: n, dp, b, sp, a from the top -/
def ztcp (st : List Value) (f : Nat → Int32 → Nat → Int32 → Int32 → zRes) : zRes := match st with
  | [.int n, .int dp, .ref b, .int sp, .ref a] => f a sp b dp n
  | _ => none
def ztii0 (st : List Value) (f : Int32 → Int32 → zRes) : zRes := match st with
  | [.int y, .int x] => f x y
  | _ => none
def ztr0 (st : List Value) (f : Nat → zRes) : zRes := match st with
  | [.ref x] => f x
  | _ => none
def zsw (x : Int32) (lv : zLv) (r : List Value) (M : zM) : Int → List Int → List (Prop × zO)
  | _, [] => []
  | v, t :: ts => (x.toInt = v, .inl (t.toNat, lv, r, M)) :: zsw x lv r M (v + 1) ts
def zpk (M : zM) (a sp : Nat) (b : Nat) (dp n : Int32) (s0 : Int32) : List Prop := [¬ s0 < 0, ¬ dp < 0, ¬ n < 0, sp + n.toNatClampNeg ≤ (zsh M a).2, dp.toNatClampNeg + n.toNatClampNeg ≤ (zsh M b).2]
/-- a call: number of the method, of its arguments, the class of its object (0: static), the kind of its answer -/
def zcall (x : Nat) (obj : Bool) (i : Nat) (lv : zLv) (st : List Value) (M : zM) : zRes :=
  match zpop (x / 1000 % 10) [] st with
  | none => none
  | some (as, r) => cond (Nat.ble (zcat r) 8) (cond obj (match as with
      | .ref a :: _ => some ([(zsh M a).1 = 10 + x % 100], [], .inr (.inr (x / 10000, x / 100 % 10, as, i + 1, lv, r, M)))
      | _ => none) (some ([], [], .inr (.inr (x / 10000, x / 100 % 10, as, i + 1, lv, r, M))))) none
def zretq (rk : Nat) (st : List Value) (M : zM) : zRes :=
  match st with
  | [] => cond (rk == 0) (some ([], [], .inr (.inl ([], M)))) none
  | [.int v] => cond (rk == 1) (some ([], [], .inr (.inl ([.int v], M)))) (cond (rk == 2) (some ([zb v], [], .inr (.inl ([.int v], M)))) none)
  | [.long v] => cond (rk == 3) (some ([], [], .inr (.inl ([.long v], M)))) none
  | [.ref v] => cond (rk == 4) (some ([], [], .inr (.inl ([.ref v], M)))) none
  | _ => none
set_option maxHeartbeats 4000000 in
def zstep (rk : Nat) (ins : Instr) (i : Nat) (lv : zLv) (st : List Value) (M : zM) : zRes :=
  match ins with
  | .iconst n => znx (i + 1) lv (.int (zc n) :: st) M
  | .jsr_w n => znx (i + 1) lv (.long (zcl n) :: st) M
  | .iload j => (match zat lv j with
    | some (some (.int x)) => znx (i + 1) lv (.int x :: st) M
    | _ => none)
  | .lload j => (match zat lv j with
    | some (some (.long x)) => znx (i + 1) lv (.long x :: st) M
    | _ => none)
  | .aload j => (match zat lv j with
    | some (some (.ref x)) => znx (i + 1) lv (.ref x :: st) M
    | _ => none)
  | .istore j => zti st fun x r => znx (i + 1) (zst1 lv j (.int x)) r M
  | .lstore j => ztl st fun x r => znx (i + 1) (zst2 lv j (.long x)) r M
  | .astore j => ztr st fun x r => znx (i + 1) (zst1 lv j (.ref x)) r M
  | .iinc j n => (match zat lv j with
    | some (some (.int x)) => znx (i + 1) (zst1 lv j (.int (x + zc n))) st M
    | _ => none)
  | .iadd => ztii st fun x y r => znx (i + 1) lv (.int (x + y) :: r) M
  | .isub => ztii st fun x y r => znx (i + 1) lv (.int (x - y) :: r) M
  | .imul => ztii st fun x y r => znx (i + 1) lv (.int (x * y) :: r) M
  | .iand => ztii st fun x y r => znx (i + 1) lv (.int (x &&& y) :: r) M
  | .ior => ztii st fun x y r => znx (i + 1) lv (.int (x ||| y) :: r) M
  | .ineg => zti st fun x r => znx (i + 1) lv (.int (-x) :: r) M
  | .ishl => ztii st fun x y r => znx (i + 1) lv (.int (x <<< (y &&& 31)) :: r) M
  | .ishr => ztii st fun x y r => znx (i + 1) lv (.int (x >>> (y &&& 31)) :: r) M
  | .iushr => ztii st fun x y r => znx (i + 1) lv (.int (x.toUInt32 >>> (y.toUInt32 &&& Int32.toUInt32 31)).toInt32 :: r) M
  | .ladd => ztll st fun x y r => znx (i + 1) lv (.long (x + y) :: r) M
  | .lsub => ztll st fun x y r => znx (i + 1) lv (.long (x - y) :: r) M
  | .lmul => ztll st fun x y r => znx (i + 1) lv (.long (x * y) :: r) M
  | .lor => ztll st fun x y r => znx (i + 1) lv (.long (x ||| y) :: r) M
  | .land => ztll st fun x y r => znx (i + 1) lv (.long (x &&& y) :: r) M
  | .lneg => ztl st fun x r => znx (i + 1) lv (.long (-x) :: r) M
  | .ldiv => ztll st fun x y r => zcs [¬ y = 0] (i + 1) lv (.long (x / y) :: r) M
  | .lrem => ztll st fun x y r => zcs [¬ y = 0] (i + 1) lv (.long (x - x / y * y) :: r) M
  | .lshl => ztli st fun x y r => znx (i + 1) lv (.long (x <<< (y.toInt64 &&& 63)) :: r) M
  | .lshr => ztli st fun x y r => znx (i + 1) lv (.long (x >>> (y.toInt64 &&& 63)) :: r) M
  | .i2l => zti st fun x r => znx (i + 1) lv (.long x.toInt64 :: r) M
  | .l2i => ztl st fun x r => znx (i + 1) lv (.int x.toInt32 :: r) M
  | .lcmp => ztll st fun x y r => znx (i + 1) lv (.int (lg_cmp x y) :: r) M
  | .dup => (match st with
    | .int x :: r => znx (i + 1) lv (.int x :: .int x :: r) M
    | .ref x :: r => znx (i + 1) lv (.ref x :: .ref x :: r) M
    | _ => none)
  | .dup2 => ztri st fun a j r => znx (i + 1) lv (.int j :: .ref a :: .int j :: .ref a :: r) M
  | .pop => (match st with
    | .int _ :: r => znx (i + 1) lv r M
    | _ => none)
  | .goto t => znx t.toNat lv st M
  | .ifCond .eq t => zti st fun x r => zbr (x = 0) t.toNat (i + 1) lv r M
  | .ifCond .ne t => zti st fun x r => zbr (¬ x = 0) t.toNat (i + 1) lv r M
  | .ifCond .lt t => zti st fun x r => zbr (x < 0) t.toNat (i + 1) lv r M
  | .ifCond .ge t => zti st fun x r => zbr (0 ≤ x) t.toNat (i + 1) lv r M
  | .ifCond .gt t => zti st fun x r => zbr (0 < x) t.toNat (i + 1) lv r M
  | .ifCond .le t => zti st fun x r => zbr (x ≤ 0) t.toNat (i + 1) lv r M
  | .if_icmp .eq t => ztii st fun x y r => zbr (x = y) t.toNat (i + 1) lv r M
  | .if_icmp .ne t => ztii st fun x y r => zbr (¬ x = y) t.toNat (i + 1) lv r M
  | .if_icmp .lt t => ztii st fun x y r => zbr (x < y) t.toNat (i + 1) lv r M
  | .if_icmp .ge t => ztii st fun x y r => zbr (y ≤ x) t.toNat (i + 1) lv r M
  | .if_icmp .gt t => ztii st fun x y r => zbr (y < x) t.toNat (i + 1) lv r M
  | .if_icmp .le t => ztii st fun x y r => zbr (x ≤ y) t.toNat (i + 1) lv r M
  | .tableswitch d lo _ ts => zti st fun x r => some ([], zsw x lv r M lo ts.toList, .inl (d.toNat, lv, r, M))
  | .getfield x => ztr st fun a r => zcs [(zsh M a).1 = 10 + x / 1000] (i + 1) lv (cond (x % 10 == 2) (.ref (zR M a (x / 10 % 100))) (.int (zI M a (x / 10 % 100))) :: r) M
  | .putfield x => cond (x % 10 == 2) (ztrr st fun a v r => zcs [(zsh M a).1 = 10 + x / 1000] (i + 1) lv r (zuR M a (x / 10 % 100) v))
    (match st with
    | .int v :: .ref a :: r => zcs (cond (x % 10 == 1) [(zsh M a).1 = 10 + x / 1000, zb v] [(zsh M a).1 = 10 + x / 1000]) (i + 1) lv r (zuI M a (x / 10 % 100) v)
    | _ => none)
  | .saload => ztri st fun a j r => zcs [a = 1, zin j (zsh M 1).2] (i + 1) lv (.int (zI M 1 j.toNatClampNeg) :: r) M
  | .arraylength => ztr st fun a r => zcs [a = 1] (i + 1) lv (.int (Int32.ofNat (zsh M 1).2) :: r) M
  | .iaload => ztri st fun a j r => zcs [(zsh M a).1 = 2, zin j (zsh M a).2] (i + 1) lv (.int (zI M a j.toNatClampNeg) :: r) M
  | .laload => ztri st fun a j r => zcs [(zsh M a).1 = 3, zin j (zsh M a).2] (i + 1) lv (.long (zL M a j.toNatClampNeg) :: r) M
  | .baload => ztri st fun a j r => zcs [(zsh M a).1 = 4, zin j (zsh M a).2] (i + 1) lv (.int (zI M a j.toNatClampNeg) :: r) M
  | .ret kd => ztri st fun a j r => zcs [(zsh M a).1 = 5 + kd % 2, zin j (zsh M a).2] (i + 1) lv (.ref (zR M a j.toNatClampNeg) :: r) M
  | .iastore => ztrii st fun a j v r => zcs [(zsh M a).1 = 2, zin j (zsh M a).2] (i + 1) lv r (zuI M a j.toNatClampNeg v)
  | .bastore => ztrii st fun a j v r => zcs [(zsh M a).1 = 4, zin j (zsh M a).2, zb v] (i + 1) lv r (zuI M a j.toNatClampNeg v)
  | .lastore => ztril st fun a j v r => zcs [(zsh M a).1 = 3, zin j (zsh M a).2] (i + 1) lv r (zuL M a j.toNatClampNeg v)
  | .putstatic x => ztrir st fun a j v r => zcs [(zsh M a).1 = 5 + x % 2, zin j (zsh M a).2, (zsh M v).1 = 10 + x / 10] (i + 1) lv r (zuR M a j.toNatClampNeg v)
  | .faload => ztcp st fun a sp b dp n => zcs (((zsh M a).1 = 2) :: ((zsh M b).1 = 2) :: zpk M a sp.toNatClampNeg b dp n sp) (i + 1) lv [] (zcI M a sp.toNatClampNeg b dp.toNatClampNeg n.toNatClampNeg)
  | .daload => ztcp st fun a sp b dp n => zcs (((zsh M a).1 = 3) :: ((zsh M b).1 = 3) :: zpk M a sp.toNatClampNeg b dp n sp) (i + 1) lv [] (zcL M a sp.toNatClampNeg b dp.toNatClampNeg n.toNatClampNeg)
  | .dadd => ztii0 st fun x y => znx (i + 1) lv [.int (if y < x then y else x)] M
  | .nop => ztr0 st fun a => zcs [¬ a = 0] (i + 1) lv [] M
  | .new x => znx (i + 1) lv (.ref (zn M) :: st) (zal M (10 + x / 100, 0) (x % 100))
  | .newarray .int => zti st fun n r => zcs [¬ n < 0, n.toNatClampNeg ≤ 100000] (i + 1) lv (.ref (zn M) :: r) (zal M (2, n.toNatClampNeg) n.toNatClampNeg)
  | .newarray .long => zti st fun n r => zcs [¬ n < 0, n.toNatClampNeg ≤ 100000] (i + 1) lv (.ref (zn M) :: r) (zal M (3, n.toNatClampNeg) n.toNatClampNeg)
  | .newarray .boolean => zti st fun n r => zcs [¬ n < 0, n.toNatClampNeg ≤ 100000] (i + 1) lv (.ref (zn M) :: r) (zal M (4, n.toNatClampNeg) n.toNatClampNeg)
  | .anewarray kd => zti st fun n r => zcs [¬ n < 0, n.toNatClampNeg ≤ 100000] (i + 1) lv (.ref (zn M) :: r) (zal M (5 + kd % 2, n.toNatClampNeg) n.toNatClampNeg)
  | .invokestatic x => zcall x false i lv st M
  | .invokevirtual x => zcall x true i lv st M
  | .invokespecial x => zcall x true i lv st M
  | .ireturn => (match st with
    | [.int v] => zretq rk [.int v] M
    | _ => none)
  | .lreturn => (match st with
    | [.long v] => zretq rk [.long v] M
    | _ => none)
  | .areturn => (match st with
    | [.ref v] => zretq rk [.ref v] M
    | _ => none)
  | .return_ => (match st with
    | [] => zretq rk [] M
    | _ => none)
  | _ => none
end
section
def zcj : List Prop → Prop → Prop
  | [], p => p
  | c :: l, p => c ∧ zcj l p
def zch {α : Type} : List (Prop × α) → α → (α → Prop) → Prop
  | [], o, k => k o
  | (c, x) :: l, o, k => (c → k x) ∧ (¬ c → zch l o k)
noncomputable def zpick {α : Type} : List (Prop × α) → α → α
  | [], o => o
  | (c, x) :: l, o => @ite α c (Classical.propDecidable c) x (zpick l o)
/-- the answer of a call, by its kind -/
def zrv (rk : Nat) (r : List Value) (f : List Value → Prop) : Prop := match rk with
  | 0 => r = [] ∧ f []
  | 1 => ∃ x : Int32, r = [.int x] ∧ f [.int x]
  | 2 => ∃ x : Int32, r = [.int x] ∧ f [.int x]
  | 3 => ∃ x : Int64, r = [.long x] ∧ f [.long x]
  | _ => ∃ x : Nat, r = [.ref x] ∧ f [.ref x]
abbrev zCall : Type := Nat → List Value → zM → (List Value → zM → Prop) → Prop
def zout (Cl : zCall) (k : Nat → zLv → List Value → zM → Prop) (Q : List Value → zM → Prop) : zO → Prop
  | .inl (i, lv, st, M) => k i lv st M
  | .inr (.inl (r, M)) => Q r M
  | .inr (.inr (m, rk, as, i, lv, st, M)) => Cl m as M fun r M2 => zrv rk r fun vs => k i lv (vs ++ st) M2
def zres (r : zRes) (k : zO → Prop) : Prop := match r with
  | none => False
  | some (cs, ch, o) => zcj cs (zch ch o k)
def zgo (rk : Nat) (code : List Instr) (i : Nat) (lv : zLv) (st : List Value) (M : zM) (k : zO → Prop) : Prop := match zat code i with
  | none => False
  | some ins => zres (zstep rk ins i lv st M) k
/-- from here on, in at most so many steps: to an end with Q, or to a place where it stops, with K -/
def zwp (Cl : zCall) (rk : Nat) (code : List Instr) (stop : Nat → Bool) (K : Nat → zLv → List Value → zM → Prop) (Q : List Value → zM → Prop) : Nat → Nat → zLv → List Value → zM → Prop
  | 0, _, _, _, _ => False
  | f + 1, i, lv, st, M => zgo rk code i lv st M (zout Cl (fun i lv st M => cond (stop i) (K i lv st M) (zwp Cl rk code stop K Q f i lv st M)) Q)
def zW (Cl : zCall) (rk : Nat) (code : List Instr) (Q : List Value → zM → Prop) (i : Nat) (lv : zLv) (st : List Value) (M : zM) : Prop := ∃ f, zwp Cl rk code (fun _ => false) (fun _ _ _ _ => False) Q f i lv st M
theorem zcj_imp : ∀ {cs : List Prop} {p q : Prop}, (p → q) → zcj cs p → zcj cs q
  | [], _, _, h, a => h a
  | _ :: _, _, _, h, a => ⟨a.1, zcj_imp h a.2⟩
theorem zcj_iff : ∀ {cs : List Prop} {p : Prop}, zcj cs p ↔ (∀ c ∈ cs, c) ∧ p
  | [], p => ⟨fun h => ⟨fun c hc => absurd hc List.not_mem_nil, h⟩, fun h => h.2⟩
  | c :: cs, p => by
    show c ∧ zcj cs p ↔ _
    rw [zcj_iff]
    constructor
    · rintro ⟨a, b, d⟩
      refine ⟨fun x hx => ?_, d⟩
      rcases List.mem_cons.mp hx with rfl | hx
      · exact a
      · exact b x hx
    · rintro ⟨a, d⟩
      exact ⟨a _ List.mem_cons_self, fun x hx => a x (List.mem_cons_of_mem _ hx), d⟩
theorem zch_iff {α : Type} : ∀ {ch : List (Prop × α)} {o : α} {k : α → Prop}, zch ch o k ↔ k (zpick ch o)
  | [], o, k => Iff.rfl
  | (c, x) :: l, o, k => by
    show ((c → k x) ∧ (¬ c → zch l o k)) ↔ k (@ite α c (Classical.propDecidable c) x (zpick l o))
    rw [zch_iff]
    by_cases h : c
    · simp [h]
    · simp [h]
theorem zrv_iff {rk : Nat} {r : List Value} {f : List Value → Prop} : zrv rk r f ↔ zrv rk r (fun _ => True) ∧ f r := by
  unfold zrv
  split
  · exact ⟨fun ⟨h, a⟩ => ⟨⟨h, trivial⟩, h ▸ a⟩, fun ⟨⟨h, _⟩, a⟩ => ⟨h, h ▸ a⟩⟩
  · exact ⟨fun ⟨x, h, a⟩ => ⟨⟨x, h, trivial⟩, h ▸ a⟩, fun ⟨⟨x, h, _⟩, a⟩ => ⟨x, h, h ▸ a⟩⟩
  · exact ⟨fun ⟨x, h, a⟩ => ⟨⟨x, h, trivial⟩, h ▸ a⟩, fun ⟨⟨x, h, _⟩, a⟩ => ⟨x, h, h ▸ a⟩⟩
  · exact ⟨fun ⟨x, h, a⟩ => ⟨⟨x, h, trivial⟩, h ▸ a⟩, fun ⟨⟨x, h, _⟩, a⟩ => ⟨x, h, h ▸ a⟩⟩
  · exact ⟨fun ⟨x, h, a⟩ => ⟨⟨x, h, trivial⟩, h ▸ a⟩, fun ⟨⟨x, h, _⟩, a⟩ => ⟨x, h, h ▸ a⟩⟩
/-- calls are good: they say no less of more, and have one end -/
def zgood (Cl : zCall) : Prop := (∀ m as M (Q Q' : List Value → zM → Prop), (∀ r M2, Q r M2 → Q' r M2) → Cl m as M Q → Cl m as M Q') ∧ ∀ m as M Q, Cl m as M Q → ∃ r M2, Q r M2 ∧ zn M ≤ zn M2 ∧ zs M ≤ zs M2 ∧ Cl m as M (fun r' M' => r' = r ∧ M' = M2)
theorem zres_imp {r : zRes} {k k' : zO → Prop} (h : ∀ o, k o → k' o) (a : zres r k) : zres r k' := by
  match r, a with
  | some (cs, ch, o), a => exact zcj_imp (fun b => zch_iff.mpr (h _ (zch_iff.mp b))) a
theorem zgo_imp {rk : Nat} {code : List Instr} {i : Nat} {lv : zLv} {st : List Value} {M : zM} {k k' : zO → Prop} (h : ∀ o, k o → k' o) (a : zgo rk code i lv st M k) : zgo rk code i lv st M k' := by
  unfold zgo at a ⊢
  split at a
  · exact a
  · exact zres_imp h a
theorem zout_imp {Cl : zCall} (hC : zgood Cl) {k k' : Nat → zLv → List Value → zM → Prop} {Q Q' : List Value → zM → Prop} (hk : ∀ i lv st M, k i lv st M → k' i lv st M) (hQ : ∀ r M, Q r M → Q' r M) : ∀ o, zout Cl k Q o → zout Cl k' Q' o
  | .inl (_, _, _, _), a => hk _ _ _ _ a
  | .inr (.inl (_, _)), a => hQ _ _ a
  | .inr (.inr (m, rk, as, i, lv, st, M)), a => hC.1 m as M _ _ (fun r M2 b => zrv_iff.mpr ⟨(zrv_iff.mp b).1, hk _ _ _ _ (zrv_iff.mp b).2⟩) a
theorem zwp_imp {Cl : zCall} (hC : zgood Cl) {rk : Nat} {code : List Instr} {stop : Nat → Bool} {K K' : Nat → zLv → List Value → zM → Prop} {Q Q' : List Value → zM → Prop} (hK : ∀ i lv st M, K i lv st M → K' i lv st M) (hQ : ∀ r M, Q r M → Q' r M) : ∀ (f i : Nat) (lv : zLv) (st : List Value) (M : zM), zwp Cl rk code stop K Q f i lv st M → zwp Cl rk code stop K' Q' f i lv st M
  | 0, _, _, _, _, a => a
  | f + 1, i, lv, st, M, a => zgo_imp (zout_imp hC (fun i lv st M b => by
      cases hs : stop i
      · rw [hs] at b; exact zwp_imp hC hK hQ f i lv st M b
      · rw [hs] at b; exact hK _ _ _ _ b) hQ) a
theorem zwp_fuel {Cl : zCall} (hC : zgood Cl) {rk : Nat} {code : List Instr} {stop : Nat → Bool} {K : Nat → zLv → List Value → zM → Prop} {Q : List Value → zM → Prop} : ∀ (f f' i : Nat) (lv : zLv) (st : List Value) (M : zM), f ≤ f' → zwp Cl rk code stop K Q f i lv st M → zwp Cl rk code stop K Q f' i lv st M
  | 0, _, _, _, _, _, _, a => a.elim
  | f + 1, 0, _, _, _, _, h, _ => absurd h (Nat.not_succ_le_zero f)
  | f + 1, f' + 1, i, lv, st, M, h, a => zgo_imp (zout_imp hC (fun i lv st M b => by
      cases hs : stop i
      · rw [hs] at b; exact zwp_fuel hC f f' i lv st M (Nat.le_of_succ_le_succ h) b
      · rw [hs] at b; exact b) (fun _ _ b => b)) a
def zOM : zO → zM
  | .inl (_, _, _, M) => M
  | .inr (.inl (_, M)) => M
  | .inr (.inr (_, _, _, _, _, _, M)) => M
/-- memory only grows -/
def zgr (M : zM) (r : zRes) : Prop := match r with
  | none => True
  | some (_, ch, o) => (zn M ≤ zn (zOM o) ∧ zs M ≤ zs (zOM o)) ∧ ∀ q ∈ ch, zn M ≤ zn (zOM q.2) ∧ zs M ≤ zs (zOM q.2)
theorem zgr_nx {M : zM} {i : Nat} {lv : zLv} {st : List Value} {M' : zM} (h : zn M ≤ zn M' ∧ zs M ≤ zs M') : zgr M (znx i lv st M') := ⟨h, fun _ h => by cases h⟩
theorem zgr_cs {M : zM} {cs : List Prop} {i : Nat} {lv : zLv} {st : List Value} {M' : zM} (h : zn M ≤ zn M' ∧ zs M ≤ zs M') : zgr M (zcs cs i lv st M') := ⟨h, fun _ h => by cases h⟩
theorem zgr_br {M : zM} {c : Prop} {t i : Nat} {lv : zLv} {st : List Value} : zgr M (zbr c t i lv st M) := ⟨⟨Nat.le_refl _, Nat.le_refl _⟩, fun q h => by
  rw [List.mem_singleton] at h
  subst h
  exact ⟨Nat.le_refl _, Nat.le_refl _⟩⟩
theorem zsw_mem {x : Int32} {lv : zLv} {r : List Value} {M : zM} : ∀ (ts : List Int) (v : Int) (q : Prop × zO), q ∈ zsw x lv r M v ts → zOM q.2 = M
  | [], _, _, h => by cases h
  | t :: ts, v, q, h => by
    rcases List.mem_cons.mp h with rfl | h
    · rfl
    · exact zsw_mem ts (v + 1) q h
theorem zgr_call {M : zM} {x : Nat} {ob : Bool} {i : Nat} {lv : zLv} {st : List Value} : zgr M (zcall x ob i lv st M) := by
  have h0 : zn M ≤ zn M ∧ zs M ≤ zs M := ⟨Nat.le_refl _, Nat.le_refl _⟩
  unfold zcall
  split
  · trivial
  · cases Nat.ble _ 8
    · trivial
    · cases ob
      · exact ⟨h0, fun _ h => by cases h⟩
      · dsimp only [cond]
        split
        · exact ⟨h0, fun _ h => by cases h⟩
        · trivial
theorem zgr_retq {M : zM} {rk : Nat} {st : List Value} : zgr M (zretq rk st M) := by
  have h0 : zn M ≤ zn M ∧ zs M ≤ zs M := ⟨Nat.le_refl _, Nat.le_refl _⟩
  unfold zretq
  split
  · cases rk == 0
    · trivial
    · exact ⟨h0, fun _ h => by cases h⟩
  · cases rk == 1
    · cases rk == 2
      · trivial
      · exact ⟨h0, fun _ h => by cases h⟩
    · exact ⟨h0, fun _ h => by cases h⟩
  · cases rk == 3
    · trivial
    · exact ⟨h0, fun _ h => by cases h⟩
  · cases rk == 4
    · trivial
    · exact ⟨h0, fun _ h => by cases h⟩
  · trivial
theorem zgr_ti {M : zM} {st : List Value} {f : Int32 → List Value → zRes} (h : ∀ x r, zgr M (f x r)) : zgr M (zti st f) := by
  unfold zti; split
  · exact h _ _
  · trivial
theorem zgr_tii {M : zM} {st : List Value} {f : Int32 → Int32 → List Value → zRes} (h : ∀ x y r, zgr M (f x y r)) : zgr M (ztii st f) := by
  unfold ztii; split
  · exact h _ _ _
  · trivial
theorem zgr_tl {M : zM} {st : List Value} {f : Int64 → List Value → zRes} (h : ∀ x r, zgr M (f x r)) : zgr M (ztl st f) := by
  unfold ztl; split
  · exact h _ _
  · trivial
theorem zgr_tll {M : zM} {st : List Value} {f : Int64 → Int64 → List Value → zRes} (h : ∀ x y r, zgr M (f x y r)) : zgr M (ztll st f) := by
  unfold ztll; split
  · exact h _ _ _
  · trivial
theorem zgr_tli {M : zM} {st : List Value} {f : Int64 → Int32 → List Value → zRes} (h : ∀ x y r, zgr M (f x y r)) : zgr M (ztli st f) := by
  unfold ztli; split
  · exact h _ _ _
  · trivial
theorem zgr_tr {M : zM} {st : List Value} {f : Nat → List Value → zRes} (h : ∀ x r, zgr M (f x r)) : zgr M (ztr st f) := by
  unfold ztr; split
  · exact h _ _
  · trivial
theorem zgr_tri {M : zM} {st : List Value} {f : Nat → Int32 → List Value → zRes} (h : ∀ x y r, zgr M (f x y r)) : zgr M (ztri st f) := by
  unfold ztri; split
  · exact h _ _ _
  · trivial
theorem zgr_trii {M : zM} {st : List Value} {f : Nat → Int32 → Int32 → List Value → zRes} (h : ∀ x y z r, zgr M (f x y z r)) : zgr M (ztrii st f) := by
  unfold ztrii; split
  · exact h _ _ _ _
  · trivial
theorem zgr_tril {M : zM} {st : List Value} {f : Nat → Int32 → Int64 → List Value → zRes} (h : ∀ x y z r, zgr M (f x y z r)) : zgr M (ztril st f) := by
  unfold ztril; split
  · exact h _ _ _ _
  · trivial
theorem zgr_trir {M : zM} {st : List Value} {f : Nat → Int32 → Nat → List Value → zRes} (h : ∀ x y z r, zgr M (f x y z r)) : zgr M (ztrir st f) := by
  unfold ztrir; split
  · exact h _ _ _ _
  · trivial
theorem zgr_trr {M : zM} {st : List Value} {f : Nat → Nat → List Value → zRes} (h : ∀ x y r, zgr M (f x y r)) : zgr M (ztrr st f) := by
  unfold ztrr; split
  · exact h _ _ _
  · trivial
theorem zgr_tcp {M : zM} {st : List Value} {f : Nat → Int32 → Nat → Int32 → Int32 → zRes} (h : ∀ a b c d e, zgr M (f a b c d e)) : zgr M (ztcp st f) := by
  unfold ztcp; split
  · exact h _ _ _ _ _
  · trivial
theorem zgr_tii0 {M : zM} {st : List Value} {f : Int32 → Int32 → zRes} (h : ∀ x y, zgr M (f x y)) : zgr M (ztii0 st f) := by
  unfold ztii0; split
  · exact h _ _
  · trivial
theorem zgr_tr0 {M : zM} {st : List Value} {f : Nat → zRes} (h : ∀ x, zgr M (f x)) : zgr M (ztr0 st f) := by
  unfold ztr0; split
  · exact h _
  · trivial
set_option maxHeartbeats 4000000 in
theorem zgr_step (rk : Nat) (ins : Instr) (i : Nat) (lv : zLv) (st : List Value) (M : zM) : zgr M (zstep rk ins i lv st M) := by
  have h0 : zn M ≤ zn M ∧ zs M ≤ zs M := ⟨Nat.le_refl _, Nat.le_refl _⟩
  have h1 : ∀ sh w, zn M ≤ zn (zal M sh w) ∧ zs M ≤ zs (zal M sh w) := fun sh w => ⟨Nat.le_succ _, Nat.le_add_right _ _⟩
  unfold zstep
  split
  all_goals first
    | exact trivial
    | exact zgr_nx h0
    | exact zgr_nx (h1 _ _)
    | exact zgr_ti fun _ _ => zgr_nx h0
    | exact zgr_tii fun _ _ _ => zgr_nx h0
    | exact zgr_tl fun _ _ => zgr_nx h0
    | exact zgr_tll fun _ _ _ => zgr_nx h0
    | exact zgr_tli fun _ _ _ => zgr_nx h0
    | exact zgr_tr fun _ _ => zgr_nx h0
    | exact zgr_tri fun _ _ _ => zgr_nx h0
    | exact zgr_ti fun _ _ => zgr_cs (h1 _ _)
    | exact zgr_tll fun _ _ _ => zgr_cs h0
    | exact zgr_tr fun _ _ => zgr_cs h0
    | exact zgr_tri fun _ _ _ => zgr_cs h0
    | exact zgr_trii fun _ _ _ _ => zgr_cs h0
    | exact zgr_tril fun _ _ _ _ => zgr_cs h0
    | exact zgr_trir fun _ _ _ _ => zgr_cs h0
    | exact zgr_tcp fun _ _ _ _ _ => zgr_cs h0
    | exact zgr_tii0 fun _ _ => zgr_nx h0
    | exact zgr_tr0 fun _ => zgr_cs h0
    | exact zgr_ti fun _ _ => zgr_br
    | exact zgr_tii fun _ _ _ => zgr_br
    | exact zgr_call
    | (split
       · exact zgr_retq
       · exact trivial)
    | exact zgr_ti fun _ _ => ⟨h0, fun q hq => by rw [zsw_mem _ _ q hq]; exact h0⟩
    | (split
       · exact zgr_nx h0
       · exact trivial)
    | (split
       · exact zgr_nx h0
       · exact zgr_nx h0
       · exact trivial)
    | skip
  all_goals
    cases h : (_ % 10 == 2)
    · dsimp only [cond]
      split
      · exact zgr_cs h0
      · exact trivial
    · exact zgr_trr fun _ _ _ => zgr_cs h0
theorem zpick_mem {α : Type} : ∀ (ch : List (Prop × α)) (o : α), zpick ch o = o ∨ ∃ q ∈ ch, zpick ch o = q.2
  | [], o => Or.inl rfl
  | (c, x) :: l, o => by
    show @ite α c (Classical.propDecidable c) x (zpick l o) = o ∨ _
    by_cases h : c
    · exact Or.inr ⟨(c, x), List.mem_cons_self, by show @ite α c (Classical.propDecidable c) x (zpick l o) = x; rw [if_pos h]⟩
    · rcases zpick_mem l o with h1 | ⟨q, hq, h1⟩
      · exact Or.inl (by rw [if_neg h]; exact h1)
      · exact Or.inr ⟨q, List.mem_cons_of_mem _ hq, by show @ite α c (Classical.propDecidable c) x (zpick l o) = q.2; rw [if_neg h]; exact h1⟩
/-- a step has one way on -/
theorem zgo_one {rk : Nat} {code : List Instr} {i : Nat} {lv : zLv} {st : List Value} {M : zM} {k : zO → Prop} (a : zgo rk code i lv st M k) : ∃ o, k o ∧ zn M ≤ zn (zOM o) ∧ zs M ≤ zs (zOM o) ∧ ∀ k' : zO → Prop, k' o → zgo rk code i lv st M k' := by
  unfold zgo at a ⊢
  split at a
  · exact a.elim
  · rename_i ins he
    have hg := zgr_step rk ins i lv st M
    revert a hg
    cases zstep rk ins i lv st M with
    | none => exact fun h => h.elim
    | some r =>
      obtain ⟨cs, ch, o⟩ := r
      intro a hg
      have a' := zcj_iff.mp a
      have hp : zn M ≤ zn (zOM (zpick ch o)) ∧ zs M ≤ zs (zOM (zpick ch o)) := by
        rcases zpick_mem ch o with h | ⟨q, hq, h⟩
        · rw [h]; exact hg.1
        · rw [h]; exact hg.2 q hq
      exact ⟨zpick ch o, zch_iff.mp a'.2, hp.1, hp.2, fun k' hk => zcj_iff.mpr ⟨a'.1, zch_iff.mpr hk⟩⟩
theorem zwp_det {Cl : zCall} (hC : zgood Cl) {rk : Nat} {code : List Instr} {Q : List Value → zM → Prop} : ∀ (f i : Nat) (lv : zLv) (st : List Value) (M : zM), zwp Cl rk code (fun _ => false) (fun _ _ _ _ => False) Q f i lv st M → ∃ r M2, Q r M2 ∧ zn M ≤ zn M2 ∧ zs M ≤ zs M2 ∧ zwp Cl rk code (fun _ => false) (fun _ _ _ _ => False) (fun r' M' => r' = r ∧ M' = M2) f i lv st M
  | 0, _, _, _, _, a => a.elim
  | f + 1, i, lv, st, M, a => by
    obtain ⟨o, ho, g1, g2, hk⟩ := zgo_one a
    match o, ho, g1, g2, hk with
    | .inl (i', lv', st', M'), ho, g1, g2, hk =>
      obtain ⟨r, M2, hq, h1, h2, h3⟩ := zwp_det hC f i' lv' st' M' ho
      exact ⟨r, M2, hq, Nat.le_trans g1 h1, Nat.le_trans g2 h2, hk _ h3⟩
    | .inr (.inl (r, M')), ho, g1, g2, hk => exact ⟨r, M', ho, g1, g2, hk _ ⟨rfl, rfl⟩⟩
    | .inr (.inr (m, rk', as, i', lv', st', M')), ho, g1, g2, hk =>
      obtain ⟨r1, M1, b, e1, e2, e3⟩ := hC.2 _ _ _ _ ho
      obtain ⟨b1, b2⟩ := zrv_iff.mp b
      obtain ⟨r, M2, hq, h1, h2, h3⟩ := zwp_det hC f i' lv' (r1 ++ st') M1 b2
      exact ⟨r, M2, hq, Nat.le_trans g1 (Nat.le_trans e1 h1), Nat.le_trans g2 (Nat.le_trans e2 h2), hk _ (hC.1 _ _ _ _ _ (fun r' M' ⟨x, y⟩ => by subst x; subst y; exact zrv_iff.mpr ⟨b1, h3⟩) e3)⟩
/-- a stretch, then what is behind its stops -/
theorem zseg {Cl : zCall} (hC : zgood Cl) {rk : Nat} {code : List Instr} {Q : List Value → zM → Prop} (stop : Nat → Bool) : ∀ (f : Nat) {i : Nat} {lv : zLv} {st : List Value} {M : zM}, zwp Cl rk code stop (zW Cl rk code Q) Q f i lv st M → zW Cl rk code Q i lv st M
  | 0, _, _, _, _, a => a.elim
  | f + 1, i, lv, st, M, a => by
    obtain ⟨o, ho, -, -, hk⟩ := zgo_one a
    have key : ∀ i' lv' st' M', (cond (stop i') (zW Cl rk code Q i' lv' st' M') (zwp Cl rk code stop (zW Cl rk code Q) Q f i' lv' st' M')) → zW Cl rk code Q i' lv' st' M' := by
      intro i' lv' st' M' h
      cases hs : stop i'
      · rw [hs] at h; exact zseg hC stop f h
      · rw [hs] at h; exact h
    match o, ho, hk with
    | .inl (i', lv', st', M'), ho, hk =>
      obtain ⟨g, hg⟩ := key _ _ _ _ ho
      exact ⟨g + 1, hk _ hg⟩
    | .inr (.inl (r, M')), ho, hk => exact ⟨1, hk _ ho⟩
    | .inr (.inr (m, rk', as, i', lv', st', M')), ho, hk =>
      obtain ⟨r1, M1, b, -, -, e3⟩ := hC.2 _ _ _ _ ho
      obtain ⟨b1, b2⟩ := zrv_iff.mp b
      obtain ⟨g, hg⟩ := key _ _ _ _ b2
      exact ⟨g + 1, hk _ (hC.1 _ _ _ _ _ (fun r' M' ⟨x, y⟩ => by subst x; subst y; exact zrv_iff.mpr ⟨b1, hg⟩) e3)⟩
theorem zW_imp {Cl : zCall} (hC : zgood Cl) {rk : Nat} {code : List Instr} {Q Q' : List Value → zM → Prop} (h : ∀ r M, Q r M → Q' r M) {i : Nat} {lv : zLv} {st : List Value} {M : zM} (a : zW Cl rk code Q i lv st M) : zW Cl rk code Q' i lv st M := by
  obtain ⟨f, a⟩ := a
  exact ⟨f, zwp_imp hC (fun _ _ _ _ h => h) h f i lv st M a⟩
/-- the locals at a method's entry -/
def zarg : List Value → zLv
  | [] => []
  | .long x :: l => some (.long x) :: none :: zarg l
  | .double x :: l => some (.double x) :: none :: zarg l
  | v :: l => some v :: zarg l
def zpad : Nat → zLv → zLv
  | 0, l => l
  | n + 1, [] => none :: zpad n []
  | n + 1, a :: l => a :: zpad n l
/-- a method: its code, its answer's kind, how many locals -/
abbrev zMe : Type := List Instr × Nat × Nat
def zCl (tb : Nat → zMe) : Nat → zCall
  | 0 => fun _ _ _ _ => False
  | d + 1 => fun m as M Q => (zarg as).length ≤ (tb m).2.2 ∧ zW (zCl tb d) (tb m).2.1 (tb m).1 Q 0 (zpad (tb m).2.2 (zarg as)) [] M
theorem zCl_good (tb : Nat → zMe) : ∀ d, zgood (zCl tb d)
  | 0 => ⟨fun _ _ _ _ _ _ h => h, fun _ _ _ _ h => h.elim⟩
  | d + 1 => by
    refine ⟨fun m as M Q Q' h a => ⟨a.1, zW_imp (zCl_good tb d) h a.2⟩, fun m as M Q a => ?_⟩
    obtain ⟨a0, f, a⟩ := a
    obtain ⟨r, M2, h1, h2, h3, h4⟩ := zwp_det (zCl_good tb d) f _ _ _ _ a
    exact ⟨r, M2, h1, h2, h3, a0, f, h4⟩
end
section
/-! THE CODE, by wip/whole/gen.py out of the task: field kinds, methods (name, bytes, locals, answer), small code, places of its instructions -/
abbrev zMi : Type := MethodName × ByteArray × Nat × Option FieldType
abbrev gCl : List vw_C := [(RX0, TX0, 5), (RX1, TX1, 2), (RX3, TX3, 11), (RX5, TX5, 1), (RX6, TX6, 5), (RX7, TX7, 14), (RX8, TX8, 28)]
def gFk : Nat → List Nat
  | 0 => [2, 2, 2, 0, 0]
  | 1 => [2, 2]
  | 2 => [2, 2, 0, 0, 0, 0, 0, 2, 0, 0, 0]
  | 3 => [0]
  | 4 => [2, 2, 2, 2, 0]
  | 5 => [0, 2, 2, 2, 0, 2, 1, 2, 2, 2, 1, 2, 2, 2]
  | 6 => [0, 0, 0, 2, 2, 2, 2, 0, 0, 1, 1, 1, 1, 0, 0, 2, 0, 0, 2, 0, 0, 0, 1, 2, 0, 0, 0, 2]
  | _ => []
def gTy : Nat → Nat → FieldType
  | 0 => tyX0
  | 1 => tyX1
  | 2 => tyX3
  | 3 => tyX5
  | 4 => tyX6
  | 5 => tyX7
  | 6 => tyX8
  | _ => fun _ => .int
def gEl : Nat → String
  | 0 => RX6
  | _ => RX1
def gHs : String := "IdealProver"
def kX0_init : List Instr := [.aload 0, .nop, .aload 0, .new 405, .dup, .aload 1, .invokespecial 422004, .putfield 2, .aload 0, .new 405, .dup, .aload 1, .invokespecial 422004, .putfield 12, .aload 0, .iconst 24, .aload 1, .invokestatic 812400, .putfield 22, .return_]
def pX0_init : List Nat := [0, 1, 4, 5, 8, 9, 10, 13, 16, 17, 20, 21, 22, 25, 28, 29, 31, 32, 35, 38]
abbrev nX0_init : Nat := 0
def kX0_allow : List Instr := [.aload 0, .iload 1, .putfield 40, .aload 0, .iconst 0, .putfield 30, .return_]
def pX0_allow : List Nat := [0, 1, 2, 5, 6, 7, 10]
abbrev nX0_allow : Nat := 1
def kX0_makeReady : List Instr := [.aload 0, .getfield 2, .invokevirtual 431004, .aload 0, .getfield 12, .invokevirtual 431004, .iconst 0, .istore 2, .iload 2, .iload 1, .if_icmp .ge 18, .aload 0, .getfield 22, .iload 2, .ret 0, .invokevirtual 431004, .iinc 2 1, .goto 8, .return_]
def pX0_makeReady : List Nat := [0, 1, 4, 7, 8, 11, 14, 15, 16, 17, 18, 21, 22, 25, 26, 27, 30, 33, 36]
abbrev nX0_makeReady : Nat := 2
def kX0_run : List Instr := [.aload 0, .getfield 2, .getfield 4040, .ifCond .le 75, .aload 0, .getfield 30, .aload 0, .getfield 40, .if_icmp .ge 75, .aload 0, .dup, .getfield 30, .iconst 1, .iadd, .putfield 30, .aload 0, .getfield 2, .getfield 4012, .iconst 0, .laload, .lstore 4, .aload 0, .getfield 2, .getfield 4022, .iconst 0, .iaload, .istore 6, .aload 0, .aload 1, .iload 2, .iload 3, .invokevirtual 44100, .istore 7, .iload 7, .ifCond .ge 46, .aload 0, .getfield 2, .invokevirtual 501004, .aload 0, .getfield 12, .lload 4, .iload 6, .invokevirtual 473204, .ifCond .ne 74, .iconst (-7), .ireturn, .iload 6, .aload 1, .iload 7, .ret 1, .invokevirtual 61101, .isub, .istore 8, .aload 0, .getfield 2, .lload 4, .invokestatic 131300, .iload 8, .aload 1, .iload 7, .ret 1, .getfield 1002, .invokevirtual 514204, .ifCond .eq 72, .aload 0, .getfield 22, .iload 7, .ret 0, .lload 4, .iload 8, .invokevirtual 473204, .ifCond .ne 74, .iconst (-7), .ireturn, .goto 0, .aload 0, .getfield 2, .getfield 4040, .ifCond .le 81, .iconst (-6), .goto 82, .iconst 0, .ireturn]
def pX0_run : List Nat := [0, 1, 4, 7, 10, 11, 14, 15, 18, 21, 22, 23, 26, 27, 28, 31, 32, 35, 38, 39, 40, 42, 43, 46, 49, 50, 51, 53, 54, 55, 56, 57, 60, 62, 64, 67, 68, 71, 74, 75, 78, 80, 82, 85, 88, 90, 91, 93, 94, 96, 97, 100, 101, 103, 104, 107, 109, 112, 114, 115, 117, 118, 121, 124, 127, 128, 131, 133, 134, 136, 138, 141, 144, 146, 147, 150, 151, 154, 157, 160, 162, 165, 166]
abbrev nX0_run : Nat := 3
def kX0_firstDivisor : List Instr := [.iconst 0, .istore 4, .iload 4, .iload 2, .if_icmp .ge 23, .iload 4, .iload 3, .if_icmp .eq 21, .aload 1, .iload 4, .ret 1, .invokevirtual 61101, .aload 0, .getfield 2, .getfield 4022, .iconst 0, .iaload, .invokestatic 372200, .ifCond .eq 21, .iload 4, .ireturn, .iinc 4 1, .goto 2, .iconst (-1), .ireturn]
def pX0_firstDivisor : List Nat := [0, 1, 3, 5, 6, 9, 11, 12, 15, 16, 18, 19, 22, 23, 26, 29, 30, 31, 34, 37, 39, 40, 43, 46, 47]
abbrev nX0_firstDivisor : Nat := 4
def kX1_init : List Instr := [.aload 0, .nop, .aload 0, .new 405, .dup, .aload 1, .invokespecial 422004, .putfield 1002, .aload 0, .iload 2, .aload 1, .invokestatic 812400, .putfield 1012, .return_]
def pX1_init : List Nat := [0, 1, 4, 5, 8, 9, 10, 13, 16, 17, 18, 19, 22, 25]
abbrev nX1_init : Nat := 5
def kX1_leading : List Instr := [.aload 0, .getfield 1002, .getfield 4022, .iconst 0, .iaload, .ireturn]
def pX1_leading : List Nat := [0, 1, 4, 7, 8, 9]
abbrev nX1_leading : Nat := 6
def kX1_makeMonic : List Instr := [.aload 0, .getfield 1002, .getfield 4012, .iconst 0, .laload, .invokestatic 141300, .lstore 2, .aload 0, .getfield 1002, .lload 2, .invokevirtual 542204, .ifCond .ne 14, .iconst 0, .ireturn, .iconst 0, .istore 4, .iload 4, .iload 1, .if_icmp .ge 30, .aload 0, .getfield 1012, .iload 4, .ret 0, .lload 2, .invokevirtual 542204, .ifCond .ne 28, .iconst 0, .ireturn, .iinc 4 1, .goto 16, .iconst 1, .ireturn]
def pX1_makeMonic : List Nat := [0, 1, 4, 7, 8, 9, 12, 13, 14, 17, 18, 21, 24, 25, 26, 27, 29, 31, 32, 35, 36, 39, 41, 42, 43, 46, 49, 50, 51, 54, 57, 58]
abbrev nX1_makeMonic : Nat := 7
def kX2_over : List Instr := [.lload 0, .iconst 32, .lshr, .l2i, .ireturn]
def pX2_over : List Nat := [0, 1, 3, 4, 5]
abbrev nX2_over : Nat := 8
def kX2_under : List Instr := [.lload 0, .l2i, .ireturn]
def pX2_under : List Nat := [0, 1, 2]
abbrev nX2_under : Nat := 9
def kX2_lowest : List Instr := [.lload 0, .jsr_w 0, .lcmp, .ifCond .ge 7, .lload 0, .lneg, .goto 8, .lload 0, .lstore 4, .lload 2, .lstore 6, .iconst 0, .istore 8, .iload 8, .iconst 200, .if_icmp .ge 30, .lload 6, .jsr_w 0, .lcmp, .ifCond .eq 30, .lload 4, .lload 6, .lrem, .lstore 9, .lload 6, .lstore 4, .lload 9, .lstore 6, .iinc 8 1, .goto 13, .lload 0, .lstore 8, .lload 2, .lstore 10, .lload 4, .jsr_w 1, .lcmp, .ifCond .le 46, .lload 0, .lload 4, .ldiv, .lstore 8, .lload 2, .lload 4, .ldiv, .lstore 10, .lload 8, .jsr_w 1000000000, .lcmp, .ifCond .gt 62, .lload 8, .jsr_w (-1000000000), .lcmp, .ifCond .lt 62, .lload 10, .jsr_w 1000000000, .lcmp, .ifCond .gt 62, .lload 10, .jsr_w 0, .lcmp, .ifCond .gt 64, .jsr_w 0, .lreturn, .lload 8, .iconst 32, .lshl, .lload 10, .lor, .lreturn]
def pX2_lowest : List Nat := [0, 1, 2, 3, 6, 7, 8, 11, 12, 14, 15, 17, 18, 20, 22, 25, 28, 30, 31, 32, 35, 37, 39, 40, 42, 44, 46, 48, 50, 53, 56, 57, 59, 60, 62, 64, 65, 66, 69, 70, 72, 73, 75, 76, 78, 79, 81, 83, 86, 87, 90, 92, 95, 96, 99, 101, 104, 105, 108, 110, 111, 112, 115, 116, 117, 119, 121, 122, 124, 125]
abbrev nX2_lowest : Nat := 10
def kX2_sum : List Instr := [.lload 0, .invokestatic 81100, .i2l, .lload 2, .invokestatic 91100, .i2l, .lmul, .lload 2, .invokestatic 81100, .i2l, .lload 0, .invokestatic 91100, .i2l, .lmul, .ladd, .lstore 4, .lload 4, .lload 0, .invokestatic 91100, .i2l, .lload 2, .invokestatic 91100, .i2l, .lmul, .invokestatic 102300, .lreturn]
def pX2_sum : List Nat := [0, 1, 4, 5, 6, 9, 10, 11, 12, 15, 16, 17, 20, 21, 22, 23, 25, 27, 28, 31, 32, 33, 36, 37, 38, 41]
abbrev nX2_sum : Nat := 11
def kX2_product : List Instr := [.lload 0, .invokestatic 81100, .i2l, .lload 2, .invokestatic 81100, .i2l, .lmul, .lload 0, .invokestatic 91100, .i2l, .lload 2, .invokestatic 91100, .i2l, .lmul, .invokestatic 102300, .lreturn]
def pX2_product : List Nat := [0, 1, 4, 5, 6, 9, 10, 11, 12, 15, 16, 17, 20, 21, 22, 25]
abbrev nX2_product : Nat := 12
def kX2_negative : List Instr := [.lload 0, .invokestatic 81100, .ineg, .i2l, .iconst 32, .lshl, .lload 0, .invokestatic 91100, .i2l, .lor, .lreturn]
def pX2_negative : List Nat := [0, 1, 4, 5, 6, 8, 9, 10, 13, 14, 15]
abbrev nX2_negative : Nat := 13
def kX2_inverse : List Instr := [.lload 0, .invokestatic 81100, .i2l, .lstore 2, .lload 0, .invokestatic 91100, .i2l, .lstore 4, .lload 2, .jsr_w 0, .lcmp, .ifCond .ge 20, .lload 4, .lneg, .iconst 32, .lshl, .lload 2, .lneg, .lor, .goto 25, .lload 4, .iconst 32, .lshl, .lload 2, .lor, .lreturn]
def pX2_inverse : List Nat := [0, 1, 4, 5, 6, 7, 10, 11, 13, 14, 15, 16, 19, 21, 22, 24, 25, 26, 27, 28, 31, 33, 35, 36, 37, 38]
abbrev nX2_inverse : Nat := 14
def kX3_init : List Instr := [.aload 0, .nop, .aload 0, .aload 1, .putfield 2002, .aload 0, .iconst 25, .anewarray 1, .putfield 2012, .iconst 0, .istore 3, .iload 3, .iconst 24, .if_icmp .gt 25, .aload 0, .getfield 2012, .iload 3, .new 102, .dup, .aload 1, .iload 2, .invokespecial 53001, .putstatic 11, .iinc 3 1, .goto 11, .aload 0, .iconst 576, .newarray .int, .putfield 2072, .return_]
def pX3_init : List Nat := [0, 1, 4, 5, 6, 9, 10, 12, 15, 18, 19, 20, 21, 23, 26, 27, 30, 31, 34, 35, 36, 37, 40, 41, 44, 47, 48, 51, 53, 56]
abbrev nX3_init : Nat := 15
def kX3_build : List Instr := [.aload 0, .iload 3, .invokevirtual 172002, .aload 4, .iload 5, .invokevirtual 12000, .aload 0, .aload 1, .iload 2, .invokevirtual 183102, .istore 6, .iconst 0, .istore 7, .iload 7, .iconst 276, .if_icmp .ge 27, .iload 6, .ifCond .ne 27, .aload 0, .invokevirtual 201202, .ifCond .eq 27, .aload 0, .aload 4, .invokevirtual 212102, .istore 6, .iinc 7 1, .goto 13, .aload 0, .aload 0, .getfield 2020, .putfield 2060, .iload 6, .ifCond .ne 37, .aload 0, .invokevirtual 261002, .aload 0, .invokevirtual 281002, .iconst 0, .istore 7, .iload 7, .aload 0, .getfield 2020, .if_icmp .ge 52, .iload 6, .ifCond .ne 52, .aload 0, .iload 7, .aload 4, .invokevirtual 293102, .istore 6, .iinc 7 1, .goto 39, .aload 0, .aload 4, .getfield 30, .putfield 2030, .iload 6, .ireturn]
def pX3_build : List Nat := [0, 1, 2, 5, 7, 9, 12, 13, 14, 15, 18, 20, 21, 23, 25, 28, 31, 33, 36, 37, 40, 43, 44, 46, 49, 51, 54, 57, 58, 59, 62, 65, 67, 70, 71, 74, 75, 78, 79, 81, 83, 84, 87, 90, 92, 95, 96, 98, 100, 103, 105, 108, 111, 112, 114, 117, 120, 122]
abbrev nX3_build : Nat := 16
def kX3_begin : List Instr := [.aload 0, .iload 1, .putfield 2100, .aload 0, .iconst 0, .putfield 2020, .aload 0, .iconst 0, .putfield 2040, .aload 0, .iconst 0, .putfield 2050, .return_]
def pX3_begin : List Nat := [0, 1, 2, 5, 6, 7, 10, 11, 12, 15, 16, 17, 20]
abbrev nX3_begin : Nat := 17
def kX3_adopt : List Instr := [.iconst 0, .istore 3, .iload 3, .iload 2, .if_icmp .ge 60, .aload 1, .iload 3, .ret 0, .getfield 4040, .ifCond .le 58, .aload 0, .getfield 2012, .aload 0, .getfield 2020, .ret 1, .astore 4, .aload 4, .getfield 1002, .aload 1, .iload 3, .ret 0, .invokevirtual 442004, .iconst 0, .istore 5, .iload 5, .aload 0, .getfield 2100, .if_icmp .ge 35, .aload 4, .getfield 1012, .iload 5, .ret 0, .invokevirtual 431004, .iinc 5 1, .goto 24, .iload 3, .aload 0, .getfield 2100, .if_icmp .ge 49, .aload 4, .getfield 1012, .iload 3, .ret 0, .jsr_w 4294967297, .iconst 0, .invokevirtual 473204, .ifCond .ne 49, .iconst (-7), .ireturn, .aload 4, .aload 0, .getfield 2100, .invokevirtual 72201, .ifCond .ne 56, .iconst (-7), .ireturn, .aload 0, .invokevirtual 191002, .iinc 3 1, .goto 2, .iconst 0, .ireturn]
def pX3_adopt : List Nat := [0, 1, 2, 3, 4, 7, 8, 9, 10, 13, 16, 17, 20, 21, 24, 25, 27, 29, 32, 33, 34, 35, 38, 39, 41, 43, 44, 47, 50, 52, 55, 57, 58, 61, 64, 67, 68, 69, 72, 75, 77, 80, 81, 82, 85, 86, 89, 92, 94, 95, 97, 98, 101, 104, 107, 109, 110, 111, 114, 117, 120, 121]
abbrev nX3_adopt : Nat := 18
def kX3_add : List Instr := [.iconst 0, .istore 1, .iload 1, .aload 0, .getfield 2020, .if_icmp .ge 34, .aload 0, .getfield 2012, .iload 1, .ret 1, .invokevirtual 61101, .aload 0, .getfield 2012, .aload 0, .getfield 2020, .ret 1, .invokevirtual 61101, .invokestatic 382100, .istore 2, .aload 0, .getfield 2072, .aload 0, .getfield 2020, .iconst 24, .imul, .iload 1, .iadd, .aload 0, .getfield 2002, .iload 2, .invokevirtual 412103, .iastore, .iinc 1 1, .goto 2, .aload 0, .dup, .getfield 2020, .iconst 1, .iadd, .putfield 2020, .return_]
def pX3_add : List Nat := [0, 1, 2, 3, 4, 7, 10, 11, 14, 15, 16, 19, 20, 23, 24, 27, 28, 31, 34, 35, 36, 39, 40, 43, 45, 46, 47, 48, 49, 52, 53, 56, 57, 60, 63, 64, 65, 68, 69, 70, 73]
abbrev nX3_add : Nat := 19
def kX3_choosePair : List Instr := [.iconst (-1), .istore 1, .iconst 1, .istore 2, .iload 2, .aload 0, .getfield 2020, .if_icmp .ge 43, .iconst 0, .istore 3, .iload 3, .iload 2, .if_icmp .ge 41, .aload 0, .getfield 2072, .iload 2, .iconst 24, .imul, .iload 3, .iadd, .iaload, .istore 4, .iload 4, .iconst (-1), .if_icmp .eq 39, .iload 1, .iconst (-1), .if_icmp .eq 31, .iload 4, .iload 1, .if_icmp .ge 39, .iload 4, .istore 1, .aload 0, .iload 3, .putfield 2080, .aload 0, .iload 2, .putfield 2090, .iinc 3 1, .goto 10, .iinc 2 1, .goto 4, .iload 1, .iconst (-1), .if_icmp .eq 48, .iconst 1, .goto 49, .iconst 0, .ireturn]
def pX3_choosePair : List Nat := [0, 1, 2, 3, 4, 5, 6, 9, 12, 13, 14, 15, 16, 19, 20, 23, 24, 26, 27, 28, 29, 30, 32, 34, 35, 38, 39, 40, 43, 45, 46, 49, 51, 52, 53, 54, 57, 58, 59, 62, 65, 68, 71, 74, 75, 76, 79, 80, 83, 84]
abbrev nX3_choosePair : Nat := 20
def kX3_settlePair : List Instr := [.aload 0, .getfield 2072, .aload 0, .getfield 2090, .iconst 24, .imul, .aload 0, .getfield 2080, .iadd, .iconst (-1), .iastore, .aload 0, .dup, .getfield 2040, .iconst 1, .iadd, .putfield 2040, .aload 0, .getfield 2012, .aload 0, .getfield 2080, .ret 1, .invokevirtual 61101, .aload 0, .getfield 2012, .aload 0, .getfield 2090, .ret 1, .invokevirtual 61101, .invokestatic 382100, .istore 2, .aload 0, .iload 2, .invokevirtual 222202, .ifCond .eq 43, .aload 0, .dup, .getfield 2050, .iconst 1, .iadd, .putfield 2050, .iconst 0, .ireturn, .aload 1, .aload 0, .getfield 2020, .invokevirtual 22000, .aload 0, .iload 2, .aload 1, .getfield 2, .invokevirtual 243202, .ifCond .ne 55, .iconst (-7), .ireturn, .aload 1, .aload 0, .getfield 2012, .aload 0, .getfield 2020, .iconst (-1), .invokevirtual 34100, .istore 3, .iload 3, .ifCond .ne 69, .aload 1, .getfield 12, .getfield 4040, .ifCond .ne 71, .iload 3, .ireturn, .aload 0, .getfield 2012, .aload 0, .getfield 2020, .ret 1, .astore 4, .aload 4, .getfield 1002, .aload 1, .getfield 12, .invokevirtual 442004, .aload 0, .getfield 2020, .iconst 24, .if_icmp .ge 96, .aload 0, .aload 4, .aload 1, .invokevirtual 253202, .ifCond .eq 96, .aload 4, .aload 0, .getfield 2100, .invokevirtual 72201, .ifCond .ne 98, .iconst (-7), .ireturn, .aload 0, .invokevirtual 191002, .iconst 0, .ireturn]
def pX3_settlePair : List Nat := [0, 1, 4, 5, 8, 10, 11, 12, 15, 16, 17, 18, 19, 20, 23, 24, 25, 28, 29, 32, 33, 36, 37, 40, 41, 44, 45, 48, 49, 52, 55, 56, 57, 58, 61, 64, 65, 66, 69, 70, 71, 74, 75, 76, 77, 78, 81, 84, 85, 86, 87, 90, 93, 96, 98, 99, 100, 101, 104, 105, 108, 109, 112, 113, 114, 117, 118, 121, 124, 127, 128, 129, 130, 133, 134, 137, 138, 140, 142, 145, 146, 149, 152, 153, 156, 158, 161, 162, 164, 165, 168, 171, 173, 174, 177, 180, 183, 185, 186, 187, 190, 191]
abbrev nX3_settlePair : Nat := 21
def kX3_isNeedless : List Instr := [.aload 0, .getfield 2012, .aload 0, .getfield 2080, .ret 1, .invokevirtual 61101, .aload 0, .getfield 2012, .aload 0, .getfield 2090, .ret 1, .invokevirtual 61101, .invokestatic 392200, .ifCond .ne 16, .iconst 1, .ireturn, .iconst 0, .istore 2, .iload 2, .aload 0, .getfield 2020, .if_icmp .ge 54, .iload 2, .aload 0, .getfield 2080, .if_icmp .eq 52, .iload 2, .aload 0, .getfield 2090, .if_icmp .eq 52, .aload 0, .getfield 2012, .iload 2, .ret 1, .invokevirtual 61101, .iload 1, .invokestatic 372200, .ifCond .eq 52, .aload 0, .iload 2, .aload 0, .getfield 2080, .invokevirtual 233202, .ifCond .ne 52, .aload 0, .iload 2, .aload 0, .getfield 2090, .invokevirtual 233202, .ifCond .ne 52, .iconst 1, .ireturn, .iinc 2 1, .goto 18, .iconst 0, .ireturn]
def pX3_isNeedless : List Nat := [0, 1, 4, 5, 8, 9, 12, 13, 16, 17, 20, 21, 24, 27, 30, 31, 32, 33, 34, 35, 36, 39, 42, 43, 44, 47, 50, 51, 52, 55, 58, 59, 62, 63, 64, 67, 68, 71, 74, 75, 76, 77, 80, 83, 86, 87, 88, 89, 92, 95, 98, 99, 100, 103, 106, 107]
abbrev nX3_isNeedless : Nat := 22
def kX3_isWaiting : List Instr := [.iload 1, .iload 2, .if_icmp .ge 9, .iload 2, .iconst 24, .imul, .iload 1, .iadd, .goto 14, .iload 1, .iconst 24, .imul, .iload 2, .iadd, .istore 3, .aload 0, .getfield 2072, .iload 3, .iaload, .iconst (-1), .if_icmp .eq 23, .iconst 1, .goto 24, .iconst 0, .ireturn]
def pX3_isWaiting : List Nat := [0, 1, 2, 5, 6, 8, 9, 10, 11, 14, 15, 17, 18, 19, 20, 21, 22, 25, 26, 27, 28, 31, 32, 35, 36]
abbrev nX3_isWaiting : Nat := 23
def kX3_crossOut : List Instr := [.aload 0, .getfield 2012, .aload 0, .getfield 2080, .ret 1, .astore 3, .aload 0, .getfield 2012, .aload 0, .getfield 2090, .ret 1, .astore 4, .iload 1, .aload 3, .invokevirtual 61101, .isub, .istore 5, .iload 1, .aload 4, .invokevirtual 61101, .isub, .istore 6, .aload 2, .jsr_w 4294967297, .iload 5, .aload 3, .getfield 1002, .invokevirtual 514204, .ifCond .eq 36, .aload 2, .jsr_w (-4294967295), .iload 6, .aload 4, .getfield 1002, .invokevirtual 514204, .ifCond .ne 38, .iconst 0, .ireturn, .iconst 0, .istore 7, .iload 7, .aload 0, .getfield 2100, .if_icmp .ge 77, .aload 0, .getfield 2012, .aload 0, .getfield 2020, .ret 1, .getfield 1012, .iload 7, .ret 0, .astore 8, .aload 8, .invokevirtual 431004, .aload 8, .jsr_w 4294967297, .iload 5, .aload 3, .getfield 1012, .iload 7, .ret 0, .invokevirtual 514204, .ifCond .eq 73, .aload 8, .jsr_w (-4294967295), .iload 6, .aload 4, .getfield 1012, .iload 7, .ret 0, .invokevirtual 514204, .ifCond .ne 75, .iconst 0, .ireturn, .iinc 7 1, .goto 40, .iconst 1, .ireturn]
def pX3_crossOut : List Nat := [0, 1, 4, 5, 8, 9, 10, 11, 14, 15, 18, 19, 21, 22, 23, 26, 27, 29, 30, 32, 35, 36, 38, 39, 42, 44, 45, 48, 51, 54, 55, 58, 60, 62, 65, 68, 71, 72, 73, 74, 76, 78, 79, 82, 85, 86, 89, 90, 93, 94, 97, 99, 100, 102, 104, 107, 109, 112, 114, 115, 118, 120, 121, 124, 127, 129, 132, 134, 136, 139, 141, 142, 145, 148, 149, 150, 153, 156, 157]
abbrev nX3_crossOut : Nat := 24
def kX3_takeQuotients : List Instr := [.iconst 0, .istore 3, .iload 3, .aload 0, .getfield 2100, .if_icmp .ge 57, .aload 1, .getfield 1012, .iload 3, .ret 0, .astore 4, .iconst 0, .istore 5, .iload 5, .aload 0, .getfield 2020, .if_icmp .ge 55, .aload 2, .getfield 22, .iload 5, .ret 0, .astore 6, .iconst 0, .istore 7, .iload 7, .aload 6, .getfield 4040, .if_icmp .ge 53, .aload 6, .getfield 4012, .iload 7, .laload, .invokestatic 131300, .lstore 8, .aload 4, .lload 8, .aload 6, .getfield 4022, .iload 7, .iaload, .aload 0, .getfield 2012, .iload 5, .ret 1, .getfield 1012, .iload 3, .ret 0, .invokevirtual 514204, .ifCond .ne 51, .iconst 0, .ireturn, .iinc 7 1, .goto 24, .iinc 5 1, .goto 13, .iinc 3 1, .goto 2, .iconst 1, .ireturn]
def pX3_takeQuotients : List Nat := [0, 1, 2, 3, 4, 7, 10, 11, 14, 15, 16, 18, 19, 21, 23, 24, 27, 30, 31, 34, 36, 37, 39, 40, 42, 44, 46, 49, 52, 54, 57, 59, 60, 63, 65, 67, 69, 71, 74, 76, 77, 78, 81, 83, 84, 87, 88, 89, 92, 95, 96, 97, 100, 103, 106, 109, 112, 115, 116]
abbrev nX3_takeQuotients : Nat := 25
def kX3_dropNeedless : List Instr := [.iconst 0, .istore 1, .iconst 0, .istore 2, .iload 2, .aload 0, .getfield 2020, .if_icmp .ge 34, .aload 0, .iload 2, .iload 1, .invokevirtual 273202, .ifCond .ne 32, .aload 0, .getfield 2012, .iload 2, .ret 1, .astore 3, .aload 0, .getfield 2012, .iload 2, .aload 0, .getfield 2012, .iload 1, .ret 1, .putstatic 11, .aload 0, .getfield 2012, .iload 1, .aload 3, .putstatic 11, .iinc 1 1, .iinc 2 1, .goto 4, .aload 0, .iload 1, .putfield 2020, .return_]
def pX3_dropNeedless : List Nat := [0, 1, 2, 3, 4, 5, 6, 9, 12, 13, 14, 15, 18, 21, 22, 25, 26, 27, 28, 29, 32, 33, 34, 37, 38, 39, 40, 41, 44, 45, 46, 47, 50, 53, 56, 57, 58, 61]
abbrev nX3_dropNeedless : Nat := 26
def kX3_isCovered : List Instr := [.aload 0, .getfield 2012, .iload 1, .ret 1, .invokevirtual 61101, .istore 3, .iconst 0, .istore 4, .iload 4, .iload 2, .if_icmp .ge 23, .aload 0, .getfield 2012, .iload 4, .ret 1, .invokevirtual 61101, .iload 3, .invokestatic 372200, .ifCond .eq 21, .iconst 1, .ireturn, .iinc 4 1, .goto 8, .iload 1, .iconst 1, .iadd, .istore 4, .iload 4, .aload 0, .getfield 2020, .if_icmp .ge 48, .aload 0, .getfield 2012, .iload 4, .ret 1, .invokevirtual 61101, .istore 5, .iload 5, .iload 3, .if_icmp .eq 46, .iload 5, .iload 3, .invokestatic 372200, .ifCond .eq 46, .iconst 1, .ireturn, .iinc 4 1, .goto 27, .iconst 0, .ireturn]
def pX3_isCovered : List Nat := [0, 1, 4, 5, 6, 9, 10, 11, 13, 15, 16, 19, 20, 23, 25, 26, 29, 30, 33, 36, 37, 38, 41, 44, 45, 46, 47, 49, 51, 52, 55, 58, 59, 62, 64, 65, 68, 70, 72, 73, 76, 78, 79, 82, 85, 86, 87, 90, 93, 94]
abbrev nX3_isCovered : Nat := 27
def kX3_sortElements : List Instr := [.iconst 1, .istore 1, .iload 1, .aload 0, .getfield 2020, .if_icmp .ge 52, .aload 0, .getfield 2012, .iload 1, .ret 1, .astore 2, .aload 0, .getfield 2002, .aload 2, .invokevirtual 61101, .invokevirtual 412103, .istore 3, .iload 1, .istore 4, .iload 4, .ifCond .le 45, .aload 0, .getfield 2002, .aload 0, .getfield 2012, .iload 4, .iconst 1, .isub, .ret 1, .invokevirtual 61101, .invokevirtual 412103, .iload 3, .if_icmp .le 45, .aload 0, .getfield 2012, .iload 4, .aload 0, .getfield 2012, .iload 4, .iconst 1, .isub, .ret 1, .putstatic 11, .iinc 4 (-1), .goto 19, .aload 0, .getfield 2012, .iload 4, .aload 2, .putstatic 11, .iinc 1 1, .goto 2, .return_]
def pX3_sortElements : List Nat := [0, 1, 2, 3, 4, 7, 10, 11, 14, 15, 16, 17, 18, 21, 22, 25, 28, 29, 30, 32, 34, 37, 38, 41, 42, 45, 47, 48, 49, 50, 53, 56, 57, 60, 61, 64, 66, 67, 70, 72, 73, 74, 75, 76, 79, 82, 83, 86, 88, 89, 90, 93, 96]
abbrev nX3_sortElements : Nat := 28
def kX3_reduceElement : List Instr := [.aload 0, .getfield 2012, .iload 1, .ret 1, .astore 3, .aload 3, .invokevirtual 61101, .istore 4, .aload 2, .aload 0, .getfield 2020, .invokevirtual 22000, .aload 2, .getfield 2, .aload 3, .getfield 1002, .invokevirtual 442004, .aload 2, .getfield 2, .invokevirtual 501004, .aload 2, .aload 0, .getfield 2012, .aload 0, .getfield 2020, .iload 1, .invokevirtual 34100, .istore 5, .iload 5, .ifCond .eq 32, .iload 5, .ireturn, .aload 0, .aload 3, .aload 2, .invokevirtual 253202, .ifCond .ne 39, .iconst (-7), .ireturn, .aload 3, .getfield 1002, .aload 2, .getfield 12, .invokevirtual 442004, .aload 3, .getfield 1002, .jsr_w 4294967297, .iload 4, .invokevirtual 473204, .ifCond .eq 52, .iconst 0, .goto 53, .iconst (-7), .ireturn]
def pX3_reduceElement : List Nat := [0, 1, 4, 5, 6, 7, 8, 11, 13, 14, 15, 18, 21, 22, 25, 26, 29, 32, 33, 36, 39, 40, 41, 44, 45, 48, 49, 52, 54, 56, 59, 61, 62, 63, 64, 65, 68, 71, 73, 74, 75, 78, 79, 82, 85, 86, 89, 92, 94, 97, 100, 101, 104, 106]
abbrev nX3_reduceElement : Nat := 29
def kX3_isWhole : List Instr := [.aload 0, .getfield 2020, .iconst 1, .if_icmp .ne 12, .aload 0, .getfield 2012, .iconst 0, .ret 1, .invokevirtual 61101, .ifCond .ne 12, .iconst 1, .goto 13, .iconst 0, .ireturn]
def pX3_isWhole : List Nat := [0, 1, 4, 5, 8, 9, 12, 13, 14, 17, 20, 21, 24, 25]
abbrev nX3_isWhole : Nat := 30
def kX3_countBelow : List Instr := [.aload 0, .iconst 0, .iload 1, .invokevirtual 323102, .istore 2, .aload 0, .iconst 1, .iload 1, .invokevirtual 323102, .istore 3, .aload 0, .iconst 2, .iload 1, .invokevirtual 323102, .istore 4, .aload 0, .iconst 3, .iload 1, .invokevirtual 323102, .istore 5, .iload 2, .ifCond .lt 28, .iload 3, .ifCond .lt 28, .iload 4, .ifCond .lt 28, .iload 5, .ifCond .ge 30, .iconst (-8), .ireturn, .iconst 0, .istore 6, .iconst 0, .istore 7, .iload 7, .iload 2, .if_icmp .ge 68, .iconst 0, .istore 8, .iload 8, .iload 3, .if_icmp .ge 66, .iconst 0, .istore 9, .iload 9, .iload 4, .if_icmp .ge 64, .iload 6, .aload 0, .iload 7, .iload 8, .iconst 8, .ishl, .ior, .iload 9, .iconst 16, .ishl, .ior, .iload 5, .invokevirtual 333102, .iadd, .istore 6, .iinc 9 1, .goto 44, .iinc 8 1, .goto 39, .iinc 7 1, .goto 34, .iload 6, .ireturn]
def pX3_countBelow : List Nat := [0, 1, 2, 3, 6, 7, 8, 9, 10, 13, 14, 15, 16, 17, 20, 22, 23, 24, 25, 28, 30, 31, 34, 35, 38, 40, 43, 45, 48, 50, 51, 52, 54, 55, 57, 59, 60, 63, 64, 66, 68, 69, 72, 73, 75, 77, 79, 82, 84, 85, 87, 89, 91, 92, 93, 95, 97, 98, 99, 101, 104, 105, 107, 110, 113, 116, 119, 122, 125, 127]
abbrev nX3_countBelow : Nat := 31
def kX3_wall : List Instr := [.iload 1, .iload 2, .if_icmp .lt 5, .iconst 1, .ireturn, .iconst (-1), .istore 3, .iconst 0, .istore 4, .iload 4, .aload 0, .getfield 2020, .if_icmp .ge 39, .aload 0, .getfield 2012, .iload 4, .ret 1, .invokevirtual 61101, .istore 5, .iload 5, .iload 1, .invokestatic 342100, .istore 6, .iload 5, .iload 6, .iconst 8, .iload 1, .imul, .ishl, .if_icmp .ne 37, .iload 3, .ifCond .lt 35, .iload 6, .iload 3, .if_icmp .ge 37, .iload 6, .istore 3, .iinc 4 1, .goto 9, .iload 3, .ireturn]
def pX3_wall : List Nat := [0, 1, 2, 5, 6, 7, 8, 9, 10, 12, 14, 15, 18, 21, 22, 25, 27, 28, 31, 33, 35, 36, 39, 41, 43, 45, 47, 48, 49, 50, 53, 54, 57, 59, 60, 63, 65, 66, 69, 72, 73]
abbrev nX3_wall : Nat := 32
def kX3_height : List Instr := [.iload 2, .istore 3, .iconst 0, .istore 4, .iload 4, .aload 0, .getfield 2020, .if_icmp .ge 28, .aload 0, .getfield 2012, .iload 4, .ret 1, .invokevirtual 61101, .istore 5, .iload 5, .iconst 16777215, .iand, .iload 1, .invokestatic 372200, .ifCond .eq 26, .iload 3, .iload 5, .iconst 3, .invokestatic 342100, .dadd, .istore 3, .iinc 4 1, .goto 4, .iload 3, .ireturn]
def pX3_height : List Nat := [0, 1, 2, 3, 5, 7, 8, 11, 14, 15, 18, 20, 21, 24, 26, 28, 30, 31, 32, 35, 38, 39, 41, 42, 45, 48, 49, 52, 55, 56]
abbrev nX3_height : Nat := 33
def kX4_exponent : List Instr := [.iload 0, .iconst 8, .iload 1, .imul, .iushr, .iconst 255, .iand, .ireturn]
def pX4_exponent : List Nat := [0, 1, 3, 4, 5, 6, 9, 10]
abbrev nX4_exponent : Nat := 34
def kX4_single : List Instr := [.iconst 1, .iconst 8, .iload 0, .imul, .ishl, .ireturn]
def pX4_single : List Nat := [0, 1, 3, 4, 5, 6]
abbrev nX4_single : Nat := 35
def kX4_isInside : List Instr := [.iload 0, .iconst (-522133280), .iand, .ifCond .ne 12, .iload 0, .iconst 16843009, .iadd, .iconst (-522133280), .iand, .ifCond .ne 12, .iconst 1, .goto 13, .iconst 0, .ireturn]
def pX4_isInside : List Nat := [0, 1, 3, 4, 7, 8, 10, 11, 13, 14, 17, 18, 21, 22]
abbrev nX4_isInside : Nat := 36
def kX4_divides : List Instr := [.iload 1, .iconst (-2139062144), .ior, .iload 0, .isub, .iconst (-2139062144), .iand, .iconst (-2139062144), .if_icmp .ne 11, .iconst 1, .goto 12, .iconst 0, .ireturn]
def pX4_divides : List Nat := [0, 1, 3, 4, 5, 6, 8, 9, 11, 14, 15, 18, 19]
abbrev nX4_divides : Nat := 37
def kX4_leastCommon : List Instr := [.iconst 0, .istore 2, .iconst 0, .istore 3, .iload 3, .iconst 4, .if_icmp .ge 32, .iconst 255, .iconst 8, .iload 3, .imul, .ishl, .istore 4, .iload 2, .iload 0, .iload 3, .invokestatic 342100, .iload 1, .iload 3, .invokestatic 342100, .if_icmp .lt 25, .iload 0, .iload 4, .iand, .goto 28, .iload 1, .iload 4, .iand, .ior, .istore 2, .iinc 3 1, .goto 4, .iload 2, .ireturn]
def pX4_leastCommon : List Nat := [0, 1, 2, 3, 4, 5, 6, 9, 12, 14, 15, 16, 17, 19, 20, 21, 22, 25, 26, 27, 30, 33, 34, 36, 37, 40, 41, 43, 44, 45, 46, 49, 52, 53]
abbrev nX4_leastCommon : Nat := 38
def kX4_haveVariableInCommon : List Instr := [.iconst 0, .istore 2, .iload 2, .iconst 4, .if_icmp .ge 17, .iload 0, .iload 2, .invokestatic 342100, .ifCond .eq 15, .iload 1, .iload 2, .invokestatic 342100, .ifCond .eq 15, .iconst 1, .ireturn, .iinc 2 1, .goto 2, .iconst 0, .ireturn]
def pX4_haveVariableInCommon : List Nat := [0, 1, 2, 3, 4, 7, 8, 9, 12, 15, 16, 17, 20, 23, 24, 25, 28, 31, 32]
abbrev nX4_haveVariableInCommon : Nat := 39
def kX5_init : List Instr := [.aload 0, .nop, .return_]
def pX5_init : List Nat := [0, 1, 4]
abbrev nX5_init : Nat := 40
def kX5_rank : List Instr := [.iload 1, .iconst 255, .iand, .istore 2, .iload 1, .iconst 8, .iushr, .iconst 255, .iand, .istore 3, .iload 1, .iconst 16, .iushr, .iconst 255, .iand, .istore 4, .iload 1, .iconst 24, .iushr, .iconst 255, .iand, .istore 5, .aload 0, .getfield 3000, .ifCond .ne 39, .iload 2, .iconst 24, .ishl, .iload 3, .iconst 16, .ishl, .ior, .iload 4, .iconst 8, .ishl, .ior, .iload 5, .ior, .ireturn, .iload 2, .iload 3, .iadd, .iload 4, .iadd, .iload 5, .iadd, .iconst 15, .ishl, .iconst 30, .iload 5, .isub, .iconst 10, .ishl, .ior, .iconst 30, .iload 4, .isub, .iconst 5, .ishl, .ior, .iconst 30, .iload 3, .isub, .ior, .istore 6, .aload 0, .getfield 3000, .iconst 1, .if_icmp .ne 71, .iload 6, .goto 76, .iload 2, .iconst 22, .ishl, .iload 6, .ior, .ireturn]
def pX5_rank : List Nat := [0, 1, 4, 5, 6, 7, 9, 10, 13, 14, 15, 16, 18, 19, 22, 23, 25, 26, 28, 29, 32, 33, 35, 36, 39, 42, 43, 45, 46, 47, 49, 50, 51, 53, 55, 56, 57, 59, 60, 61, 62, 63, 64, 66, 67, 69, 70, 72, 73, 75, 77, 78, 80, 81, 82, 84, 86, 87, 88, 89, 90, 92, 93, 94, 95, 97, 98, 101, 102, 105, 107, 110, 111, 113, 114, 116, 117]
abbrev nX5_rank : Nat := 41
def kX6_init : List Instr := [.aload 0, .nop, .aload 0, .aload 1, .putfield 4002, .aload 0, .iconst 100, .newarray .long, .putfield 4012, .aload 0, .iconst 100, .newarray .int, .putfield 4022, .aload 0, .iconst 100, .newarray .int, .putfield 4032, .return_]
def pX6_init : List Nat := [0, 1, 4, 5, 6, 9, 10, 12, 14, 17, 18, 20, 22, 25, 26, 28, 30, 33]
abbrev nX6_init : Nat := 42
def kX6_empty : List Instr := [.aload 0, .iconst 0, .putfield 4040, .return_]
def pX6_empty : List Nat := [0, 1, 2, 5]
abbrev nX6_empty : Nat := 43
def kX6_become : List Instr := [.aload 0, .aload 1, .getfield 4040, .putfield 4040, .aload 1, .getfield 4012, .iconst 0, .aload 0, .getfield 4012, .iconst 0, .aload 0, .getfield 4040, .daload, .aload 1, .getfield 4022, .iconst 0, .aload 0, .getfield 4022, .iconst 0, .aload 0, .getfield 4040, .faload, .aload 1, .getfield 4032, .iconst 0, .aload 0, .getfield 4032, .iconst 0, .aload 0, .getfield 4040, .faload, .return_]
def pX6_become : List Nat := [0, 1, 2, 5, 8, 9, 12, 13, 14, 17, 18, 19, 22, 25, 26, 29, 30, 31, 34, 35, 36, 39, 42, 43, 46, 47, 48, 51, 52, 53, 56, 59]
abbrev nX6_become : Nat := 44
def kX6_isLike : List Instr := [.aload 0, .getfield 4040, .aload 1, .getfield 4040, .if_icmp .eq 7, .iconst 0, .ireturn, .iconst 0, .istore 2, .iload 2, .aload 0, .getfield 4040, .if_icmp .ge 36, .aload 0, .getfield 4022, .iload 2, .iaload, .aload 1, .getfield 4022, .iload 2, .iaload, .if_icmp .ne 32, .aload 0, .getfield 4012, .iload 2, .laload, .aload 1, .getfield 4012, .iload 2, .laload, .lcmp, .ifCond .eq 34, .iconst 0, .ireturn, .iinc 2 1, .goto 9, .iconst 1, .ireturn]
def pX6_isLike : List Nat := [0, 1, 4, 5, 8, 11, 12, 13, 14, 15, 16, 17, 20, 23, 24, 27, 28, 29, 30, 33, 34, 35, 38, 39, 42, 43, 44, 45, 48, 49, 50, 51, 54, 55, 56, 59, 62, 63]
abbrev nX6_isLike : Nat := 45
def kX6_isWithout : List Instr := [.iconst 0, .istore 2, .iload 2, .aload 0, .getfield 4040, .if_icmp .ge 24, .iconst 0, .istore 3, .iload 3, .iload 1, .if_icmp .ge 22, .aload 0, .getfield 4022, .iload 2, .iaload, .iload 3, .invokestatic 342100, .ifCond .eq 20, .iconst 0, .ireturn, .iinc 3 1, .goto 8, .iinc 2 1, .goto 2, .iconst 1, .ireturn]
def pX6_isWithout : List Nat := [0, 1, 2, 3, 4, 7, 10, 11, 12, 13, 14, 17, 18, 21, 22, 23, 24, 27, 30, 31, 32, 35, 38, 41, 44, 45]
abbrev nX6_isWithout : Nat := 46
def kX6_come : List Instr := [.aload 0, .getfield 4002, .iload 3, .invokevirtual 412103, .istore 4, .aload 0, .iload 4, .invokevirtual 482104, .istore 5, .iload 5, .aload 0, .getfield 4040, .if_icmp .ge 54, .aload 0, .getfield 4032, .iload 5, .iaload, .iload 4, .if_icmp .ne 54, .aload 0, .getfield 4012, .iload 5, .laload, .lload 1, .invokestatic 112300, .lstore 6, .lload 6, .jsr_w 1, .lcmp, .ifCond .ne 37, .aload 0, .iload 5, .iconst 1, .iadd, .iload 5, .invokevirtual 493004, .goto 46, .lload 6, .jsr_w 0, .lcmp, .ifCond .eq 46, .aload 0, .getfield 4012, .iload 5, .lload 6, .lastore, .lload 6, .jsr_w 0, .lcmp, .ifCond .eq 52, .iconst 1, .goto 53, .iconst 0, .ireturn, .aload 0, .getfield 4040, .iconst 100, .if_icmp .lt 60, .iconst 0, .ireturn, .aload 0, .iload 5, .iload 5, .iconst 1, .iadd, .invokevirtual 493004, .aload 0, .getfield 4012, .iload 5, .lload 1, .lastore, .aload 0, .getfield 4022, .iload 5, .iload 3, .iastore, .aload 0, .getfield 4032, .iload 5, .iload 4, .iastore, .iconst 1, .ireturn]
def pX6_come : List Nat := [0, 1, 4, 5, 8, 10, 11, 13, 16, 18, 20, 21, 24, 27, 28, 31, 33, 34, 36, 39, 40, 43, 45, 46, 47, 50, 52, 54, 55, 56, 59, 60, 62, 63, 64, 66, 69, 72, 74, 75, 76, 79, 80, 83, 85, 87, 88, 90, 91, 92, 95, 96, 99, 100, 101, 102, 105, 107, 110, 111, 112, 113, 115, 117, 118, 119, 122, 123, 126, 128, 129, 130, 131, 134, 136, 137, 138, 139, 142, 144, 146, 147, 148]
abbrev nX6_come : Nat := 47
def kX6_find : List Instr := [.iconst 0, .istore 2, .aload 0, .getfield 4040, .istore 3, .iconst 0, .istore 4, .iload 4, .iconst 8, .if_icmp .ge 34, .iload 2, .iload 3, .if_icmp .ge 34, .iload 2, .iload 3, .iadd, .iconst 1, .iushr, .istore 5, .aload 0, .getfield 4032, .iload 5, .iaload, .iload 1, .if_icmp .le 30, .iload 5, .iconst 1, .iadd, .istore 2, .goto 32, .iload 5, .istore 3, .iinc 4 1, .goto 7, .iload 2, .ireturn]
def pX6_find : List Nat := [0, 1, 2, 3, 6, 7, 8, 10, 12, 14, 17, 18, 19, 22, 23, 24, 25, 26, 27, 29, 30, 33, 35, 36, 37, 40, 42, 43, 44, 45, 48, 50, 51, 54, 57, 58]
abbrev nX6_find : Nat := 48
def kX6_shift : List Instr := [.aload 0, .getfield 4012, .iload 1, .aload 0, .getfield 4012, .iload 2, .aload 0, .getfield 4040, .iload 1, .isub, .daload, .aload 0, .getfield 4022, .iload 1, .aload 0, .getfield 4022, .iload 2, .aload 0, .getfield 4040, .iload 1, .isub, .faload, .aload 0, .getfield 4032, .iload 1, .aload 0, .getfield 4032, .iload 2, .aload 0, .getfield 4040, .iload 1, .isub, .faload, .aload 0, .dup, .getfield 4040, .iload 2, .iload 1, .isub, .iadd, .putfield 4040, .return_]
def pX6_shift : List Nat := [0, 1, 4, 5, 6, 9, 10, 11, 14, 15, 16, 19, 20, 23, 24, 25, 28, 29, 30, 33, 34, 35, 38, 39, 42, 43, 44, 47, 48, 49, 52, 53, 54, 57, 58, 59, 62, 63, 64, 65, 66, 69]
abbrev nX6_shift : Nat := 49
def kX6_behead : List Instr := [.aload 0, .getfield 4040, .ifCond .le 7, .aload 0, .iconst 1, .iconst 0, .invokevirtual 493004, .return_]
def pX6_behead : List Nat := [0, 1, 4, 7, 8, 9, 10, 13]
abbrev nX6_behead : Nat := 50
def kX6_addMultiple : List Instr := [.iconst 0, .istore 5, .iload 5, .aload 4, .getfield 4040, .if_icmp .ge 38, .aload 4, .getfield 4022, .iload 5, .iaload, .iload 3, .iadd, .istore 6, .iload 6, .invokestatic 361200, .ifCond .ne 18, .iconst 0, .ireturn, .aload 4, .getfield 4012, .iload 5, .laload, .lload 1, .invokestatic 122300, .lstore 7, .lload 7, .jsr_w 0, .lcmp, .ifCond .eq 34, .aload 0, .lload 7, .iload 6, .invokevirtual 473204, .ifCond .ne 36, .iconst 0, .ireturn, .iinc 5 1, .goto 2, .iconst 1, .ireturn]
def pX6_addMultiple : List Nat := [0, 1, 3, 5, 7, 10, 13, 15, 18, 20, 21, 22, 23, 25, 27, 30, 33, 34, 35, 37, 40, 42, 43, 44, 47, 49, 51, 52, 53, 56, 57, 59, 61, 64, 67, 68, 69, 72, 75, 76]
abbrev nX6_addMultiple : Nat := 51
def kX6_addProduct : List Instr := [.iconst 0, .istore 3, .iload 3, .aload 1, .getfield 4040, .if_icmp .ge 22, .aload 0, .aload 1, .getfield 4012, .iload 3, .laload, .aload 1, .getfield 4022, .iload 3, .iaload, .aload 2, .invokevirtual 514204, .ifCond .ne 20, .iconst 0, .ireturn, .iinc 3 1, .goto 2, .iconst 1, .ireturn]
def pX6_addProduct : List Nat := [0, 1, 2, 3, 4, 7, 10, 11, 12, 15, 16, 17, 18, 21, 22, 23, 24, 27, 30, 31, 32, 35, 38, 39]
abbrev nX6_addProduct : Nat := 52
def kX6_becomeProduct : List Instr := [.aload 0, .invokevirtual 431004, .aload 0, .aload 1, .aload 2, .invokevirtual 523204, .ireturn]
def pX6_becomeProduct : List Nat := [0, 1, 4, 5, 6, 7, 10]
abbrev nX6_becomeProduct : Nat := 53
def kX6_multiply : List Instr := [.iconst 0, .istore 3, .iload 3, .aload 0, .getfield 4040, .if_icmp .ge 26, .aload 0, .getfield 4012, .iload 3, .laload, .lload 1, .invokestatic 122300, .lstore 4, .lload 4, .jsr_w 0, .lcmp, .ifCond .ne 19, .iconst 0, .ireturn, .aload 0, .getfield 4012, .iload 3, .lload 4, .lastore, .iinc 3 1, .goto 2, .iconst 1, .ireturn]
def pX6_multiply : List Nat := [0, 1, 2, 3, 4, 7, 10, 11, 14, 15, 16, 17, 20, 22, 24, 25, 26, 29, 30, 31, 32, 35, 36, 38, 39, 42, 45, 46]
abbrev nX6_multiply : Nat := 54
def kX6_arrange : List Instr := [.iconst 0, .istore 1, .iload 1, .aload 0, .getfield 4040, .if_icmp .ge 82, .aload 0, .getfield 4012, .iload 1, .laload, .lstore 2, .aload 0, .getfield 4022, .iload 1, .iaload, .istore 4, .aload 0, .getfield 4002, .iload 4, .invokevirtual 412103, .istore 5, .iload 1, .istore 6, .iload 6, .ifCond .le 65, .aload 0, .getfield 4032, .iload 6, .iconst 1, .isub, .iaload, .iload 5, .if_icmp .ge 65, .aload 0, .getfield 4012, .iload 6, .aload 0, .getfield 4012, .iload 6, .iconst 1, .isub, .laload, .lastore, .aload 0, .getfield 4022, .iload 6, .aload 0, .getfield 4022, .iload 6, .iconst 1, .isub, .iaload, .iastore, .aload 0, .getfield 4032, .iload 6, .aload 0, .getfield 4032, .iload 6, .iconst 1, .isub, .iaload, .iastore, .iinc 6 (-1), .goto 23, .aload 0, .getfield 4012, .iload 6, .lload 2, .lastore, .aload 0, .getfield 4022, .iload 6, .iload 4, .iastore, .aload 0, .getfield 4032, .iload 6, .iload 5, .iastore, .iinc 1 1, .goto 2, .return_]
def pX6_arrange : List Nat := [0, 1, 2, 3, 4, 7, 10, 11, 14, 15, 16, 17, 18, 21, 22, 23, 25, 26, 29, 31, 34, 36, 37, 39, 41, 44, 45, 48, 50, 51, 52, 53, 55, 58, 59, 62, 64, 65, 68, 70, 71, 72, 73, 74, 75, 78, 80, 81, 84, 86, 87, 88, 89, 90, 91, 94, 96, 97, 100, 102, 103, 104, 105, 106, 109, 112, 113, 116, 118, 119, 120, 121, 124, 126, 128, 129, 130, 133, 135, 137, 138, 141, 144]
abbrev nX6_arrange : Nat := 55
def kX6_valueAt : List Instr := [.jsr_w 1, .lstore 3, .iconst 0, .istore 5, .iload 5, .aload 0, .getfield 4040, .if_icmp .ge 32, .aload 0, .iload 5, .aload 1, .iload 2, .invokevirtual 574304, .lstore 6, .lload 6, .jsr_w 0, .lcmp, .ifCond .ne 20, .jsr_w 0, .lreturn, .lload 3, .lload 6, .invokestatic 112300, .lstore 3, .lload 3, .jsr_w 0, .lcmp, .ifCond .ne 30, .jsr_w 0, .lreturn, .iinc 5 1, .goto 4, .lload 3, .lreturn]
def pX6_valueAt : List Nat := [0, 1, 2, 3, 5, 7, 8, 11, 14, 15, 17, 18, 19, 22, 24, 26, 27, 28, 31, 32, 33, 34, 36, 39, 40, 41, 42, 43, 46, 47, 48, 51, 54, 55]
abbrev nX6_valueAt : Nat := 56
def kX6_termAt : List Instr := [.aload 0, .getfield 4012, .iload 1, .laload, .lstore 4, .iconst 0, .istore 6, .iload 6, .iload 3, .if_icmp .ge 43, .aload 0, .getfield 4022, .iload 1, .iaload, .iload 6, .invokestatic 342100, .istore 7, .aload 2, .iload 6, .iaload, .i2l, .jsr_w 1, .invokestatic 102300, .lstore 8, .iconst 0, .istore 10, .iload 10, .iload 7, .if_icmp .ge 41, .lload 4, .lload 8, .invokestatic 122300, .lstore 4, .lload 4, .jsr_w 0, .lcmp, .ifCond .ne 39, .jsr_w 0, .lreturn, .iinc 10 1, .goto 26, .iinc 6 1, .goto 7, .lload 4, .lreturn]
def pX6_termAt : List Nat := [0, 1, 4, 5, 6, 8, 9, 11, 13, 14, 17, 18, 21, 22, 23, 25, 28, 30, 31, 33, 34, 35, 36, 39, 41, 42, 44, 46, 48, 51, 53, 55, 58, 60, 62, 63, 64, 67, 68, 69, 72, 75, 78, 81, 83]
abbrev nX6_termAt : Nat := 57
def kX7_init : List Instr := [.aload 0, .nop, .aload 0, .iload 1, .iconst 1, .if_icmp .ge 8, .iconst 1, .goto 14, .iload 1, .iconst 4, .if_icmp .le 13, .iconst 4, .goto 14, .iload 1, .putfield 5000, .aload 0, .new 301, .dup, .invokespecial 401003, .putfield 5012, .aload 0, .iconst 40, .aload 0, .getfield 5012, .invokestatic 812400, .putfield 5022, .aload 0, .iconst 9, .aload 0, .getfield 5012, .invokestatic 812400, .putfield 5032, .aload 0, .new 211, .dup, .aload 0, .getfield 5012, .iconst 8, .invokespecial 153002, .putfield 5052, .aload 0, .new 211, .dup, .aload 0, .getfield 5012, .iconst 0, .invokespecial 153002, .putfield 5072, .aload 0, .new 5, .dup, .aload 0, .getfield 5012, .invokespecial 2000, .putfield 5082, .aload 0, .new 5, .dup, .aload 0, .getfield 5012, .invokespecial 2000, .putfield 5092, .aload 0, .new 405, .dup, .aload 0, .getfield 5012, .invokespecial 422004, .putfield 5112, .aload 0, .new 405, .dup, .aload 0, .getfield 5012, .invokespecial 422004, .putfield 5122, .aload 0, .iconst 4, .newarray .int, .putfield 5132, .return_]
def pX7_init : List Nat := [0, 1, 4, 5, 6, 7, 10, 11, 14, 15, 16, 19, 20, 23, 24, 27, 28, 31, 32, 35, 38, 39, 41, 42, 45, 48, 51, 52, 54, 55, 58, 61, 64, 65, 68, 69, 70, 73, 75, 78, 81, 82, 85, 86, 87, 90, 91, 94, 97, 98, 101, 102, 103, 106, 109, 112, 113, 116, 117, 118, 121, 124, 127, 128, 131, 132, 133, 136, 139, 142, 143, 146, 147, 148, 151, 154, 157, 158, 159, 161, 164]
abbrev nX7_init : Nat := 58
def kX7_variables : List Instr := [.aload 0, .getfield 5000, .ireturn]
def pX7_variables : List Nat := [0, 1, 4]
abbrev nX7_variables : Nat := 59
def kX7_order : List Instr := [.iload 1, .ifCond .lt 5, .iload 1, .iconst 2, .if_icmp .le 7, .iconst (-2), .ireturn, .aload 0, .getfield 5012, .getfield 3000, .istore 2, .aload 0, .getfield 5012, .iload 1, .putfield 3000, .iconst 0, .istore 3, .iload 3, .iconst 40, .if_icmp .ge 27, .aload 0, .getfield 5022, .iload 3, .ret 0, .invokevirtual 551004, .iinc 3 1, .goto 17, .iconst 0, .istore 3, .iload 3, .aload 0, .getfield 5040, .if_icmp .ge 40, .aload 0, .getfield 5032, .iload 3, .ret 0, .invokevirtual 551004, .iinc 3 1, .goto 29, .aload 0, .invokevirtual 881005, .iload 2, .ireturn]
def pX7_order : List Nat := [0, 1, 4, 5, 6, 9, 11, 12, 13, 16, 19, 20, 21, 24, 25, 28, 29, 30, 31, 33, 36, 37, 40, 41, 42, 45, 48, 51, 52, 53, 54, 55, 58, 61, 62, 65, 66, 67, 70, 73, 76, 77, 80, 81]
abbrev nX7_order : Nat := 60
def kX7_term : List Instr := [.iload 1, .invokestatic 821200, .ifCond .ne 5, .iconst (-1), .ireturn, .iload 2, .iconst 1000000000, .invokestatic 832200, .ifCond .ne 19, .iload 3, .iconst 1000000000, .invokestatic 832200, .ifCond .ne 19, .iload 3, .ifCond .eq 19, .aload 0, .iload 4, .invokevirtual 842205, .ifCond .ne 21, .iconst (-2), .ireturn, .aload 0, .getfield 5022, .iload 1, .ret 0, .astore 5, .iload 2, .ifCond .eq 51, .iload 3, .ifCond .ge 38, .iload 2, .ineg, .i2l, .iload 3, .ineg, .i2l, .invokestatic 102300, .goto 43, .iload 2, .i2l, .iload 3, .i2l, .invokestatic 102300, .lstore 6, .aload 5, .lload 6, .iload 4, .invokevirtual 473204, .ifCond .ne 51, .iconst (-7), .ireturn, .aload 5, .getfield 4040, .ireturn]
def pX7_term : List Nat := [0, 1, 4, 7, 8, 9, 10, 12, 15, 18, 19, 21, 24, 27, 28, 31, 32, 34, 37, 40, 42, 43, 44, 47, 48, 49, 51, 52, 55, 56, 59, 60, 61, 62, 63, 64, 65, 68, 71, 72, 73, 74, 75, 78, 80, 82, 84, 86, 89, 92, 94, 95, 97, 100]
abbrev nX7_term : Nat := 61
def kX7_zero : List Instr := [.iload 1, .invokestatic 821200, .ifCond .ne 5, .iconst (-1), .ireturn, .aload 0, .getfield 5022, .iload 1, .ret 0, .getfield 4040, .istore 2, .aload 0, .getfield 5022, .iload 1, .ret 0, .invokevirtual 431004, .iload 2, .ireturn]
def pX7_zero : List Nat := [0, 1, 4, 7, 8, 9, 10, 13, 14, 15, 18, 19, 20, 23, 24, 25, 28, 29]
abbrev nX7_zero : Nat := 62
def kX7_size : List Instr := [.iload 1, .invokestatic 821200, .ifCond .eq 9, .aload 0, .getfield 5022, .iload 1, .ret 0, .getfield 4040, .goto 10, .iconst (-1), .ireturn]
def pX7_size : List Nat := [0, 1, 4, 7, 8, 11, 12, 13, 16, 19, 20]
abbrev nX7_size : Nat := 63
def kX7_told : List Instr := [.iload 1, .invokestatic 821200, .ifCond .eq 12, .iload 2, .ifCond .lt 12, .iload 2, .aload 0, .getfield 5022, .iload 1, .ret 0, .getfield 4040, .if_icmp .lt 14, .iconst (-1), .ireturn, .iload 3, .tableswitch 42 0 2 #[16, 25, 34], .aload 0, .getfield 5022, .iload 1, .ret 0, .getfield 4012, .iload 2, .laload, .invokestatic 81100, .ireturn, .aload 0, .getfield 5022, .iload 1, .ret 0, .getfield 4012, .iload 2, .laload, .invokestatic 91100, .ireturn, .aload 0, .getfield 5022, .iload 1, .ret 0, .getfield 4022, .iload 2, .iaload, .ireturn, .iconst (-2), .ireturn]
def pX7_told : List Nat := [0, 1, 4, 7, 8, 11, 12, 13, 16, 17, 18, 21, 24, 25, 26, 27, 52, 53, 56, 57, 58, 61, 62, 63, 66, 67, 68, 71, 72, 73, 76, 77, 78, 81, 82, 83, 86, 87, 88, 91, 92, 93, 94, 96]
abbrev nX7_told : Nat := 64
def kX7_plus : List Instr := [.iload 1, .invokestatic 821200, .ifCond .eq 9, .iload 2, .invokestatic 821200, .ifCond .eq 9, .iload 3, .invokestatic 821200, .ifCond .ne 11, .iconst (-1), .ireturn, .aload 0, .getfield 5112, .aload 0, .getfield 5022, .iload 1, .ret 0, .invokevirtual 442004, .aload 0, .getfield 5112, .jsr_w 4294967297, .iconst 0, .aload 0, .getfield 5022, .iload 2, .ret 0, .invokevirtual 514204, .ifCond .eq 34, .aload 0, .aload 0, .getfield 5112, .iload 3, .invokevirtual 873105, .goto 35, .iconst (-7), .ireturn]
def pX7_plus : List Nat := [0, 1, 4, 7, 8, 11, 14, 15, 18, 21, 22, 23, 24, 27, 28, 31, 32, 33, 36, 37, 40, 43, 44, 45, 48, 49, 50, 53, 56, 57, 58, 61, 62, 65, 68, 70]
abbrev nX7_plus : Nat := 65
def kX7_times : List Instr := [.iload 1, .invokestatic 821200, .ifCond .eq 9, .iload 2, .invokestatic 821200, .ifCond .eq 9, .iload 3, .invokestatic 821200, .ifCond .ne 11, .iconst (-1), .ireturn, .aload 0, .getfield 5122, .aload 0, .getfield 5022, .iload 1, .ret 0, .aload 0, .getfield 5022, .iload 2, .ret 0, .invokevirtual 533204, .ifCond .eq 29, .aload 0, .aload 0, .getfield 5122, .iload 3, .invokevirtual 873105, .goto 30, .iconst (-7), .ireturn]
def pX7_times : List Nat := [0, 1, 4, 7, 8, 11, 14, 15, 18, 21, 22, 23, 24, 27, 28, 31, 32, 33, 34, 37, 38, 39, 42, 45, 46, 47, 50, 51, 54, 57, 59]
abbrev nX7_times : Nat := 66
def kX7_same : List Instr := [.iload 1, .invokestatic 821200, .ifCond .eq 6, .iload 2, .invokestatic 821200, .ifCond .ne 8, .iconst (-1), .ireturn, .aload 0, .getfield 5022, .iload 1, .ret 0, .aload 0, .getfield 5022, .iload 2, .ret 0, .invokevirtual 452204, .ifCond .eq 20, .iconst 1, .goto 21, .iconst 0, .ireturn]
def pX7_same : List Nat := [0, 1, 4, 7, 8, 11, 14, 15, 16, 17, 20, 21, 22, 23, 26, 27, 28, 31, 34, 35, 38, 39]
abbrev nX7_same : Nat := 67
def kX7_vanishes : List Instr := [.iload 1, .invokestatic 821200, .ifCond .ne 5, .iconst (-1), .ireturn, .aload 0, .getfield 5132, .iconst 0, .iload 2, .iastore, .aload 0, .getfield 5132, .iconst 1, .iload 3, .iastore, .aload 0, .getfield 5132, .iconst 2, .iload 4, .iastore, .aload 0, .getfield 5132, .iconst 3, .iload 5, .iastore, .iconst 0, .istore 6, .iload 6, .aload 0, .getfield 5000, .if_icmp .ge 42, .aload 0, .getfield 5132, .iload 6, .iaload, .iconst 1000, .invokestatic 832200, .ifCond .eq 40, .iconst (-2), .ireturn, .iinc 6 1, .goto 27, .aload 0, .getfield 5022, .iload 1, .ret 0, .aload 0, .getfield 5132, .aload 0, .getfield 5000, .invokevirtual 563304, .lstore 6, .lload 6, .jsr_w 0, .lcmp, .ifCond .ne 58, .iconst (-7), .ireturn, .lload 6, .jsr_w 1, .lcmp, .ifCond .ne 64, .iconst 1, .goto 65, .iconst 0, .ireturn]
def pX7_vanishes : List Nat := [0, 1, 4, 7, 8, 9, 10, 13, 14, 15, 16, 17, 20, 21, 22, 23, 24, 27, 28, 30, 31, 32, 35, 36, 38, 39, 40, 42, 44, 45, 48, 51, 52, 55, 57, 58, 61, 64, 67, 69, 70, 73, 76, 77, 80, 81, 82, 83, 86, 87, 90, 93, 95, 97, 98, 99, 102, 104, 105, 107, 108, 109, 112, 113, 116, 117]
abbrev nX7_vanishes : Nat := 68
def kX7_generator : List Instr := [.iload 1, .invokestatic 821200, .ifCond .ne 5, .iconst (-1), .ireturn, .aload 0, .getfield 5040, .iconst 8, .if_icmp .lt 11, .iconst (-4), .ireturn, .aload 0, .getfield 5032, .aload 0, .getfield 5040, .ret 0, .aload 0, .getfield 5022, .iload 1, .ret 0, .invokevirtual 442004, .aload 0, .dup, .getfield 5040, .iconst 1, .iadd, .putfield 5040, .aload 0, .invokevirtual 881005, .aload 0, .getfield 5040, .iconst 1, .isub, .ireturn]
def pX7_generator : List Nat := [0, 1, 4, 7, 8, 9, 10, 13, 15, 18, 20, 21, 22, 25, 26, 29, 30, 31, 34, 35, 36, 39, 40, 41, 44, 45, 46, 49, 50, 53, 54, 57, 58, 59]
abbrev nX7_generator : Nat := 69
def kX7_clear : List Instr := [.aload 0, .getfield 5040, .istore 1, .aload 0, .iconst 0, .putfield 5040, .aload 0, .invokevirtual 881005, .iload 1, .ireturn]
def pX7_clear : List Nat := [0, 1, 4, 5, 6, 7, 10, 11, 14, 15]
abbrev nX7_clear : Nat := 70
def kX7_basis : List Instr := [.iload 1, .ifCond .lt 5, .iload 1, .iconst 20000, .if_icmp .le 7, .iconst (-2), .ireturn, .aload 0, .invokevirtual 881005, .aload 0, .getfield 5052, .aload 0, .getfield 5032, .aload 0, .getfield 5040, .aload 0, .getfield 5040, .aload 0, .getfield 5082, .iload 1, .invokevirtual 166102, .istore 2, .iload 2, .ifCond .eq 26, .iload 2, .ireturn, .aload 0, .iconst 1, .putfield 5061, .aload 0, .getfield 5052, .getfield 2020, .ireturn]
def pX7_basis : List Nat := [0, 1, 4, 5, 8, 11, 13, 14, 15, 18, 19, 22, 23, 26, 27, 30, 31, 34, 35, 38, 39, 42, 43, 44, 47, 48, 49, 50, 51, 54, 55, 58, 61]
abbrev nX7_basis : Nat := 71
def kX7_done : List Instr := [.iload 1, .tableswitch 18 0 3 #[2, 6, 10, 14], .aload 0, .getfield 5052, .getfield 2030, .ireturn, .aload 0, .getfield 5052, .getfield 2040, .ireturn, .aload 0, .getfield 5052, .getfield 2050, .ireturn, .aload 0, .getfield 5052, .getfield 2060, .ireturn, .iconst (-2), .ireturn]
def pX7_done : List Nat := [0, 1, 32, 33, 36, 39, 40, 41, 44, 47, 48, 49, 52, 55, 56, 57, 60, 63, 64, 66]
abbrev nX7_done : Nat := 72
def kX7_element : List Instr := [.aload 0, .getfield 5061, .ifCond .ne 5, .iconst (-3), .ireturn, .aload 0, .iload 1, .invokevirtual 852205, .ifCond .eq 12, .iload 2, .invokestatic 821200, .ifCond .ne 14, .iconst (-1), .ireturn, .aload 0, .aload 0, .getfield 5052, .getfield 2012, .iload 1, .ret 1, .getfield 1002, .iload 2, .invokevirtual 873105, .ireturn]
def pX7_element : List Nat := [0, 1, 4, 7, 9, 10, 11, 12, 15, 18, 19, 22, 25, 26, 27, 28, 29, 32, 35, 36, 37, 40, 41, 44]
abbrev nX7_element : Nat := 73
def kX7_share : List Instr := [.aload 0, .getfield 5061, .ifCond .ne 5, .iconst (-3), .ireturn, .aload 0, .iload 1, .invokevirtual 852205, .ifCond .eq 16, .aload 0, .iload 2, .invokevirtual 862205, .ifCond .eq 16, .iload 3, .invokestatic 821200, .ifCond .ne 18, .iconst (-1), .ireturn, .aload 0, .aload 0, .getfield 5052, .getfield 2012, .iload 1, .ret 1, .getfield 1012, .iload 2, .ret 0, .iload 3, .invokevirtual 873105, .ireturn]
def pX7_share : List Nat := [0, 1, 4, 7, 9, 10, 11, 12, 15, 18, 19, 20, 23, 26, 27, 30, 33, 34, 35, 36, 37, 40, 43, 44, 45, 48, 49, 50, 51, 54]
abbrev nX7_share : Nat := 74
def kX7_divide : List Instr := [.iload 1, .invokestatic 821200, .ifCond .eq 6, .iload 2, .invokestatic 821200, .ifCond .ne 8, .iconst (-1), .ireturn, .aload 0, .getfield 5061, .ifCond .ne 13, .iconst (-3), .ireturn, .aload 0, .getfield 5082, .iconst 5000, .invokevirtual 12000, .aload 0, .getfield 5082, .aload 0, .getfield 5052, .getfield 2020, .invokevirtual 22000, .aload 0, .getfield 5082, .getfield 2, .aload 0, .getfield 5022, .iload 1, .ret 0, .invokevirtual 442004, .aload 0, .getfield 5082, .aload 0, .getfield 5052, .getfield 2012, .aload 0, .getfield 5052, .getfield 2020, .iconst (-1), .invokevirtual 34100, .istore 3, .iload 3, .ifCond .eq 46, .iload 3, .ireturn, .aload 0, .getfield 5082, .astore 4, .aload 0, .aload 0, .getfield 5092, .putfield 5082, .aload 0, .aload 4, .putfield 5092, .aload 0, .aload 0, .aload 4, .getfield 12, .iload 2, .invokevirtual 873105, .ifCond .ne 65, .iconst 1, .goto 66, .iconst 0, .putfield 5101, .aload 0, .getfield 5101, .ifCond .eq 72, .iconst 1, .goto 73, .iconst 0, .ireturn]
def pX7_divide : List Nat := [0, 1, 4, 7, 8, 11, 14, 15, 16, 17, 20, 23, 25, 26, 27, 30, 33, 36, 37, 40, 41, 44, 47, 50, 51, 54, 57, 58, 61, 62, 63, 66, 67, 70, 71, 74, 77, 78, 81, 84, 85, 88, 89, 90, 93, 94, 95, 96, 99, 101, 102, 103, 106, 109, 110, 112, 115, 116, 117, 119, 122, 123, 126, 129, 130, 133, 134, 137, 138, 141, 144, 145, 148, 149]
abbrev nX7_divide : Nat := 75
def kX7_certificate : List Instr := [.aload 0, .getfield 5061, .ifCond .eq 6, .aload 0, .getfield 5101, .ifCond .ne 8, .iconst (-3), .ireturn, .aload 0, .iload 1, .invokevirtual 862205, .ifCond .eq 15, .iload 2, .invokestatic 821200, .ifCond .ne 17, .iconst (-1), .ireturn, .aload 0, .getfield 5112, .invokevirtual 431004, .iconst 0, .istore 3, .iload 3, .aload 0, .getfield 5052, .getfield 2020, .if_icmp .ge 48, .aload 0, .getfield 5112, .aload 0, .getfield 5092, .getfield 22, .iload 3, .ret 0, .aload 0, .getfield 5052, .getfield 2012, .iload 3, .ret 1, .getfield 1012, .iload 1, .ret 0, .invokevirtual 523204, .ifCond .ne 46, .iconst (-7), .ireturn, .iinc 3 1, .goto 22, .aload 0, .aload 0, .getfield 5112, .iload 2, .invokevirtual 873105, .ireturn]
def pX7_certificate : List Nat := [0, 1, 4, 7, 8, 11, 14, 16, 17, 18, 19, 22, 25, 26, 29, 32, 33, 34, 35, 38, 41, 42, 43, 44, 45, 48, 51, 54, 55, 58, 59, 62, 65, 66, 67, 68, 71, 74, 75, 76, 79, 80, 81, 84, 87, 89, 90, 93, 96, 97, 98, 101, 102, 105]
abbrev nX7_certificate : Nat := 76
def kX7_check : List Instr := [.aload 0, .getfield 5061, .ifCond .ne 5, .iconst (-3), .ireturn, .iconst 1, .istore 1, .iconst 0, .istore 2, .iload 2, .aload 0, .getfield 5052, .getfield 2020, .if_icmp .ge 37, .aload 0, .getfield 5052, .getfield 2012, .iload 2, .ret 1, .astore 3, .aload 0, .aload 3, .getfield 1012, .invokevirtual 892205, .ifCond .ne 27, .iconst (-7), .ireturn, .aload 0, .getfield 5112, .aload 3, .getfield 1002, .invokevirtual 452204, .ifCond .ne 35, .iconst 0, .istore 1, .iinc 2 1, .goto 9, .iload 1, .ireturn]
def pX7_check : List Nat := [0, 1, 4, 7, 9, 10, 11, 12, 13, 14, 15, 16, 19, 22, 25, 26, 29, 32, 33, 34, 35, 36, 37, 40, 43, 46, 48, 49, 50, 53, 54, 57, 60, 63, 64, 65, 68, 71, 72]
abbrev nX7_check : Nat := 77
def kX7_radical : List Instr := [.iload 1, .invokestatic 821200, .ifCond .ne 5, .iconst (-1), .ireturn, .iload 2, .ifCond .lt 10, .iload 2, .iconst 20000, .if_icmp .le 12, .iconst (-2), .ireturn, .aload 0, .getfield 5000, .iconst 4, .if_icmp .lt 18, .iconst (-3), .ireturn, .aload 0, .getfield 5032, .aload 0, .getfield 5040, .ret 0, .astore 3, .aload 3, .invokevirtual 431004, .aload 3, .jsr_w 4294967297, .iconst 0, .invokevirtual 473204, .ifCond .eq 42, .aload 3, .jsr_w (-4294967295), .aload 0, .getfield 5000, .invokestatic 351100, .aload 0, .getfield 5022, .iload 1, .ret 0, .invokevirtual 514204, .ifCond .ne 44, .iconst (-7), .ireturn, .aload 0, .getfield 5072, .aload 0, .getfield 5032, .aload 0, .getfield 5040, .iconst 1, .iadd, .iconst 0, .aload 0, .getfield 5082, .iload 2, .invokevirtual 166102, .istore 4, .iload 4, .ifCond .eq 62, .iload 4, .ireturn, .aload 0, .getfield 5072, .invokevirtual 301202, .ifCond .eq 68, .iconst 1, .goto 69, .iconst 0, .ireturn]
def pX7_radical : List Nat := [0, 1, 4, 7, 8, 9, 10, 13, 14, 17, 20, 22, 23, 24, 27, 28, 31, 33, 34, 35, 38, 39, 42, 43, 44, 45, 48, 49, 52, 53, 56, 59, 60, 63, 64, 67, 70, 71, 74, 75, 76, 79, 82, 84, 85, 86, 89, 90, 93, 94, 97, 98, 99, 100, 101, 104, 105, 108, 110, 112, 115, 117, 118, 119, 122, 125, 128, 129, 132, 133]
abbrev nX7_radical : Nat := 78
def kX7_free : List Instr := [.iload 1, .ifCond .lt 6, .iload 1, .aload 0, .getfield 5000, .if_icmp .le 8, .iconst (-2), .ireturn, .aload 0, .getfield 5061, .ifCond .ne 13, .iconst (-3), .ireturn, .iconst 0, .istore 2, .iconst 0, .istore 3, .iload 3, .aload 0, .getfield 5052, .getfield 2020, .if_icmp .ge 34, .aload 0, .getfield 5052, .getfield 2012, .iload 3, .ret 1, .getfield 1002, .iload 1, .invokevirtual 462204, .ifCond .eq 32, .iinc 2 1, .iinc 3 1, .goto 17, .iload 2, .ireturn]
def pX7_free : List Nat := [0, 1, 4, 5, 6, 9, 12, 14, 15, 16, 19, 22, 24, 25, 26, 27, 28, 29, 30, 31, 34, 37, 40, 41, 44, 47, 48, 49, 52, 53, 56, 59, 62, 65, 68, 69]
abbrev nX7_free : Nat := 79
def kX7_stairs : List Instr := [.aload 0, .getfield 5061, .ifCond .eq 9, .aload 0, .getfield 5052, .aload 0, .getfield 5000, .invokevirtual 312102, .goto 10, .iconst (-3), .ireturn]
def pX7_stairs : List Nat := [0, 1, 4, 7, 8, 11, 12, 15, 18, 21, 23]
abbrev nX7_stairs : Nat := 80
def kX7_row : List Instr := [.iload 0, .anewarray 0, .astore 2, .iconst 0, .istore 3, .iload 3, .iload 0, .if_icmp .ge 17, .aload 2, .iload 3, .new 405, .dup, .aload 1, .invokespecial 422004, .putstatic 40, .iinc 3 1, .goto 5, .aload 2, .areturn]
def pX7_row : List Nat := [0, 1, 4, 5, 6, 7, 8, 9, 12, 13, 14, 17, 18, 19, 22, 23, 26, 29, 30]
abbrev nX7_row : Nat := 81
def kX7_isPlace : List Instr := [.iload 0, .ifCond .lt 7, .iload 0, .iconst 40, .if_icmp .ge 7, .iconst 1, .goto 8, .iconst 0, .ireturn]
def pX7_isPlace : List Nat := [0, 1, 4, 5, 7, 10, 11, 14, 15]
abbrev nX7_isPlace : Nat := 82
def kX7_isLarge : List Instr := [.iload 0, .iload 1, .if_icmp .gt 7, .iload 0, .iload 1, .ineg, .if_icmp .ge 9, .iconst 1, .goto 10, .iconst 0, .ireturn]
def pX7_isLarge : List Nat := [0, 1, 2, 5, 6, 7, 8, 11, 12, 15, 16]
abbrev nX7_isLarge : Nat := 83
def kX7_isTold : List Instr := [.iload 1, .invokestatic 361200, .ifCond .ne 5, .iconst 0, .ireturn, .aload 0, .getfield 5000, .istore 2, .iload 2, .iconst 4, .if_icmp .ge 19, .iload 1, .iload 2, .invokestatic 342100, .ifCond .eq 17, .iconst 0, .ireturn, .iinc 2 1, .goto 8, .iconst 1, .ireturn]
def pX7_isTold : List Nat := [0, 1, 4, 7, 8, 9, 10, 13, 14, 15, 16, 19, 20, 21, 24, 27, 28, 29, 32, 35, 36]
abbrev nX7_isTold : Nat := 84
def kX7_isElement : List Instr := [.iload 1, .ifCond .lt 9, .iload 1, .aload 0, .getfield 5052, .getfield 2020, .if_icmp .ge 9, .iconst 1, .goto 10, .iconst 0, .ireturn]
def pX7_isElement : List Nat := [0, 1, 4, 5, 6, 9, 12, 15, 16, 19, 20]
abbrev nX7_isElement : Nat := 85
def kX7_isGenerator : List Instr := [.iload 1, .ifCond .lt 8, .iload 1, .aload 0, .getfield 5040, .if_icmp .ge 8, .iconst 1, .goto 9, .iconst 0, .ireturn]
def pX7_isGenerator : List Nat := [0, 1, 4, 5, 6, 9, 12, 13, 16, 17]
abbrev nX7_isGenerator : Nat := 86
def kX7_put : List Instr := [.aload 0, .getfield 5022, .iload 2, .ret 0, .aload 1, .invokevirtual 442004, .aload 1, .getfield 4040, .ireturn]
def pX7_put : List Nat := [0, 1, 4, 5, 6, 7, 10, 11, 14]
abbrev nX7_put : Nat := 87
def kX7_forgetBasis : List Instr := [.aload 0, .iconst 0, .putfield 5061, .aload 0, .iconst 0, .putfield 5101, .return_]
def pX7_forgetBasis : List Nat := [0, 1, 2, 5, 6, 7, 10]
abbrev nX7_forgetBasis : Nat := 88
def kX7_sumUp : List Instr := [.aload 0, .getfield 5112, .invokevirtual 431004, .iconst 0, .istore 2, .iload 2, .aload 0, .getfield 5040, .if_icmp .ge 32, .aload 0, .getfield 5122, .aload 1, .iload 2, .ret 0, .aload 0, .getfield 5032, .iload 2, .ret 0, .invokevirtual 533204, .ifCond .eq 28, .aload 0, .getfield 5112, .jsr_w 4294967297, .iconst 0, .aload 0, .getfield 5122, .invokevirtual 514204, .ifCond .ne 30, .iconst 0, .ireturn, .iinc 2 1, .goto 5, .iconst 1, .ireturn]
def pX7_sumUp : List Nat := [0, 1, 4, 7, 8, 9, 10, 11, 14, 17, 18, 21, 22, 23, 24, 25, 28, 29, 30, 33, 36, 37, 40, 43, 44, 45, 48, 51, 54, 55, 56, 59, 62, 63]
abbrev nX7_sumUp : Nat := 89
def kX8_init : List Instr := [.aload 0, .nop, .aload 0, .iconst 37200, .newarray .int, .putfield 6032, .aload 0, .iconst 37200, .newarray .int, .putfield 6042, .aload 0, .iconst 37200, .newarray .int, .putfield 6052, .aload 0, .iconst 372, .newarray .int, .putfield 6062, .aload 0, .iconst 4, .newarray .int, .putfield 6152, .aload 0, .iconst 4, .newarray .int, .putfield 6182, .aload 0, .iconst 625, .newarray .boolean, .putfield 6232, .aload 0, .iconst 25, .newarray .boolean, .putfield 6272, .aload 0, .iload 1, .iconst 1, .if_icmp .ge 40, .iconst 1, .goto 46, .iload 1, .iconst 4, .if_icmp .le 45, .iconst 4, .goto 46, .iload 1, .putfield 6000, .aload 0, .aload 0, .getfield 6000, .putfield 6010, .return_]
def pX8_init : List Nat := [0, 1, 4, 5, 7, 9, 12, 13, 15, 17, 20, 21, 23, 25, 28, 29, 32, 34, 37, 38, 39, 41, 44, 45, 46, 48, 51, 52, 55, 57, 60, 61, 63, 65, 68, 69, 70, 71, 74, 75, 78, 79, 80, 83, 84, 87, 88, 91, 92, 93, 96, 99]
abbrev nX8_init : Nat := 90
def kX8_variables : List Instr := [.aload 0, .getfield 6000, .ireturn]
def pX8_variables : List Nat := [0, 1, 4]
abbrev nX8_variables : Nat := 91
def kX8_exponent : List Instr := [.iload 0, .iconst 5, .iload 1, .imul, .ishr, .iconst 31, .iand, .ireturn]
def pX8_exponent : List Nat := [0, 1, 2, 3, 4, 5, 7, 8]
abbrev nX8_exponent : Nat := 92
def kX8_sum : List Instr := [.iconst 0, .istore 2, .iconst 0, .istore 3, .iload 3, .aload 0, .getfield 6010, .if_icmp .ge 16, .iload 2, .iload 1, .iload 3, .invokestatic 922100, .iadd, .istore 2, .iinc 3 1, .goto 4, .iload 2, .ireturn]
def pX8_sum : List Nat := [0, 1, 2, 3, 4, 5, 6, 9, 12, 13, 14, 15, 18, 19, 20, 23, 26, 27]
abbrev nX8_sum : Nat := 93
def kX8_compare : List Instr := [.aload 0, .getfield 6020, .ifCond .ne 31, .iconst 0, .istore 3, .iload 3, .aload 0, .getfield 6010, .if_icmp .ge 29, .iload 1, .iload 3, .invokestatic 922100, .iload 2, .iload 3, .invokestatic 922100, .if_icmp .eq 27, .iload 1, .iload 3, .invokestatic 922100, .iload 2, .iload 3, .invokestatic 922100, .if_icmp .ge 25, .iconst (-1), .goto 26, .iconst 1, .ireturn, .iinc 3 1, .goto 5, .iconst 0, .ireturn, .aload 0, .getfield 6020, .iconst 2, .if_icmp .ne 53, .iload 1, .iconst 0, .invokestatic 922100, .iload 2, .iconst 0, .invokestatic 922100, .if_icmp .eq 53, .iload 1, .iconst 0, .invokestatic 922100, .iload 2, .iconst 0, .invokestatic 922100, .if_icmp .ge 51, .iconst (-1), .goto 52, .iconst 1, .ireturn, .aload 0, .iload 1, .invokevirtual 932106, .aload 0, .iload 2, .invokevirtual 932106, .if_icmp .eq 71, .aload 0, .iload 1, .invokevirtual 932106, .aload 0, .iload 2, .invokevirtual 932106, .if_icmp .ge 69, .iconst (-1), .goto 70, .iconst 1, .ireturn, .aload 0, .getfield 6010, .iconst 1, .isub, .istore 3, .iload 3, .ifCond .lt 98, .iload 1, .iload 3, .invokestatic 922100, .iload 2, .iload 3, .invokestatic 922100, .if_icmp .eq 96, .iload 1, .iload 3, .invokestatic 922100, .iload 2, .iload 3, .invokestatic 922100, .if_icmp .le 94, .iconst (-1), .goto 95, .iconst 1, .ireturn, .iinc 3 (-1), .goto 76, .iconst 0, .ireturn]
def pX8_compare : List Nat := [0, 1, 4, 7, 8, 9, 10, 11, 14, 17, 18, 19, 22, 23, 24, 27, 30, 31, 32, 35, 36, 37, 40, 43, 44, 47, 48, 49, 52, 55, 56, 57, 58, 61, 62, 65, 66, 67, 70, 71, 72, 75, 78, 79, 80, 83, 84, 85, 88, 91, 92, 95, 96, 97, 98, 99, 102, 103, 104, 107, 110, 111, 112, 115, 116, 117, 120, 123, 124, 127, 128, 129, 130, 133, 134, 135, 136, 137, 140, 141, 142, 145, 146, 147, 150, 153, 154, 155, 158, 159, 160, 163, 166, 167, 170, 171, 172, 175, 178, 179]
abbrev nX8_compare : Nat := 94
def kX8_divides : List Instr := [.iconst 0, .istore 3, .iload 3, .aload 0, .getfield 6010, .if_icmp .ge 17, .iload 1, .iload 3, .invokestatic 922100, .iload 2, .iload 3, .invokestatic 922100, .if_icmp .le 15, .iconst 0, .ireturn, .iinc 3 1, .goto 2, .iconst 1, .ireturn]
def pX8_divides : List Nat := [0, 1, 2, 3, 4, 7, 10, 11, 12, 15, 16, 17, 20, 23, 24, 25, 28, 31, 32]
abbrev nX8_divides : Nat := 95
def kX8_common : List Instr := [.iconst 0, .istore 3, .iconst 0, .istore 4, .iload 4, .aload 0, .getfield 6010, .if_icmp .ge 31, .iload 1, .iload 4, .invokestatic 922100, .istore 5, .iload 2, .iload 4, .invokestatic 922100, .istore 6, .iload 3, .iload 5, .iload 6, .if_icmp .le 22, .iload 5, .goto 23, .iload 6, .iconst 5, .iload 4, .imul, .ishl, .ior, .istore 3, .iinc 4 1, .goto 4, .iload 3, .ireturn]
def pX8_common : List Nat := [0, 1, 2, 3, 5, 7, 8, 11, 14, 15, 17, 20, 22, 23, 25, 28, 30, 31, 33, 35, 38, 40, 43, 45, 46, 48, 49, 50, 51, 52, 55, 58, 59]
abbrev nX8_common : Nat := 96
def kX8_product : List Instr := [.iconst 0, .istore 3, .iload 3, .aload 0, .getfield 6010, .if_icmp .ge 25, .aload 0, .aload 0, .getfield 6111, .ifCond .ne 19, .iload 1, .iload 3, .invokestatic 922100, .iload 2, .iload 3, .invokestatic 922100, .iadd, .iconst 30, .if_icmp .le 21, .iconst 1, .goto 22, .iconst 0, .putfield 6111, .iinc 3 1, .goto 2, .aload 0, .getfield 6111, .ifCond .eq 30, .iconst 0, .goto 33, .iload 1, .iload 2, .iadd, .ireturn]
def pX8_product : List Nat := [0, 1, 2, 3, 4, 7, 10, 11, 12, 15, 18, 19, 20, 23, 24, 25, 28, 29, 31, 34, 35, 38, 39, 42, 45, 48, 49, 52, 55, 56, 59, 60, 61, 62]
abbrev nX8_product : Nat := 97
def kX8_lowest : List Instr := [.lload 1, .jsr_w 0, .lcmp, .ifCond .ge 7, .lload 1, .lneg, .goto 8, .lload 1, .lstore 5, .lload 3, .lstore 7, .lload 7, .jsr_w 0, .lcmp, .ifCond .eq 24, .lload 5, .lload 7, .lrem, .lstore 9, .lload 7, .lstore 5, .lload 9, .lstore 7, .goto 11, .lload 1, .lload 5, .ldiv, .lstore 9, .lload 3, .lload 5, .ldiv, .lstore 11, .aload 0, .aload 0, .getfield 6111, .ifCond .ne 48, .lload 9, .jsr_w 1000000000, .lcmp, .ifCond .gt 48, .lload 9, .jsr_w (-1000000000), .lcmp, .ifCond .lt 48, .lload 11, .jsr_w 1000000000, .lcmp, .ifCond .le 50, .iconst 1, .goto 51, .iconst 0, .putfield 6111, .aload 0, .aload 0, .getfield 6111, .ifCond .eq 58, .iconst 0, .goto 60, .lload 9, .l2i, .putfield 6160, .aload 0, .aload 0, .getfield 6111, .ifCond .eq 67, .iconst 1, .goto 69, .lload 11, .l2i, .putfield 6170, .return_]
def pX8_lowest : List Nat := [0, 1, 2, 3, 6, 7, 8, 11, 12, 14, 15, 17, 19, 20, 21, 24, 26, 28, 29, 31, 33, 35, 37, 39, 42, 43, 45, 46, 48, 49, 51, 52, 54, 55, 56, 59, 62, 64, 67, 68, 71, 73, 76, 77, 80, 82, 85, 86, 89, 90, 93, 94, 97, 98, 99, 102, 105, 106, 109, 111, 112, 115, 116, 117, 120, 123, 124, 127, 129, 130, 133]
abbrev nX8_lowest : Nat := 98
def kX8_multiplied : List Instr := [.aload 0, .lload 1, .lload 5, .lmul, .lload 3, .lload 7, .lmul, .invokevirtual 983006, .return_]
def pX8_multiplied : List Nat := [0, 1, 2, 4, 5, 6, 8, 9, 12]
abbrev nX8_multiplied : Nat := 99
def kX8_copy : List Instr := [.aload 0, .getfield 6062, .iload 2, .aload 0, .getfield 6062, .iload 1, .iaload, .iastore, .iconst 0, .istore 3, .iload 3, .aload 0, .getfield 6062, .iload 1, .iaload, .if_icmp .ge 66, .aload 0, .getfield 6032, .iconst 100, .iload 2, .imul, .iload 3, .iadd, .aload 0, .getfield 6032, .iconst 100, .iload 1, .imul, .iload 3, .iadd, .iaload, .iastore, .aload 0, .getfield 6042, .iconst 100, .iload 2, .imul, .iload 3, .iadd, .aload 0, .getfield 6042, .iconst 100, .iload 1, .imul, .iload 3, .iadd, .iaload, .iastore, .aload 0, .getfield 6052, .iconst 100, .iload 2, .imul, .iload 3, .iadd, .aload 0, .getfield 6052, .iconst 100, .iload 1, .imul, .iload 3, .iadd, .iaload, .iastore, .iinc 3 1, .goto 10, .return_]
def pX8_copy : List Nat := [0, 1, 4, 5, 6, 9, 10, 11, 12, 13, 14, 15, 16, 19, 20, 21, 24, 25, 28, 30, 31, 32, 33, 34, 35, 38, 40, 41, 42, 43, 44, 45, 46, 47, 50, 52, 53, 54, 55, 56, 57, 60, 62, 63, 64, 65, 66, 67, 68, 69, 72, 74, 75, 76, 77, 78, 79, 82, 84, 85, 86, 87, 88, 89, 90, 93, 96]
abbrev nX8_copy : Nat := 100
def kX8_lead : List Instr := [.aload 0, .getfield 6052, .iconst 100, .iload 1, .imul, .iaload, .ireturn]
def pX8_lead : List Nat := [0, 1, 4, 6, 7, 8, 9]
abbrev nX8_lead : Nat := 101
def kX8_comes : List Instr := [.aload 0, .getfield 6111, .ifCond .eq 4, .return_, .iconst 100, .iload 1, .imul, .istore 5, .iconst 0, .istore 6, .iload 6, .aload 0, .getfield 6062, .iload 1, .iaload, .if_icmp .ge 28, .aload 0, .aload 0, .getfield 6052, .iload 5, .iload 6, .iadd, .iaload, .iload 4, .invokevirtual 943106, .ifCond .le 28, .iinc 6 1, .goto 10, .iload 6, .aload 0, .getfield 6062, .iload 1, .iaload, .if_icmp .ge 159, .aload 0, .getfield 6052, .iload 5, .iload 6, .iadd, .iaload, .iload 4, .if_icmp .ne 159, .aload 0, .aload 0, .getfield 6032, .iload 5, .iload 6, .iadd, .iaload, .i2l, .iload 3, .i2l, .lmul, .iload 2, .i2l, .aload 0, .getfield 6042, .iload 5, .iload 6, .iadd, .iaload, .i2l, .lmul, .ladd, .aload 0, .getfield 6042, .iload 5, .iload 6, .iadd, .iaload, .i2l, .iload 3, .i2l, .lmul, .invokevirtual 983006, .aload 0, .getfield 6111, .ifCond .eq 79, .return_, .aload 0, .getfield 6032, .iload 5, .iload 6, .iadd, .aload 0, .getfield 6160, .iastore, .aload 0, .getfield 6042, .iload 5, .iload 6, .iadd, .aload 0, .getfield 6170, .iastore, .aload 0, .getfield 6160, .ifCond .ne 158, .aload 0, .getfield 6062, .iload 1, .dup2, .iaload, .iconst 1, .isub, .iastore, .iload 6, .istore 7, .iload 7, .aload 0, .getfield 6062, .iload 1, .iaload, .if_icmp .ge 158, .aload 0, .getfield 6032, .iload 5, .iload 7, .iadd, .aload 0, .getfield 6032, .iload 5, .iload 7, .iadd, .iconst 1, .iadd, .iaload, .iastore, .aload 0, .getfield 6042, .iload 5, .iload 7, .iadd, .aload 0, .getfield 6042, .iload 5, .iload 7, .iadd, .iconst 1, .iadd, .iaload, .iastore, .aload 0, .getfield 6052, .iload 5, .iload 7, .iadd, .aload 0, .getfield 6052, .iload 5, .iload 7, .iadd, .iconst 1, .iadd, .iaload, .iastore, .iinc 7 1, .goto 108, .return_, .aload 0, .getfield 6062, .iload 1, .iaload, .iconst 100, .if_icmp .ne 169, .aload 0, .iconst 1, .putfield 6111, .return_, .aload 0, .getfield 6062, .iload 1, .iaload, .istore 7, .iload 7, .iload 6, .if_icmp .le 221, .aload 0, .getfield 6032, .iload 5, .iload 7, .iadd, .aload 0, .getfield 6032, .iload 5, .iload 7, .iadd, .iconst 1, .isub, .iaload, .iastore, .aload 0, .getfield 6042, .iload 5, .iload 7, .iadd, .aload 0, .getfield 6042, .iload 5, .iload 7, .iadd, .iconst 1, .isub, .iaload, .iastore, .aload 0, .getfield 6052, .iload 5, .iload 7, .iadd, .aload 0, .getfield 6052, .iload 5, .iload 7, .iadd, .iconst 1, .isub, .iaload, .iastore, .iinc 7 (-1), .goto 174, .aload 0, .getfield 6032, .iload 5, .iload 6, .iadd, .iload 2, .iastore, .aload 0, .getfield 6042, .iload 5, .iload 6, .iadd, .iload 3, .iastore, .aload 0, .getfield 6052, .iload 5, .iload 6, .iadd, .iload 4, .iastore, .aload 0, .getfield 6062, .iload 1, .dup2, .iaload, .iconst 1, .iadd, .iastore, .return_]
def pX8_comes : List Nat := [0, 1, 4, 7, 8, 10, 11, 12, 14, 15, 17, 19, 20, 23, 24, 25, 28, 29, 30, 33, 35, 37, 38, 39, 41, 44, 47, 50, 53, 55, 56, 59, 60, 61, 64, 65, 68, 70, 72, 73, 74, 76, 79, 80, 81, 84, 86, 88, 89, 90, 91, 92, 93, 94, 95, 96, 97, 100, 102, 104, 105, 106, 107, 108, 109, 110, 113, 115, 117, 118, 119, 120, 121, 122, 123, 126, 127, 130, 133, 134, 135, 138, 140, 142, 143, 144, 147, 148, 149, 152, 154, 156, 157, 158, 161, 162, 163, 166, 169, 170, 173, 174, 175, 176, 177, 178, 179, 181, 183, 185, 186, 189, 190, 191, 194, 195, 198, 200, 202, 203, 204, 207, 209, 211, 212, 213, 214, 215, 216, 217, 220, 222, 224, 225, 226, 229, 231, 233, 234, 235, 236, 237, 238, 239, 242, 244, 246, 247, 248, 251, 253, 255, 256, 257, 258, 259, 260, 263, 266, 267, 268, 271, 272, 273, 275, 278, 279, 280, 283, 284, 285, 288, 289, 290, 292, 294, 296, 299, 300, 303, 305, 307, 308, 309, 312, 314, 316, 317, 318, 319, 320, 321, 322, 325, 327, 329, 330, 331, 334, 336, 338, 339, 340, 341, 342, 343, 344, 347, 349, 351, 352, 353, 356, 358, 360, 361, 362, 363, 364, 365, 368, 371, 372, 375, 377, 379, 380, 381, 382, 383, 386, 388, 390, 391, 392, 393, 394, 397, 399, 401, 402, 404, 405, 406, 409, 410, 411, 412, 413, 414, 415]
abbrev nX8_comes : Nat := 102
def kX8_adds : List Instr := [.iconst 0, .istore 6, .iload 6, .aload 0, .getfield 6062, .iload 5, .iaload, .if_icmp .ge 57, .aload 0, .getfield 6111, .ifCond .ne 57, .iconst 100, .iload 5, .imul, .iload 6, .iadd, .istore 7, .aload 0, .iload 4, .aload 0, .getfield 6052, .iload 7, .iaload, .invokevirtual 973106, .istore 8, .aload 0, .getfield 6111, .ifCond .ne 44, .aload 0, .iload 2, .i2l, .iload 3, .i2l, .aload 0, .getfield 6032, .iload 7, .iaload, .i2l, .aload 0, .getfield 6042, .iload 7, .iaload, .i2l, .invokevirtual 995006, .aload 0, .getfield 6111, .ifCond .ne 55, .aload 0, .iload 1, .aload 0, .getfield 6160, .aload 0, .getfield 6170, .iload 8, .invokevirtual 1025006, .iinc 6 1, .goto 2, .return_]
def pX8_adds : List Nat := [0, 1, 3, 5, 6, 9, 11, 12, 15, 16, 19, 22, 24, 26, 27, 29, 30, 32, 33, 35, 36, 39, 41, 42, 45, 47, 48, 51, 54, 55, 56, 57, 58, 59, 60, 63, 65, 66, 67, 68, 71, 73, 74, 75, 78, 79, 82, 85, 86, 87, 88, 91, 92, 95, 97, 100, 103, 106]
abbrev nX8_adds : Nat := 103
def kX8_made : List Instr := [.aload 0, .getfield 6062, .iload 3, .iconst 0, .iastore, .iconst 0, .istore 4, .iload 4, .aload 0, .getfield 6062, .iload 1, .iaload, .if_icmp .ge 46, .aload 0, .getfield 6111, .ifCond .ne 46, .aload 0, .iload 3, .aload 0, .getfield 6032, .iconst 100, .iload 1, .imul, .iload 4, .iadd, .iaload, .aload 0, .getfield 6042, .iconst 100, .iload 1, .imul, .iload 4, .iadd, .iaload, .aload 0, .getfield 6052, .iconst 100, .iload 1, .imul, .iload 4, .iadd, .iaload, .iload 2, .invokevirtual 1036006, .iinc 4 1, .goto 7, .return_]
def pX8_made : List Nat := [0, 1, 4, 5, 6, 7, 8, 10, 12, 13, 16, 17, 18, 21, 22, 25, 28, 29, 30, 31, 34, 36, 37, 38, 40, 41, 42, 43, 46, 48, 49, 50, 52, 53, 54, 55, 58, 60, 61, 62, 64, 65, 66, 67, 70, 73, 76]
abbrev nX8_made : Nat := 104
def kX8_isSame : List Instr := [.aload 0, .getfield 6062, .iload 1, .iaload, .aload 0, .getfield 6062, .iload 2, .iaload, .if_icmp .eq 11, .iconst 0, .ireturn, .iconst 0, .istore 3, .iload 3, .aload 0, .getfield 6062, .iload 1, .iaload, .if_icmp .ge 74, .aload 0, .getfield 6032, .iconst 100, .iload 1, .imul, .iload 3, .iadd, .iaload, .aload 0, .getfield 6032, .iconst 100, .iload 2, .imul, .iload 3, .iadd, .iaload, .if_icmp .ne 70, .aload 0, .getfield 6042, .iconst 100, .iload 1, .imul, .iload 3, .iadd, .iaload, .aload 0, .getfield 6042, .iconst 100, .iload 2, .imul, .iload 3, .iadd, .iaload, .if_icmp .ne 70, .aload 0, .getfield 6052, .iconst 100, .iload 1, .imul, .iload 3, .iadd, .iaload, .aload 0, .getfield 6052, .iconst 100, .iload 2, .imul, .iload 3, .iadd, .iaload, .if_icmp .eq 72, .iconst 0, .ireturn, .iinc 3 1, .goto 13, .iconst 1, .ireturn]
def pX8_isSame : List Nat := [0, 1, 4, 5, 6, 7, 10, 11, 12, 15, 16, 17, 18, 19, 20, 21, 24, 25, 26, 29, 30, 33, 35, 36, 37, 38, 39, 40, 41, 44, 46, 47, 48, 49, 50, 51, 54, 55, 58, 60, 61, 62, 63, 64, 65, 66, 69, 71, 72, 73, 74, 75, 76, 79, 80, 83, 85, 86, 87, 88, 89, 90, 91, 94, 96, 97, 98, 99, 100, 101, 104, 105, 106, 109, 112, 113]
abbrev nX8_isSame : Nat := 105
def kX8_sorted : List Instr := [.iconst 1, .istore 2, .iload 2, .aload 0, .getfield 6062, .iload 1, .iaload, .if_icmp .ge 109, .iload 2, .istore 3, .iload 3, .ifCond .le 107, .aload 0, .aload 0, .getfield 6052, .iconst 100, .iload 1, .imul, .iload 3, .iadd, .iconst 1, .isub, .iaload, .aload 0, .getfield 6052, .iconst 100, .iload 1, .imul, .iload 3, .iadd, .iaload, .invokevirtual 943106, .ifCond .ge 107, .iconst 100, .iload 1, .imul, .iload 3, .iadd, .istore 4, .aload 0, .getfield 6032, .iload 4, .iaload, .istore 5, .aload 0, .getfield 6042, .iload 4, .iaload, .istore 6, .aload 0, .getfield 6052, .iload 4, .iaload, .istore 7, .aload 0, .getfield 6032, .iload 4, .aload 0, .getfield 6032, .iload 4, .iconst 1, .isub, .iaload, .iastore, .aload 0, .getfield 6042, .iload 4, .aload 0, .getfield 6042, .iload 4, .iconst 1, .isub, .iaload, .iastore, .aload 0, .getfield 6052, .iload 4, .aload 0, .getfield 6052, .iload 4, .iconst 1, .isub, .iaload, .iastore, .aload 0, .getfield 6032, .iload 4, .iconst 1, .isub, .iload 5, .iastore, .aload 0, .getfield 6042, .iload 4, .iconst 1, .isub, .iload 6, .iastore, .aload 0, .getfield 6052, .iload 4, .iconst 1, .isub, .iload 7, .iastore, .iinc 3 (-1), .goto 10, .iinc 2 1, .goto 2, .return_]
def pX8_sorted : List Nat := [0, 1, 2, 3, 4, 7, 8, 9, 12, 13, 14, 15, 18, 19, 20, 23, 25, 26, 27, 28, 29, 30, 31, 32, 33, 36, 38, 39, 40, 41, 42, 43, 46, 49, 51, 52, 53, 54, 55, 57, 58, 61, 63, 64, 66, 67, 70, 72, 73, 75, 76, 79, 81, 82, 84, 85, 88, 90, 91, 94, 96, 97, 98, 99, 100, 101, 104, 106, 107, 110, 112, 113, 114, 115, 116, 117, 120, 122, 123, 126, 128, 129, 130, 131, 132, 133, 136, 138, 139, 140, 142, 143, 144, 147, 149, 150, 151, 153, 154, 155, 158, 160, 161, 162, 164, 165, 168, 171, 174, 177]
abbrev nX8_sorted : Nat := 106
def kX8_order : List Instr := [.iload 1, .ifCond .lt 5, .iload 1, .iconst 2, .if_icmp .le 7, .iconst (-2), .ireturn, .aload 0, .getfield 6020, .istore 2, .aload 0, .iload 1, .putfield 6020, .iconst 0, .istore 3, .iload 3, .iconst 40, .aload 0, .getfield 6070, .iadd, .if_icmp .ge 26, .aload 0, .iload 3, .invokevirtual 1062006, .iinc 3 1, .goto 15, .aload 0, .iconst 0, .putfield 6091, .iload 2, .ireturn]
def pX8_order : List Nat := [0, 1, 4, 5, 6, 9, 11, 12, 13, 16, 17, 18, 19, 22, 23, 24, 25, 27, 28, 31, 32, 35, 36, 37, 40, 43, 46, 47, 48, 51, 52]
abbrev nX8_order : Nat := 107
def kX8_isPlace : List Instr := [.iload 0, .ifCond .lt 7, .iload 0, .iconst 40, .if_icmp .ge 7, .iconst 1, .goto 8, .iconst 0, .ireturn]
def pX8_isPlace : List Nat := [0, 1, 4, 5, 7, 10, 11, 14, 15]
abbrev nX8_isPlace : Nat := 108
def kX8_term : List Instr := [.iload 1, .invokestatic 1081200, .ifCond .ne 5, .iconst (-1), .ireturn, .iload 2, .iconst (-1000000000), .if_icmp .lt 21, .iload 2, .iconst 1000000000, .if_icmp .gt 21, .iload 3, .iconst (-1000000000), .if_icmp .lt 21, .iload 3, .iconst 1000000000, .if_icmp .gt 21, .iload 3, .ifCond .eq 21, .iconst 1, .goto 22, .iconst 0, .istore 5, .iconst 0, .istore 6, .iconst 0, .istore 7, .iload 7, .iconst 4, .if_icmp .ge 65, .iload 4, .iconst 8, .iload 7, .imul, .iushr, .iconst 255, .iand, .istore 8, .iload 5, .ifCond .eq 51, .iload 8, .iload 7, .aload 0, .getfield 6000, .if_icmp .ge 47, .iconst 30, .goto 48, .iconst 0, .if_icmp .gt 51, .iconst 1, .goto 52, .iconst 0, .istore 5, .iload 6, .iload 8, .iconst 31, .iand, .iconst 5, .iload 7, .imul, .ishl, .ior, .istore 6, .iinc 7 1, .goto 27, .iload 5, .ifCond .ne 69, .iconst (-2), .ireturn, .iload 2, .ifCond .ne 76, .aload 0, .getfield 6062, .iload 1, .iaload, .ireturn, .aload 0, .iconst 0, .putfield 6111, .aload 0, .iload 1, .iconst 150, .invokevirtual 1003006, .aload 0, .iload 3, .ifCond .ge 90, .iload 2, .ineg, .i2l, .goto 92, .iload 2, .i2l, .iload 3, .ifCond .ge 98, .iload 3, .ineg, .i2l, .goto 100, .iload 3, .i2l, .invokevirtual 983006, .aload 0, .iconst 150, .aload 0, .getfield 6160, .aload 0, .getfield 6170, .iload 6, .invokevirtual 1025006, .aload 0, .iconst 150, .iload 1, .invokevirtual 1103106, .ireturn]
def pX8_term : List Nat := [0, 1, 4, 7, 8, 9, 10, 12, 15, 16, 18, 21, 22, 24, 27, 28, 30, 33, 34, 37, 38, 41, 42, 44, 45, 47, 48, 50, 52, 53, 56, 58, 60, 62, 63, 64, 67, 68, 70, 72, 75, 77, 79, 80, 83, 86, 88, 91, 92, 95, 96, 99, 100, 102, 104, 106, 108, 109, 110, 112, 113, 114, 115, 117, 120, 123, 125, 128, 130, 131, 132, 135, 136, 139, 140, 141, 142, 143, 144, 147, 148, 149, 152, 155, 156, 157, 160, 161, 162, 163, 166, 167, 168, 169, 172, 173, 174, 175, 178, 179, 180, 183, 184, 187, 188, 191, 192, 195, 197, 200, 201, 204, 205, 208]
abbrev nX8_term : Nat := 109
def kX8_taken : List Instr := [.aload 0, .getfield 6111, .ifCond .eq 5, .iconst (-7), .ireturn, .aload 0, .iload 1, .iload 2, .invokevirtual 1003006, .aload 0, .getfield 6062, .iload 2, .iaload, .ireturn]
def pX8_taken : List Nat := [0, 1, 4, 7, 9, 10, 11, 12, 13, 16, 17, 20, 21, 22]
abbrev nX8_taken : Nat := 110
def kX8_zero : List Instr := [.iload 1, .invokestatic 1081200, .ifCond .ne 5, .iconst (-1), .ireturn, .aload 0, .getfield 6062, .iload 1, .iaload, .istore 2, .aload 0, .getfield 6062, .iload 1, .iconst 0, .iastore, .iload 2, .ireturn]
def pX8_zero : List Nat := [0, 1, 4, 7, 8, 9, 10, 13, 14, 15, 16, 17, 20, 21, 22, 23, 24]
abbrev nX8_zero : Nat := 111
def kX8_size : List Instr := [.iload 1, .invokestatic 1081200, .ifCond .eq 8, .aload 0, .getfield 6062, .iload 1, .iaload, .goto 9, .iconst (-1), .ireturn]
def pX8_size : List Nat := [0, 1, 4, 7, 8, 11, 12, 13, 16, 17]
abbrev nX8_size : Nat := 112
def kX8_told : List Instr := [.iload 1, .invokestatic 1081200, .ifCond .eq 11, .iload 2, .ifCond .lt 11, .iload 2, .aload 0, .getfield 6062, .iload 1, .iaload, .if_icmp .lt 13, .iconst (-1), .ireturn, .iconst 100, .iload 1, .imul, .iload 2, .iadd, .istore 4, .iconst 0, .istore 5, .iconst 0, .istore 6, .iload 6, .iconst 4, .if_icmp .ge 41, .iload 5, .aload 0, .getfield 6052, .iload 4, .iaload, .iload 6, .invokestatic 922100, .iconst 8, .iload 6, .imul, .ishl, .ior, .istore 5, .iinc 6 1, .goto 23, .iload 3, .ifCond .ne 48, .aload 0, .getfield 6032, .iload 4, .iaload, .goto 62, .iload 3, .iconst 1, .if_icmp .ne 56, .aload 0, .getfield 6042, .iload 4, .iaload, .goto 62, .iload 3, .iconst 2, .if_icmp .ne 61, .iload 5, .goto 62, .iconst (-2), .ireturn]
def pX8_told : List Nat := [0, 1, 4, 7, 8, 11, 12, 13, 16, 17, 18, 21, 22, 23, 25, 26, 27, 28, 29, 31, 32, 34, 35, 37, 39, 40, 43, 45, 46, 49, 51, 52, 54, 57, 59, 61, 62, 63, 64, 66, 69, 72, 73, 76, 77, 80, 82, 83, 86, 87, 88, 91, 92, 95, 97, 98, 101, 102, 103, 106, 108, 111, 113]
abbrev nX8_told : Nat := 113
def kX8_plus : List Instr := [.iload 1, .invokestatic 1081200, .ifCond .eq 9, .iload 2, .invokestatic 1081200, .ifCond .eq 9, .iload 3, .invokestatic 1081200, .ifCond .ne 11, .iconst (-1), .ireturn, .aload 0, .iconst 0, .putfield 6111, .aload 0, .iload 1, .iconst 150, .invokevirtual 1003006, .aload 0, .iconst 150, .iconst 1, .iconst 1, .iconst 0, .iload 2, .invokevirtual 1036006, .aload 0, .iconst 150, .iload 3, .invokevirtual 1103106, .ireturn]
def pX8_plus : List Nat := [0, 1, 4, 7, 8, 11, 14, 15, 18, 21, 22, 23, 24, 25, 28, 29, 30, 33, 36, 37, 40, 41, 42, 43, 44, 47, 48, 51, 52, 55]
abbrev nX8_plus : Nat := 114
def kX8_times : List Instr := [.iload 1, .invokestatic 1081200, .ifCond .eq 9, .iload 2, .invokestatic 1081200, .ifCond .eq 9, .iload 3, .invokestatic 1081200, .ifCond .ne 11, .iconst (-1), .ireturn, .aload 0, .iconst 0, .putfield 6111, .aload 0, .iload 1, .iload 2, .iconst 150, .invokevirtual 1044006, .aload 0, .iconst 150, .iload 3, .invokevirtual 1103106, .ireturn]
def pX8_times : List Nat := [0, 1, 4, 7, 8, 11, 14, 15, 18, 21, 22, 23, 24, 25, 28, 29, 30, 31, 34, 37, 38, 41, 42, 45]
abbrev nX8_times : Nat := 115
def kX8_same : List Instr := [.iload 1, .invokestatic 1081200, .ifCond .eq 6, .iload 2, .invokestatic 1081200, .ifCond .ne 8, .iconst (-1), .goto 16, .aload 0, .iload 1, .iload 2, .invokevirtual 1053206, .ifCond .eq 15, .iconst 1, .goto 16, .iconst 0, .ireturn]
def pX8_same : List Nat := [0, 1, 4, 7, 8, 11, 14, 15, 18, 19, 20, 21, 24, 27, 28, 31, 32]
abbrev nX8_same : Nat := 116
def kX8_vanishes : List Instr := [.iload 1, .invokestatic 1081200, .ifCond .ne 5, .iconst (-1), .ireturn, .aload 0, .getfield 6182, .iconst 0, .iload 2, .iastore, .aload 0, .getfield 6182, .iconst 1, .iload 3, .iastore, .aload 0, .getfield 6182, .iconst 2, .iload 4, .iastore, .aload 0, .getfield 6182, .iconst 3, .iload 5, .iastore, .iconst 0, .istore 6, .iload 6, .aload 0, .getfield 6000, .if_icmp .ge 47, .aload 0, .getfield 6182, .iload 6, .iaload, .iconst (-1000), .if_icmp .lt 43, .aload 0, .getfield 6182, .iload 6, .iaload, .iconst 1000, .if_icmp .le 45, .iconst (-2), .ireturn, .iinc 6 1, .goto 27, .aload 0, .iconst 0, .putfield 6111, .iconst 0, .istore 6, .iconst 1, .istore 7, .iconst 0, .istore 8, .iload 8, .aload 0, .getfield 6062, .iload 1, .iaload, .if_icmp .ge 158, .aload 0, .getfield 6032, .iconst 100, .iload 1, .imul, .iload 8, .iadd, .iaload, .istore 9, .aload 0, .getfield 6042, .iconst 100, .iload 1, .imul, .iload 8, .iadd, .iaload, .istore 10, .iconst 0, .istore 11, .iload 11, .aload 0, .getfield 6000, .if_icmp .ge 127, .iconst 0, .istore 12, .iload 12, .aload 0, .getfield 6052, .iconst 100, .iload 1, .imul, .iload 8, .iadd, .iaload, .iload 11, .invokestatic 922100, .if_icmp .ge 125, .aload 0, .iload 9, .i2l, .iload 10, .i2l, .aload 0, .getfield 6182, .iload 11, .iaload, .i2l, .jsr_w 1, .invokevirtual 995006, .aload 0, .getfield 6111, .ifCond .eq 117, .iconst (-7), .ireturn, .aload 0, .getfield 6160, .istore 9, .aload 0, .getfield 6170, .istore 10, .iinc 12 1, .goto 88, .iinc 11 1, .goto 82, .aload 0, .iload 6, .i2l, .iload 10, .i2l, .lmul, .iload 9, .i2l, .iload 7, .i2l, .lmul, .ladd, .iload 7, .i2l, .iload 10, .i2l, .lmul, .invokevirtual 983006, .aload 0, .getfield 6111, .ifCond .eq 150, .iconst (-7), .ireturn, .aload 0, .getfield 6160, .istore 6, .aload 0, .getfield 6170, .istore 7, .iinc 8 1, .goto 56, .iload 6, .ifCond .ne 162, .iconst 1, .goto 163, .iconst 0, .ireturn]
def pX8_vanishes : List Nat := [0, 1, 4, 7, 8, 9, 10, 13, 14, 15, 16, 17, 20, 21, 22, 23, 24, 27, 28, 30, 31, 32, 35, 36, 38, 39, 40, 42, 44, 45, 48, 51, 52, 55, 57, 58, 61, 64, 65, 68, 70, 71, 74, 77, 79, 80, 83, 86, 87, 88, 91, 92, 94, 95, 97, 98, 100, 102, 103, 106, 107, 108, 111, 112, 115, 117, 118, 119, 121, 122, 123, 125, 126, 129, 131, 132, 133, 135, 136, 137, 139, 140, 142, 144, 145, 148, 151, 152, 154, 156, 157, 160, 162, 163, 164, 166, 167, 168, 170, 173, 176, 177, 179, 180, 182, 183, 184, 187, 189, 190, 191, 192, 195, 196, 199, 202, 204, 205, 206, 209, 211, 212, 215, 217, 220, 223, 226, 229, 230, 232, 233, 235, 236, 237, 239, 240, 242, 243, 244, 245, 247, 248, 250, 251, 252, 255, 256, 259, 262, 264, 265, 266, 269, 271, 272, 275, 277, 280, 283, 285, 288, 289, 292, 293]
abbrev nX8_vanishes : Nat := 117
def kX8_divided : List Instr := [.aload 0, .getfield 6062, .iload 2, .iconst 0, .iastore, .iconst 0, .istore 3, .iload 3, .iconst 25, .if_icmp .ge 19, .aload 0, .getfield 6062, .iconst 100, .iload 3, .iadd, .iconst 0, .iastore, .iinc 3 1, .goto 7, .aload 0, .getfield 6062, .iload 1, .iaload, .ifCond .le 225, .aload 0, .getfield 6111, .ifCond .ne 225, .aload 0, .getfield 6130, .aload 0, .getfield 6140, .if_icmp .ne 36, .aload 0, .iconst 1, .putfield 6121, .return_, .aload 0, .dup, .getfield 6130, .iconst 1, .iadd, .putfield 6130, .aload 0, .iload 1, .invokevirtual 1012106, .istore 3, .iconst 0, .istore 4, .iload 4, .aload 0, .getfield 6200, .if_icmp .ge 68, .iload 4, .aload 0, .getfield 6210, .if_icmp .eq 66, .aload 0, .aload 0, .aload 0, .getfield 6190, .iload 4, .iadd, .invokevirtual 1012106, .iload 3, .invokevirtual 953206, .ifCond .ne 68, .iinc 4 1, .goto 48, .iconst 100, .iload 1, .imul, .istore 5, .iload 4, .aload 0, .getfield 6200, .if_icmp .ne 149, .aload 0, .iload 2, .aload 0, .getfield 6032, .iload 5, .iaload, .aload 0, .getfield 6042, .iload 5, .iaload, .iload 3, .invokevirtual 1025006, .aload 0, .getfield 6062, .iload 1, .dup2, .iaload, .iconst 1, .isub, .iastore, .iconst 0, .istore 6, .iload 6, .aload 0, .getfield 6062, .iload 1, .iaload, .if_icmp .ge 148, .aload 0, .getfield 6032, .iload 5, .iload 6, .iadd, .aload 0, .getfield 6032, .iload 5, .iload 6, .iadd, .iconst 1, .iadd, .iaload, .iastore, .aload 0, .getfield 6042, .iload 5, .iload 6, .iadd, .aload 0, .getfield 6042, .iload 5, .iload 6, .iadd, .iconst 1, .iadd, .iaload, .iastore, .aload 0, .getfield 6052, .iload 5, .iload 6, .iadd, .aload 0, .getfield 6052, .iload 5, .iload 6, .iadd, .iconst 1, .iadd, .iaload, .iastore, .iinc 6 1, .goto 98, .goto 224, .aload 0, .getfield 6190, .iload 4, .iadd, .istore 6, .aload 0, .getfield 6032, .iconst 100, .iload 6, .imul, .iaload, .istore 7, .aload 0, .getfield 6042, .iconst 100, .iload 6, .imul, .iaload, .istore 8, .aload 0, .aload 0, .getfield 6032, .iload 5, .iaload, .i2l, .aload 0, .getfield 6042, .iload 5, .iaload, .i2l, .iload 7, .ifCond .ge 185, .iload 8, .ineg, .i2l, .goto 187, .iload 8, .i2l, .iload 7, .ifCond .ge 193, .iload 7, .ineg, .i2l, .goto 195, .iload 7, .i2l, .invokevirtual 995006, .aload 0, .getfield 6160, .istore 9, .aload 0, .getfield 6170, .istore 10, .iload 3, .aload 0, .iload 6, .invokevirtual 1012106, .isub, .istore 11, .aload 0, .iload 1, .iload 9, .ineg, .iload 10, .iload 11, .iload 6, .invokevirtual 1036006, .aload 0, .iconst 100, .iload 4, .iadd, .iload 9, .iload 10, .iload 11, .invokevirtual 1025006, .goto 19, .return_]
def pX8_divided : List Nat := [0, 1, 4, 5, 6, 7, 8, 9, 10, 12, 15, 16, 19, 21, 22, 23, 24, 25, 28, 31, 32, 35, 36, 37, 40, 41, 44, 47, 48, 51, 52, 55, 58, 59, 60, 63, 64, 65, 66, 69, 70, 71, 74, 75, 76, 79, 80, 81, 83, 85, 86, 89, 92, 94, 95, 98, 101, 102, 103, 104, 107, 109, 110, 113, 114, 117, 120, 123, 126, 128, 129, 130, 132, 134, 135, 138, 141, 142, 143, 144, 147, 149, 150, 151, 154, 156, 157, 158, 161, 162, 165, 166, 167, 168, 169, 170, 171, 172, 174, 176, 177, 180, 181, 182, 185, 186, 189, 191, 193, 194, 195, 198, 200, 202, 203, 204, 205, 206, 207, 208, 211, 213, 215, 216, 217, 220, 222, 224, 225, 226, 227, 228, 229, 230, 233, 235, 237, 238, 239, 242, 244, 246, 247, 248, 249, 250, 251, 254, 257, 260, 261, 264, 266, 267, 269, 270, 273, 275, 277, 278, 279, 281, 282, 285, 287, 289, 290, 291, 293, 294, 295, 298, 300, 301, 302, 303, 306, 308, 309, 310, 312, 315, 317, 318, 319, 322, 324, 325, 327, 330, 332, 333, 334, 337, 339, 340, 343, 344, 347, 349, 350, 353, 355, 356, 357, 359, 362, 363, 365, 366, 367, 369, 370, 372, 374, 376, 379, 380, 382, 384, 385, 387, 389, 391, 394, 397]
abbrev nX8_divided : Nat := 118
def kX8_cofactor : List Instr := [.iconst 170, .iconst 8, .iload 1, .imul, .iadd, .iload 2, .iadd, .ireturn]
def pX8_cofactor : List Nat := [0, 3, 5, 6, 7, 8, 9, 10]
abbrev nX8_cofactor : Nat := 119
def kX8_lessShares : List Instr := [.iconst 0, .istore 4, .iload 4, .aload 0, .getfield 6200, .if_icmp .ge 55, .aload 0, .getfield 6111, .ifCond .ne 55, .iconst 0, .istore 5, .iload 5, .aload 0, .getfield 6062, .iconst 100, .iload 4, .iadd, .iaload, .if_icmp .ge 53, .aload 0, .getfield 6111, .ifCond .ne 53, .iconst 100, .iconst 100, .iload 4, .iadd, .imul, .iload 5, .iadd, .istore 6, .aload 0, .iload 1, .iload 3, .aload 0, .getfield 6032, .iload 6, .iaload, .imul, .aload 0, .getfield 6042, .iload 6, .iaload, .aload 0, .getfield 6052, .iload 6, .iaload, .aload 0, .iload 4, .iload 2, .invokevirtual 1193106, .invokevirtual 1036006, .iinc 5 1, .goto 11, .iinc 4 1, .goto 2, .return_]
def pX8_lessShares : List Nat := [0, 1, 3, 5, 6, 9, 12, 13, 16, 19, 20, 22, 24, 25, 28, 30, 32, 33, 34, 37, 38, 41, 44, 46, 48, 50, 51, 52, 54, 55, 57, 58, 59, 60, 61, 64, 66, 67, 68, 69, 72, 74, 75, 76, 79, 81, 82, 83, 85, 86, 89, 92, 95, 98, 101, 104]
abbrev nX8_lessShares : Nat := 120
def kX8_scaled : List Instr := [.iconst 0, .istore 4, .iload 4, .aload 0, .getfield 6062, .iload 1, .iaload, .if_icmp .ge 57, .aload 0, .getfield 6111, .ifCond .ne 57, .aload 0, .aload 0, .getfield 6032, .iconst 100, .iload 1, .imul, .iload 4, .iadd, .iaload, .i2l, .aload 0, .getfield 6042, .iconst 100, .iload 1, .imul, .iload 4, .iadd, .iaload, .i2l, .iload 2, .i2l, .iload 3, .i2l, .invokevirtual 995006, .aload 0, .getfield 6032, .iconst 100, .iload 1, .imul, .iload 4, .iadd, .aload 0, .getfield 6160, .iastore, .aload 0, .getfield 6042, .iconst 100, .iload 1, .imul, .iload 4, .iadd, .aload 0, .getfield 6170, .iastore, .iinc 4 1, .goto 2, .return_]
def pX8_scaled : List Nat := [0, 1, 3, 5, 6, 9, 10, 11, 14, 15, 18, 21, 22, 23, 26, 28, 29, 30, 32, 33, 34, 35, 36, 39, 41, 42, 43, 45, 46, 47, 48, 49, 50, 51, 52, 55, 56, 59, 61, 62, 63, 65, 66, 67, 70, 71, 72, 75, 77, 78, 79, 81, 82, 83, 86, 87, 90, 93]
abbrev nX8_scaled : Nat := 121
def kX8_monic : List Instr := [.aload 0, .getfield 6190, .iload 1, .iadd, .istore 2, .aload 0, .getfield 6032, .iconst 100, .iload 2, .imul, .iaload, .istore 3, .aload 0, .getfield 6042, .iconst 100, .iload 2, .imul, .iaload, .istore 4, .iload 3, .ifCond .ge 24, .iload 4, .ineg, .goto 25, .iload 4, .istore 5, .iload 3, .ifCond .ge 31, .iload 3, .ineg, .goto 32, .iload 3, .istore 6, .aload 0, .iload 2, .iload 5, .iload 6, .invokevirtual 1214006, .iconst 0, .istore 7, .iload 7, .aload 0, .getfield 6070, .if_icmp .ge 60, .aload 0, .getfield 6221, .ifCond .eq 60, .aload 0, .getfield 6111, .ifCond .ne 60, .aload 0, .aload 0, .iload 1, .iload 7, .invokevirtual 1193106, .iload 5, .iload 6, .invokevirtual 1214006, .iinc 7 1, .goto 40, .return_]
def pX8_monic : List Nat := [0, 1, 4, 5, 6, 7, 8, 11, 13, 14, 15, 16, 17, 18, 21, 23, 24, 25, 26, 28, 29, 32, 34, 35, 38, 40, 42, 43, 46, 47, 48, 51, 52, 54, 55, 56, 58, 60, 63, 64, 66, 68, 69, 72, 75, 76, 79, 82, 83, 86, 89, 90, 91, 92, 94, 97, 99, 101, 104, 107, 110]
abbrev nX8_monic : Nat := 122
def kX8_isWaiting : List Instr := [.aload 0, .getfield 6232, .iload 1, .iload 2, .if_icmp .ge 11, .iconst 25, .iload 1, .imul, .iload 2, .iadd, .goto 16, .iconst 25, .iload 2, .imul, .iload 1, .iadd, .baload, .ireturn]
def pX8_isWaiting : List Nat := [0, 1, 4, 5, 6, 9, 11, 12, 13, 14, 15, 18, 20, 21, 22, 23, 24, 25]
abbrev nX8_isWaiting : Nat := 123
def kX8_addPairs : List Instr := [.iconst 0, .istore 2, .iload 2, .iload 1, .if_icmp .ge 16, .aload 0, .getfield 6232, .iconst 25, .iload 2, .imul, .iload 1, .iadd, .iconst 1, .bastore, .iinc 2 1, .goto 2, .return_]
def pX8_addPairs : List Nat := [0, 1, 2, 3, 4, 7, 8, 11, 13, 14, 15, 16, 17, 18, 19, 22, 25]
abbrev nX8_addPairs : Nat := 124
def kX8_isPassed : List Instr := [.aload 0, .aload 0, .getfield 6190, .iload 1, .iadd, .invokevirtual 1012106, .istore 4, .aload 0, .aload 0, .getfield 6190, .iload 2, .iadd, .invokevirtual 1012106, .istore 5, .iconst 1, .istore 6, .iconst 0, .istore 7, .iload 7, .aload 0, .getfield 6010, .if_icmp .ge 38, .iload 6, .ifCond .eq 34, .iload 4, .iload 7, .invokestatic 922100, .ifCond .eq 32, .iload 5, .iload 7, .invokestatic 922100, .ifCond .ne 34, .iconst 1, .goto 35, .iconst 0, .istore 6, .iinc 7 1, .goto 18, .iconst 0, .istore 7, .iload 7, .aload 0, .getfield 6200, .if_icmp .ge 78, .iload 6, .ifCond .ne 78, .iload 7, .iload 1, .if_icmp .eq 74, .iload 7, .iload 2, .if_icmp .eq 74, .aload 0, .aload 0, .aload 0, .getfield 6190, .iload 7, .iadd, .invokevirtual 1012106, .iload 3, .invokevirtual 953206, .ifCond .eq 74, .aload 0, .iload 7, .iload 1, .invokevirtual 1233206, .ifCond .ne 74, .aload 0, .iload 7, .iload 2, .invokevirtual 1233206, .ifCond .ne 74, .iconst 1, .goto 75, .iconst 0, .istore 6, .iinc 7 1, .goto 40, .iload 6, .ireturn]
def pX8_isPassed : List Nat := [0, 1, 2, 5, 6, 7, 10, 12, 13, 14, 17, 18, 19, 22, 24, 25, 27, 28, 30, 32, 33, 36, 39, 41, 44, 46, 48, 51, 54, 56, 58, 61, 64, 65, 68, 69, 71, 74, 77, 78, 80, 82, 83, 86, 89, 91, 94, 96, 97, 100, 102, 103, 106, 107, 108, 109, 112, 114, 115, 118, 119, 122, 125, 126, 128, 129, 132, 135, 136, 138, 139, 142, 145, 146, 149, 150, 152, 155, 158, 160]
abbrev nX8_isPassed : Nat := 125
def kX8_make : List Instr := [.aload 0, .iload 1, .putfield 6190, .aload 0, .iconst 0, .putfield 6200, .aload 0, .iconst (-1), .putfield 6210, .aload 0, .iload 3, .putfield 6221, .aload 0, .iconst 0, .putfield 6240, .aload 0, .iconst 0, .putfield 6250, .iconst 0, .istore 4, .iload 4, .iconst 625, .if_icmp .ge 30, .aload 0, .getfield 6232, .iload 4, .iconst 0, .bastore, .iinc 4 1, .goto 20, .iconst 0, .istore 4, .iload 4, .iload 2, .if_icmp .ge 106, .aload 0, .getfield 6111, .ifCond .ne 106, .aload 0, .getfield 6062, .iconst 40, .iload 4, .iadd, .iaload, .ifCond .ne 46, .goto 104, .aload 0, .iconst 40, .iload 4, .iadd, .iload 1, .aload 0, .getfield 6200, .iadd, .invokevirtual 1003006, .iconst 0, .istore 5, .iload 5, .aload 0, .getfield 6070, .if_icmp .ge 87, .iload 3, .ifCond .eq 87, .aload 0, .getfield 6062, .aload 0, .aload 0, .getfield 6200, .iload 5, .invokevirtual 1193106, .iconst 0, .iastore, .iload 5, .iload 4, .if_icmp .ne 85, .aload 0, .aload 0, .aload 0, .getfield 6200, .iload 5, .invokevirtual 1193106, .iconst 1, .iconst 1, .iconst 0, .invokevirtual 1025006, .iinc 5 1, .goto 57, .aload 0, .aload 0, .getfield 6200, .invokevirtual 1222006, .aload 0, .getfield 6111, .ifCond .ne 104, .aload 0, .aload 0, .getfield 6200, .invokevirtual 1242006, .aload 0, .dup, .getfield 6200, .iconst 1, .iadd, .putfield 6200, .iinc 4 1, .goto 32, .aload 0, .getfield 6111, .ifCond .ne 122, .aload 0, .getfield 6121, .ifCond .ne 122, .aload 0, .invokevirtual 1271206, .ifCond .eq 122, .aload 0, .dup, .getfield 6240, .iconst 0, .iadd, .putfield 6240, .goto 106, .aload 0, .aload 0, .getfield 6200, .putfield 6260, .aload 0, .getfield 6111, .ifCond .ne 134, .aload 0, .getfield 6121, .ifCond .ne 134, .aload 0, .invokevirtual 1281006, .iconst 0, .istore 4, .iload 4, .aload 0, .getfield 6200, .if_icmp .ge 151, .aload 0, .getfield 6111, .ifCond .ne 151, .aload 0, .getfield 6121, .ifCond .ne 151, .aload 0, .iload 4, .invokevirtual 1302006, .iinc 4 1, .goto 136, .return_]
def pX8_make : List Nat := [0, 1, 2, 5, 6, 7, 10, 11, 12, 15, 16, 17, 20, 21, 22, 25, 26, 27, 30, 31, 33, 35, 38, 41, 42, 45, 47, 48, 49, 52, 55, 56, 58, 60, 61, 64, 65, 68, 71, 72, 75, 77, 79, 80, 81, 84, 87, 88, 90, 92, 93, 94, 95, 98, 99, 102, 103, 105, 107, 108, 111, 114, 115, 118, 119, 122, 123, 124, 127, 129, 132, 133, 134, 136, 138, 141, 142, 143, 144, 147, 149, 152, 153, 154, 155, 158, 161, 164, 165, 166, 169, 172, 173, 176, 179, 180, 181, 184, 187, 188, 189, 192, 193, 194, 197, 200, 203, 204, 207, 210, 211, 214, 217, 218, 221, 224, 225, 226, 229, 230, 231, 234, 237, 238, 239, 242, 245, 246, 249, 252, 253, 256, 259, 260, 263, 264, 266, 268, 269, 272, 275, 276, 279, 282, 283, 286, 289, 290, 292, 295, 298, 301]
abbrev nX8_make : Nat := 126
def kX8_onePair : List Instr := [.iconst (-1), .istore 1, .iconst (-1), .istore 2, .iconst 0, .istore 3, .iconst 0, .istore 4, .iload 4, .aload 0, .getfield 6200, .if_icmp .ge 58, .iconst 0, .istore 5, .iload 5, .iload 4, .if_icmp .ge 56, .aload 0, .getfield 6232, .iconst 25, .iload 5, .imul, .iload 4, .iadd, .baload, .ifCond .eq 54, .aload 0, .aload 0, .aload 0, .getfield 6190, .iload 5, .iadd, .invokevirtual 1012106, .aload 0, .aload 0, .getfield 6190, .iload 4, .iadd, .invokevirtual 1012106, .invokevirtual 963106, .istore 6, .iload 1, .ifCond .lt 48, .aload 0, .iload 6, .iload 3, .invokevirtual 943106, .ifCond .ge 54, .iload 5, .istore 1, .iload 4, .istore 2, .iload 6, .istore 3, .iinc 5 1, .goto 14, .iinc 4 1, .goto 8, .iload 1, .ifCond .ge 62, .iconst 0, .ireturn, .aload 0, .getfield 6232, .iconst 25, .iload 1, .imul, .iload 2, .iadd, .iconst 0, .bastore, .aload 0, .dup, .getfield 6240, .iconst 1, .iadd, .putfield 6240, .aload 0, .iload 1, .iload 2, .iload 3, .invokevirtual 1254206, .ifCond .eq 91, .aload 0, .dup, .getfield 6250, .iconst 1, .iadd, .putfield 6250, .iconst 1, .ireturn, .iload 3, .aload 0, .aload 0, .getfield 6190, .iload 1, .iadd, .invokevirtual 1012106, .isub, .istore 4, .iload 3, .aload 0, .aload 0, .getfield 6190, .iload 2, .iadd, .invokevirtual 1012106, .isub, .istore 5, .iconst 151, .istore 6, .aload 0, .getfield 6062, .iload 6, .iconst 0, .iastore, .aload 0, .iload 6, .iconst 1, .iconst 1, .iload 4, .aload 0, .getfield 6190, .iload 1, .iadd, .invokevirtual 1036006, .aload 0, .iload 6, .iconst (-1), .iconst 1, .iload 5, .aload 0, .getfield 6190, .iload 2, .iadd, .invokevirtual 1036006, .iconst 0, .istore 7, .iload 7, .aload 0, .getfield 6070, .if_icmp .ge 181, .aload 0, .getfield 6221, .ifCond .eq 181, .aload 0, .getfield 6111, .ifCond .ne 181, .aload 0, .getfield 6062, .iconst 154, .iload 7, .iadd, .iconst 0, .iastore, .aload 0, .iconst 154, .iload 7, .iadd, .iconst 1, .iconst 1, .iload 4, .aload 0, .iload 1, .iload 7, .invokevirtual 1193106, .invokevirtual 1036006, .aload 0, .iconst 154, .iload 7, .iadd, .iconst (-1), .iconst 1, .iload 5, .aload 0, .iload 2, .iload 7, .invokevirtual 1193106, .invokevirtual 1036006, .iinc 7 1, .goto 138, .aload 0, .getfield 6111, .ifCond .eq 186, .iconst 1, .ireturn, .aload 0, .iload 6, .iconst 152, .invokevirtual 1183006, .aload 0, .getfield 6111, .ifCond .ne 201, .aload 0, .getfield 6121, .ifCond .ne 201, .aload 0, .getfield 6062, .iconst 152, .iaload, .ifCond .ne 203, .iconst 1, .ireturn, .aload 0, .getfield 6200, .iconst 24, .if_icmp .ne 212, .aload 0, .iconst 1, .putfield 6111, .iconst 1, .ireturn, .iconst 0, .istore 7, .iload 7, .aload 0, .getfield 6070, .if_icmp .ge 233, .aload 0, .getfield 6221, .ifCond .eq 233, .aload 0, .getfield 6111, .ifCond .ne 233, .aload 0, .iconst 154, .iload 7, .iadd, .iload 7, .iconst (-1), .invokevirtual 1204006, .iinc 7 1, .goto 214, .aload 0, .getfield 6111, .ifCond .eq 238, .iconst 1, .ireturn, .aload 0, .iconst 152, .aload 0, .getfield 6190, .aload 0, .getfield 6200, .iadd, .invokevirtual 1003006, .iconst 0, .istore 7, .iload 7, .aload 0, .getfield 6070, .if_icmp .ge 267, .aload 0, .getfield 6221, .ifCond .eq 267, .aload 0, .iconst 154, .iload 7, .iadd, .aload 0, .aload 0, .getfield 6200, .iload 7, .invokevirtual 1193106, .invokevirtual 1003006, .iinc 7 1, .goto 248, .aload 0, .aload 0, .getfield 6200, .invokevirtual 1222006, .aload 0, .getfield 6111, .ifCond .eq 276, .iconst 1, .ireturn, .aload 0, .aload 0, .getfield 6200, .invokevirtual 1242006, .aload 0, .dup, .getfield 6200, .iconst 1, .iadd, .putfield 6200, .iconst 1, .ireturn]
def pX8_onePair : List Nat := [0, 1, 2, 3, 4, 5, 6, 7, 9, 11, 12, 15, 18, 19, 21, 23, 25, 28, 29, 32, 34, 36, 37, 39, 40, 41, 44, 45, 46, 47, 50, 52, 53, 56, 57, 58, 61, 63, 64, 67, 70, 72, 73, 76, 77, 79, 80, 83, 86, 88, 89, 91, 92, 94, 95, 98, 101, 104, 107, 108, 111, 112, 113, 114, 117, 119, 120, 121, 122, 123, 124, 125, 126, 127, 130, 131, 132, 135, 136, 137, 138, 139, 142, 145, 146, 147, 150, 151, 152, 155, 156, 157, 158, 159, 160, 163, 164, 165, 168, 169, 171, 172, 173, 174, 177, 178, 179, 182, 183, 185, 188, 190, 191, 194, 196, 197, 198, 199, 201, 202, 203, 205, 206, 209, 210, 211, 214, 215, 217, 218, 219, 221, 222, 225, 226, 227, 230, 231, 233, 235, 236, 239, 242, 243, 246, 249, 250, 253, 256, 257, 260, 263, 265, 266, 267, 268, 269, 272, 274, 275, 276, 277, 279, 280, 281, 283, 286, 289, 290, 293, 295, 296, 297, 298, 300, 301, 302, 304, 307, 310, 313, 316, 317, 320, 323, 324, 325, 326, 328, 331, 334, 335, 338, 341, 342, 345, 348, 349, 352, 355, 356, 359, 360, 361, 362, 365, 367, 370, 371, 372, 375, 376, 377, 378, 380, 382, 383, 386, 389, 390, 393, 396, 397, 400, 403, 404, 407, 409, 410, 412, 413, 416, 419, 422, 423, 426, 429, 430, 431, 432, 435, 436, 439, 440, 443, 444, 447, 448, 450, 452, 453, 456, 459, 460, 463, 466, 467, 470, 472, 473, 474, 475, 478, 480, 483, 486, 489, 492, 493, 494, 497, 500, 501, 504, 507, 508, 509, 510, 511, 514, 517, 518, 519, 522, 523, 524, 527, 528]
abbrev nX8_onePair : Nat := 127
def kX8_clean : List Instr := [.iconst 0, .istore 1, .iload 1, .aload 0, .getfield 6200, .if_icmp .ge 61, .aload 0, .getfield 6272, .iload 1, .iconst 0, .bastore, .iconst 0, .istore 2, .iload 2, .aload 0, .getfield 6200, .if_icmp .ge 59, .aload 0, .aload 0, .getfield 6190, .iload 2, .iadd, .invokevirtual 1012106, .istore 3, .aload 0, .aload 0, .getfield 6190, .iload 1, .iadd, .invokevirtual 1012106, .istore 4, .aload 0, .getfield 6272, .iload 1, .aload 0, .getfield 6272, .iload 1, .baload, .ifCond .ne 53, .iload 2, .iload 1, .if_icmp .eq 55, .aload 0, .iload 3, .iload 4, .invokevirtual 953206, .ifCond .eq 55, .iload 3, .iload 4, .if_icmp .ne 53, .iload 2, .iload 1, .if_icmp .ge 55, .iconst 1, .goto 56, .iconst 0, .bastore, .iinc 2 1, .goto 13, .iinc 1 1, .goto 2, .iconst 0, .istore 1, .iconst 0, .istore 2, .iload 2, .aload 0, .getfield 6200, .if_icmp .ge 81, .aload 0, .getfield 6272, .iload 2, .baload, .ifCond .ne 79, .aload 0, .iload 2, .iload 1, .invokevirtual 1293006, .iinc 1 1, .iinc 2 1, .goto 65, .aload 0, .iload 1, .putfield 6200, .iconst 1, .istore 2, .iload 2, .aload 0, .getfield 6200, .if_icmp .ge 131, .iload 2, .istore 3, .iload 3, .ifCond .le 129, .aload 0, .aload 0, .aload 0, .getfield 6190, .iload 3, .iadd, .iconst 1, .isub, .invokevirtual 1012106, .aload 0, .aload 0, .getfield 6190, .iload 3, .iadd, .invokevirtual 1012106, .invokevirtual 943106, .ifCond .le 129, .aload 0, .iload 3, .iconst 24, .invokevirtual 1293006, .aload 0, .iload 3, .iconst 1, .isub, .iload 3, .invokevirtual 1293006, .aload 0, .iconst 24, .iload 3, .iconst 1, .isub, .invokevirtual 1293006, .iinc 3 (-1), .goto 92, .iinc 2 1, .goto 86, .return_]
def pX8_clean : List Nat := [0, 1, 2, 3, 4, 7, 10, 11, 14, 15, 16, 17, 18, 19, 20, 21, 24, 27, 28, 29, 32, 33, 34, 37, 38, 39, 40, 43, 44, 45, 48, 50, 51, 54, 55, 56, 59, 60, 61, 64, 65, 66, 69, 70, 71, 73, 76, 79, 80, 82, 85, 86, 87, 90, 91, 94, 95, 96, 99, 102, 105, 108, 109, 110, 111, 112, 113, 114, 117, 120, 121, 124, 125, 126, 129, 130, 131, 132, 135, 138, 141, 144, 145, 146, 149, 150, 151, 152, 153, 156, 159, 160, 161, 162, 165, 166, 167, 168, 171, 172, 173, 174, 175, 178, 179, 180, 183, 184, 185, 188, 191, 194, 195, 196, 198, 201, 202, 203, 204, 205, 206, 209, 210, 212, 213, 214, 215, 218, 221, 224, 227, 230]
abbrev nX8_clean : Nat := 128
def kX8_move : List Instr := [.iload 1, .iload 2, .if_icmp .ne 4, .return_, .aload 0, .aload 0, .getfield 6190, .iload 1, .iadd, .aload 0, .getfield 6190, .iload 2, .iadd, .invokevirtual 1003006, .iconst 0, .istore 3, .iload 3, .aload 0, .getfield 6070, .if_icmp .ge 35, .aload 0, .getfield 6221, .ifCond .eq 35, .aload 0, .aload 0, .iload 1, .iload 3, .invokevirtual 1193106, .aload 0, .iload 2, .iload 3, .invokevirtual 1193106, .invokevirtual 1003006, .iinc 3 1, .goto 16, .return_]
def pX8_move : List Nat := [0, 1, 2, 5, 6, 7, 8, 11, 12, 13, 14, 17, 18, 19, 22, 23, 24, 25, 26, 29, 32, 33, 36, 39, 40, 41, 42, 43, 46, 47, 48, 49, 52, 55, 58, 61]
abbrev nX8_move : Nat := 129
def kX8_reduce : List Instr := [.aload 0, .getfield 6190, .iload 1, .iadd, .istore 2, .iconst 151, .istore 3, .aload 0, .getfield 6032, .iconst 100, .iload 2, .imul, .iaload, .istore 4, .aload 0, .getfield 6042, .iconst 100, .iload 2, .imul, .iaload, .istore 5, .aload 0, .iload 2, .invokevirtual 1012106, .istore 6, .aload 0, .iload 2, .iload 3, .invokevirtual 1003006, .aload 0, .iload 3, .iload 4, .ineg, .iload 5, .iload 6, .invokevirtual 1025006, .aload 0, .iload 1, .putfield 6210, .aload 0, .iload 3, .iconst 152, .invokevirtual 1183006, .aload 0, .iconst (-1), .putfield 6210, .aload 0, .getfield 6111, .ifCond .ne 52, .aload 0, .getfield 6121, .ifCond .eq 53, .return_, .aload 0, .iconst 152, .iload 4, .iload 5, .iload 6, .invokevirtual 1025006, .aload 0, .iconst 152, .iload 2, .invokevirtual 1003006, .iconst 0, .istore 7, .iload 7, .aload 0, .getfield 6070, .if_icmp .ge 102, .aload 0, .getfield 6221, .ifCond .eq 102, .aload 0, .getfield 6111, .ifCond .ne 102, .aload 0, .aload 0, .iload 1, .iload 7, .invokevirtual 1193106, .iconst 154, .iload 7, .iadd, .invokevirtual 1003006, .aload 0, .iconst 154, .iload 7, .iadd, .iload 7, .iconst (-1), .invokevirtual 1204006, .aload 0, .iconst 154, .iload 7, .iadd, .aload 0, .iload 1, .iload 7, .invokevirtual 1193106, .invokevirtual 1003006, .iinc 7 1, .goto 65, .return_]
def pX8_reduce : List Nat := [0, 1, 4, 5, 6, 7, 10, 11, 12, 15, 17, 18, 19, 20, 22, 23, 26, 28, 29, 30, 31, 33, 34, 35, 38, 40, 41, 42, 43, 46, 47, 48, 50, 51, 53, 55, 58, 59, 60, 63, 64, 65, 68, 71, 72, 73, 76, 77, 80, 83, 84, 87, 90, 91, 92, 95, 97, 99, 101, 104, 105, 108, 109, 112, 113, 115, 117, 118, 121, 124, 125, 128, 131, 132, 135, 138, 139, 140, 141, 143, 146, 149, 151, 152, 155, 156, 159, 161, 162, 164, 165, 168, 169, 172, 174, 175, 176, 177, 179, 182, 185, 188, 191]
abbrev nX8_reduce : Nat := 130
def kX8_generator : List Instr := [.iload 1, .invokestatic 1081200, .ifCond .ne 5, .iconst (-1), .ireturn, .aload 0, .getfield 6070, .iconst 8, .if_icmp .ne 11, .iconst (-4), .ireturn, .aload 0, .iload 1, .iconst 40, .aload 0, .getfield 6070, .iadd, .invokevirtual 1003006, .aload 0, .dup, .getfield 6070, .iconst 1, .iadd, .putfield 6070, .aload 0, .iconst 0, .putfield 6091, .aload 0, .getfield 6070, .iconst 1, .isub, .ireturn]
def pX8_generator : List Nat := [0, 1, 4, 7, 8, 9, 10, 13, 15, 18, 20, 21, 22, 23, 25, 26, 29, 30, 33, 34, 35, 38, 39, 40, 43, 44, 45, 48, 49, 52, 53, 54]
abbrev nX8_generator : Nat := 131
def kX8_clear : List Instr := [.aload 0, .getfield 6070, .istore 1, .aload 0, .iconst 0, .putfield 6070, .aload 0, .iconst 0, .putfield 6091, .iload 1, .ireturn]
def pX8_clear : List Nat := [0, 1, 4, 5, 6, 7, 10, 11, 12, 15, 16]
abbrev nX8_clear : Nat := 132
def kX8_basis : List Instr := [.iload 1, .ifCond .lt 5, .iload 1, .iconst 20000, .if_icmp .le 7, .iconst (-2), .ireturn, .aload 0, .iconst 0, .putfield 6111, .aload 0, .iconst 0, .putfield 6121, .aload 0, .iconst 0, .putfield 6130, .aload 0, .iload 1, .putfield 6140, .aload 0, .iconst 0, .putfield 6101, .aload 0, .iconst 50, .aload 0, .getfield 6070, .iconst 1, .invokevirtual 1264006, .aload 0, .getfield 6152, .iconst 0, .aload 0, .getfield 6130, .iastore, .aload 0, .getfield 6152, .iconst 1, .aload 0, .getfield 6240, .iastore, .aload 0, .getfield 6152, .iconst 2, .aload 0, .getfield 6250, .iastore, .aload 0, .getfield 6152, .iconst 3, .aload 0, .getfield 6260, .iastore, .aload 0, .aload 0, .getfield 6200, .putfield 6080, .aload 0, .aload 0, .getfield 6111, .ifCond .ne 65, .aload 0, .getfield 6121, .ifCond .ne 65, .iconst 1, .goto 66, .iconst 0, .putfield 6091, .aload 0, .getfield 6121, .ifCond .eq 72, .iconst (-6), .goto 79, .aload 0, .getfield 6111, .ifCond .eq 77, .iconst (-7), .goto 79, .aload 0, .getfield 6080, .ireturn]
def pX8_basis : List Nat := [0, 1, 4, 5, 8, 11, 13, 14, 15, 16, 19, 20, 21, 24, 25, 26, 29, 30, 31, 34, 35, 36, 39, 40, 42, 43, 46, 47, 50, 51, 54, 55, 56, 59, 60, 61, 64, 65, 66, 69, 70, 71, 74, 75, 76, 79, 80, 81, 84, 85, 86, 89, 90, 91, 92, 95, 98, 99, 100, 103, 106, 107, 110, 113, 114, 117, 118, 121, 122, 125, 128, 130, 133, 134, 137, 140, 142, 145, 146, 149]
abbrev nX8_basis : Nat := 133
def kX8_done : List Instr := [.iload 1, .ifCond .lt 5, .iload 1, .iconst 3, .if_icmp .le 7, .iconst (-2), .goto 11, .aload 0, .getfield 6152, .iload 1, .iaload, .ireturn]
def pX8_done : List Nat := [0, 1, 4, 5, 6, 9, 11, 14, 15, 18, 19, 20]
abbrev nX8_done : Nat := 134
def kX8_element : List Instr := [.aload 0, .getfield 6091, .ifCond .ne 5, .iconst (-3), .ireturn, .iload 1, .ifCond .lt 14, .iload 1, .aload 0, .getfield 6080, .if_icmp .ge 14, .iload 2, .invokestatic 1081200, .ifCond .ne 16, .iconst (-1), .ireturn, .aload 0, .iconst 50, .iload 1, .iadd, .iload 2, .invokevirtual 1003006, .aload 0, .getfield 6062, .iload 2, .iaload, .ireturn]
def pX8_element : List Nat := [0, 1, 4, 7, 9, 10, 11, 14, 15, 16, 19, 22, 23, 26, 29, 30, 31, 32, 34, 35, 36, 37, 40, 41, 44, 45, 46]
abbrev nX8_element : Nat := 135
def kX8_share : List Instr := [.aload 0, .getfield 6091, .ifCond .ne 5, .iconst (-3), .ireturn, .iload 1, .ifCond .lt 20, .iload 1, .aload 0, .getfield 6080, .if_icmp .ge 20, .iload 2, .ifCond .lt 20, .iload 2, .aload 0, .getfield 6070, .if_icmp .ge 20, .iload 3, .invokestatic 1081200, .ifCond .ne 22, .iconst (-1), .ireturn, .aload 0, .aload 0, .iload 1, .iload 2, .invokevirtual 1193106, .iload 3, .invokevirtual 1003006, .aload 0, .getfield 6062, .iload 3, .iaload, .ireturn]
def pX8_share : List Nat := [0, 1, 4, 7, 9, 10, 11, 14, 15, 16, 19, 22, 23, 26, 27, 28, 31, 34, 35, 38, 41, 42, 43, 44, 45, 46, 47, 50, 51, 54, 55, 58, 59, 60]
abbrev nX8_share : Nat := 136
def kX8_own : List Instr := [.aload 0, .iconst 50, .putfield 6190, .aload 0, .aload 0, .getfield 6080, .putfield 6200, .aload 0, .iconst (-1), .putfield 6210, .aload 0, .iconst 0, .putfield 6111, .aload 0, .iconst 0, .putfield 6121, .aload 0, .iconst 0, .putfield 6130, .return_]
def pX8_own : List Nat := [0, 1, 3, 6, 7, 8, 11, 14, 15, 16, 19, 20, 21, 24, 25, 26, 29, 30, 31, 34]
abbrev nX8_own : Nat := 137
def kX8_divide : List Instr := [.iload 1, .invokestatic 1081200, .ifCond .eq 6, .iload 2, .invokestatic 1081200, .ifCond .ne 8, .iconst (-1), .ireturn, .aload 0, .getfield 6091, .ifCond .ne 13, .iconst (-3), .ireturn, .aload 0, .invokevirtual 1371006, .aload 0, .iconst 5000, .putfield 6140, .aload 0, .iload 1, .iconst 151, .invokevirtual 1003006, .aload 0, .iconst 151, .iconst 152, .invokevirtual 1183006, .aload 0, .getfield 6121, .ifCond .ne 32, .aload 0, .getfield 6111, .ifCond .eq 39, .aload 0, .getfield 6121, .ifCond .eq 37, .iconst (-6), .goto 38, .iconst (-7), .ireturn, .aload 0, .iconst 152, .iload 2, .invokevirtual 1003006, .aload 0, .aload 0, .getfield 6062, .iload 2, .iaload, .ifCond .ne 51, .iconst 1, .goto 52, .iconst 0, .putfield 6101, .iconst 0, .istore 3, .iload 3, .iconst 25, .if_icmp .ge 68, .aload 0, .iconst 100, .iload 3, .iadd, .iconst 125, .iload 3, .iadd, .invokevirtual 1003006, .iinc 3 1, .goto 55, .aload 0, .getfield 6101, .ifCond .eq 73, .iconst 1, .goto 74, .iconst 0, .ireturn]
def pX8_divide : List Nat := [0, 1, 4, 7, 8, 11, 14, 15, 16, 17, 20, 23, 25, 26, 27, 30, 31, 34, 37, 38, 39, 42, 45, 46, 49, 52, 55, 56, 59, 62, 63, 66, 69, 70, 73, 76, 78, 81, 83, 84, 85, 88, 89, 92, 93, 94, 97, 98, 99, 102, 103, 106, 107, 110, 111, 112, 113, 115, 118, 119, 121, 122, 123, 125, 126, 127, 130, 133, 136, 137, 140, 143, 144, 147, 148]
abbrev nX8_divide : Nat := 138
def kX8_certificate : List Instr := [.aload 0, .getfield 6091, .ifCond .eq 6, .aload 0, .getfield 6101, .ifCond .ne 8, .iconst (-3), .ireturn, .iload 1, .ifCond .lt 17, .iload 1, .aload 0, .getfield 6070, .if_icmp .ge 17, .iload 2, .invokestatic 1081200, .ifCond .ne 19, .iconst (-1), .ireturn, .aload 0, .invokevirtual 1371006, .iconst 0, .istore 3, .iload 3, .iconst 25, .if_icmp .ge 36, .aload 0, .iconst 125, .iload 3, .iadd, .iconst 100, .iload 3, .iadd, .invokevirtual 1003006, .iinc 3 1, .goto 23, .aload 0, .getfield 6062, .iconst 150, .iconst 0, .iastore, .aload 0, .iconst 150, .iload 1, .iconst 1, .invokevirtual 1204006, .aload 0, .iconst 150, .iload 2, .invokevirtual 1103106, .ireturn]
def pX8_certificate : List Nat := [0, 1, 4, 7, 8, 11, 14, 16, 17, 18, 21, 22, 23, 26, 29, 30, 33, 36, 37, 38, 39, 42, 43, 44, 45, 47, 50, 51, 53, 54, 55, 57, 58, 59, 62, 65, 68, 69, 72, 75, 76, 77, 78, 81, 82, 83, 86, 87, 90, 91, 94]
abbrev nX8_certificate : Nat := 139
def kX8_check : List Instr := [.aload 0, .getfield 6091, .ifCond .ne 5, .iconst (-3), .ireturn, .aload 0, .iconst 0, .putfield 6111, .iconst 1, .istore 1, .iconst 0, .istore 2, .iload 2, .aload 0, .getfield 6080, .if_icmp .ge 66, .aload 0, .getfield 6062, .iconst 150, .iconst 0, .iastore, .iconst 0, .istore 3, .iload 3, .aload 0, .getfield 6070, .if_icmp .ge 46, .aload 0, .aload 0, .iload 2, .iload 3, .invokevirtual 1193106, .iconst 40, .iload 3, .iadd, .iconst 151, .invokevirtual 1044006, .aload 0, .iconst 150, .iconst 1, .iconst 1, .iconst 0, .iconst 151, .invokevirtual 1036006, .iinc 3 1, .goto 23, .aload 0, .getfield 6111, .ifCond .eq 51, .iconst (-7), .ireturn, .iload 1, .ifCond .eq 62, .aload 0, .iconst 150, .iconst 50, .iload 2, .iadd, .invokevirtual 1053206, .ifCond .eq 62, .iconst 1, .goto 63, .iconst 0, .istore 1, .iinc 2 1, .goto 12, .iload 1, .ifCond .eq 70, .iconst 1, .goto 71, .iconst 0, .ireturn]
def pX8_check : List Nat := [0, 1, 4, 7, 9, 10, 11, 12, 15, 16, 17, 18, 19, 20, 21, 24, 27, 28, 31, 34, 35, 36, 37, 38, 39, 40, 43, 46, 47, 48, 49, 50, 53, 55, 56, 57, 60, 63, 64, 67, 68, 69, 70, 73, 76, 79, 82, 83, 86, 89, 91, 92, 93, 96, 97, 100, 102, 103, 104, 107, 110, 111, 114, 115, 116, 119, 122, 123, 126, 127, 130, 131]
abbrev nX8_check : Nat := 140
def kX8_radical : List Instr := [.iload 1, .invokestatic 1081200, .ifCond .ne 5, .iconst (-1), .ireturn, .iload 2, .ifCond .lt 10, .iload 2, .iconst 20000, .if_icmp .le 12, .iconst (-2), .ireturn, .aload 0, .getfield 6000, .iconst 4, .if_icmp .ne 18, .iconst (-3), .ireturn, .aload 0, .iconst 0, .putfield 6111, .aload 0, .iconst 0, .putfield 6121, .aload 0, .iconst 0, .putfield 6130, .aload 0, .iload 2, .putfield 6140, .aload 0, .aload 0, .getfield 6000, .iconst 1, .iadd, .putfield 6010, .iconst 40, .aload 0, .getfield 6070, .iadd, .istore 3, .aload 0, .getfield 6062, .iload 3, .iconst 0, .iastore, .aload 0, .iload 3, .iconst 1, .iconst 1, .iconst 0, .invokevirtual 1025006, .aload 0, .iload 3, .iconst (-1), .iconst 1, .iconst 1, .iconst 5, .aload 0, .getfield 6000, .imul, .ishl, .iload 1, .invokevirtual 1036006, .aload 0, .getfield 6111, .ifCond .ne 75, .aload 0, .iconst 75, .aload 0, .getfield 6070, .iconst 1, .iadd, .iconst 0, .invokevirtual 1264006, .aload 0, .getfield 6111, .ifCond .ne 91, .aload 0, .getfield 6121, .ifCond .ne 91, .aload 0, .getfield 6200, .iconst 1, .if_icmp .ne 91, .aload 0, .iconst 75, .invokevirtual 1012106, .ifCond .ne 91, .iconst 1, .goto 92, .iconst 0, .istore 4, .aload 0, .aload 0, .getfield 6000, .putfield 6010, .aload 0, .getfield 6121, .ifCond .eq 102, .iconst (-6), .goto 112, .aload 0, .getfield 6111, .ifCond .eq 107, .iconst (-7), .goto 112, .iload 4, .ifCond .eq 111, .iconst 1, .goto 112, .iconst 0, .ireturn]
def pX8_radical : List Nat := [0, 1, 4, 7, 8, 9, 10, 13, 14, 17, 20, 22, 23, 24, 27, 28, 31, 33, 34, 35, 36, 39, 40, 41, 44, 45, 46, 49, 50, 51, 54, 55, 56, 59, 60, 61, 64, 66, 67, 70, 71, 72, 73, 76, 77, 78, 79, 80, 81, 82, 83, 84, 87, 88, 89, 90, 91, 92, 93, 94, 97, 98, 99, 100, 103, 104, 107, 110, 111, 113, 114, 117, 118, 119, 120, 123, 124, 127, 130, 131, 134, 137, 138, 141, 142, 145, 146, 148, 151, 154, 155, 158, 159, 161, 162, 163, 166, 169, 170, 173, 176, 178, 181, 182, 185, 188, 190, 193, 195, 198, 199, 202, 203]
abbrev nX8_radical : Nat := 141
def kX8_free : List Instr := [.iload 1, .ifCond .lt 6, .iload 1, .aload 0, .getfield 6000, .if_icmp .le 8, .iconst (-2), .ireturn, .aload 0, .getfield 6091, .ifCond .ne 13, .iconst (-3), .ireturn, .iconst 0, .istore 2, .iconst 0, .istore 3, .iload 3, .aload 0, .getfield 6080, .if_icmp .ge 70, .iconst 1, .istore 4, .iconst 0, .istore 5, .iload 5, .aload 0, .getfield 6062, .iconst 50, .iload 3, .iadd, .iaload, .if_icmp .ge 60, .iload 4, .ifCond .eq 56, .aload 0, .getfield 6052, .iconst 100, .iconst 50, .iload 3, .iadd, .imul, .iload 5, .iadd, .iaload, .iconst 1, .iconst 5, .iload 1, .imul, .ishl, .iconst 1, .isub, .iand, .ifCond .ne 56, .iconst 1, .goto 57, .iconst 0, .istore 4, .iinc 5 1, .goto 25, .iload 2, .iload 4, .ifCond .eq 65, .iconst 1, .goto 66, .iconst 0, .iadd, .istore 2, .iinc 3 1, .goto 17, .iload 2, .ireturn]
def pX8_free : List Nat := [0, 1, 4, 5, 6, 9, 12, 14, 15, 16, 19, 22, 24, 25, 26, 27, 28, 29, 30, 31, 34, 37, 38, 40, 41, 43, 45, 46, 49, 51, 52, 53, 54, 57, 59, 62, 63, 66, 68, 70, 71, 72, 73, 75, 76, 77, 78, 79, 80, 81, 82, 83, 84, 85, 88, 89, 92, 93, 95, 98, 101, 102, 104, 107, 108, 111, 112, 113, 114, 117, 120, 121]
abbrev nX8_free : Nat := 142
def kX8_stairs : List Instr := [.aload 0, .getfield 6091, .ifCond .ne 5, .iconst (-3), .ireturn, .iconst 0, .istore 1, .iload 1, .iconst 4, .if_icmp .ge 23, .aload 0, .getfield 6182, .iload 1, .iload 1, .aload 0, .getfield 6000, .if_icmp .ge 19, .iconst (-1), .goto 20, .iconst 1, .iastore, .iinc 1 1, .goto 7, .iconst 0, .istore 1, .iload 1, .aload 0, .getfield 6080, .if_icmp .ge 65, .aload 0, .iconst 50, .iload 1, .iadd, .invokevirtual 1012106, .istore 2, .iload 2, .ifCond .ne 39, .iconst 0, .ireturn, .iconst 0, .istore 3, .iload 3, .aload 0, .getfield 6000, .if_icmp .ge 63, .iload 2, .iload 2, .iload 3, .invokestatic 922100, .iconst 5, .iload 3, .imul, .ishl, .if_icmp .ne 61, .aload 0, .getfield 6182, .iload 3, .iload 2, .iload 3, .invokestatic 922100, .iastore, .iinc 3 1, .goto 41, .iinc 1 1, .goto 25, .aload 0, .getfield 6182, .iconst 0, .iaload, .ifCond .lt 85, .aload 0, .getfield 6182, .iconst 1, .iaload, .ifCond .lt 85, .aload 0, .getfield 6182, .iconst 2, .iaload, .ifCond .lt 85, .aload 0, .getfield 6182, .iconst 3, .iaload, .ifCond .ge 87, .iconst (-8), .ireturn, .iconst 0, .istore 1, .iconst 0, .istore 2, .iload 2, .aload 0, .getfield 6182, .iconst 0, .iaload, .if_icmp .ge 151, .iconst 0, .istore 3, .iload 3, .aload 0, .getfield 6182, .iconst 1, .iaload, .if_icmp .ge 149, .iconst 0, .istore 4, .iload 4, .aload 0, .getfield 6182, .iconst 2, .iaload, .if_icmp .ge 147, .iconst 0, .istore 5, .iload 5, .aload 0, .getfield 6182, .iconst 3, .iaload, .if_icmp .ge 145, .iload 1, .aload 0, .iload 2, .iload 3, .iconst 5, .ishl, .ior, .iload 4, .iconst 10, .ishl, .ior, .iload 5, .iconst 15, .ishl, .ior, .invokevirtual 1442206, .ifCond .eq 140, .iconst 1, .goto 141, .iconst 0, .iadd, .istore 1, .iinc 5 1, .goto 115, .iinc 4 1, .goto 107, .iinc 3 1, .goto 99, .iinc 2 1, .goto 91, .iload 1, .ireturn]
def pX8_stairs : List Nat := [0, 1, 4, 7, 9, 10, 11, 12, 13, 14, 17, 18, 21, 22, 23, 24, 27, 30, 31, 34, 35, 36, 39, 42, 43, 44, 45, 46, 49, 52, 53, 55, 56, 57, 60, 61, 62, 65, 66, 67, 68, 69, 70, 71, 74, 77, 78, 79, 80, 83, 84, 85, 86, 87, 90, 91, 94, 95, 96, 97, 100, 101, 104, 107, 110, 113, 114, 117, 118, 119, 122, 123, 126, 127, 128, 131, 132, 135, 136, 137, 140, 141, 144, 145, 146, 149, 151, 152, 153, 154, 155, 156, 157, 158, 161, 162, 163, 166, 167, 168, 169, 170, 173, 174, 175, 178, 179, 181, 183, 184, 187, 188, 189, 192, 193, 195, 197, 198, 201, 202, 203, 206, 207, 208, 209, 210, 211, 212, 213, 215, 217, 218, 219, 221, 223, 224, 225, 228, 231, 232, 235, 236, 237, 238, 241, 244, 247, 250, 253, 256, 259, 262, 263]
abbrev nX8_stairs : Nat := 143
def kX8_isStair : List Instr := [.iconst 0, .istore 2, .iload 2, .aload 0, .getfield 6080, .if_icmp .ge 19, .aload 0, .aload 0, .iconst 50, .iload 2, .iadd, .invokevirtual 1012106, .iload 1, .invokevirtual 953206, .ifCond .eq 17, .iconst 0, .ireturn, .iinc 2 1, .goto 2, .iconst 1, .ireturn]
def pX8_isStair : List Nat := [0, 1, 2, 3, 4, 7, 10, 11, 12, 14, 15, 16, 19, 20, 23, 26, 27, 28, 31, 34, 35]
abbrev nX8_isStair : Nat := 144
def kL_cell : List Instr := [.iload 1, .aload 0, .arraylength, .if_icmp .ge 8, .aload 0, .iload 1, .saload, .goto 9, .iconst 0, .ireturn]
def pL_cell : List Nat := [0, 1, 2, 3, 6, 7, 8, 9, 12, 13]
abbrev nL_cell : Nat := 145
def kL_law : List Instr := [.new 514, .dup, .aload 0, .iconst 0, .invokestatic 1452100, .invokespecial 582005, .astore 1, .new 628, .dup, .aload 0, .iconst 0, .invokestatic 1452100, .invokespecial 902006, .astore 2, .iconst 1, .istore 3, .iload 3, .aload 0, .arraylength, .iconst 6, .isub, .if_icmp .gt 564, .aload 0, .iload 3, .saload, .iconst 31, .iand, .tableswitch 562 0 21 #[28, 35, 52, 99, 116, 133, 170, 207, 244, 271, 328, 345, 352, 369, 386, 413, 450, 477, 504, 511, 538, 555], .aload 1, .invokevirtual 591105, .aload 2, .invokevirtual 911106, .if_icmp .eq 562, .iconst 0, .ireturn, .aload 1, .aload 0, .iload 3, .iconst 1, .iadd, .saload, .invokevirtual 602105, .aload 2, .aload 0, .iload 3, .iconst 1, .iadd, .saload, .invokevirtual 1072106, .if_icmp .eq 562, .iconst 0, .ireturn, .aload 1, .aload 0, .iload 3, .iconst 1, .iadd, .saload, .aload 0, .iload 3, .iconst 2, .iadd, .saload, .aload 0, .iload 3, .iconst 3, .iadd, .saload, .aload 0, .iload 3, .iconst 4, .iadd, .saload, .invokevirtual 615105, .aload 2, .aload 0, .iload 3, .iconst 1, .iadd, .saload, .aload 0, .iload 3, .iconst 2, .iadd, .saload, .aload 0, .iload 3, .iconst 3, .iadd, .saload, .aload 0, .iload 3, .iconst 4, .iadd, .saload, .invokevirtual 1095106, .if_icmp .eq 562, .iconst 0, .ireturn, .aload 1, .aload 0, .iload 3, .iconst 1, .iadd, .saload, .invokevirtual 622105, .aload 2, .aload 0, .iload 3, .iconst 1, .iadd, .saload, .invokevirtual 1112106, .if_icmp .eq 562, .iconst 0, .ireturn, .aload 1, .aload 0, .iload 3, .iconst 1, .iadd, .saload, .invokevirtual 632105, .aload 2, .aload 0, .iload 3, .iconst 1, .iadd, .saload, .invokevirtual 1122106, .if_icmp .eq 562, .iconst 0, .ireturn, .aload 1, .aload 0, .iload 3, .iconst 1, .iadd, .saload, .aload 0, .iload 3, .iconst 2, .iadd, .saload, .aload 0, .iload 3, .iconst 3, .iadd, .saload, .invokevirtual 644105, .aload 2, .aload 0, .iload 3, .iconst 1, .iadd, .saload, .aload 0, .iload 3, .iconst 2, .iadd, .saload, .aload 0, .iload 3, .iconst 3, .iadd, .saload, .invokevirtual 1134106, .if_icmp .eq 562, .iconst 0, .ireturn, .aload 1, .aload 0, .iload 3, .iconst 1, .iadd, .saload, .aload 0, .iload 3, .iconst 2, .iadd, .saload, .aload 0, .iload 3, .iconst 3, .iadd, .saload, .invokevirtual 654105, .aload 2, .aload 0, .iload 3, .iconst 1, .iadd, .saload, .aload 0, .iload 3, .iconst 2, .iadd, .saload, .aload 0, .iload 3, .iconst 3, .iadd, .saload, .invokevirtual 1144106, .if_icmp .eq 562, .iconst 0, .ireturn, .aload 1, .aload 0, .iload 3, .iconst 1, .iadd, .saload, .aload 0, .iload 3, .iconst 2, .iadd, .saload, .aload 0, .iload 3, .iconst 3, .iadd, .saload, .invokevirtual 664105, .aload 2, .aload 0, .iload 3, .iconst 1, .iadd, .saload, .aload 0, .iload 3, .iconst 2, .iadd, .saload, .aload 0, .iload 3, .iconst 3, .iadd, .saload, .invokevirtual 1154106, .if_icmp .eq 562, .iconst 0, .ireturn, .aload 1, .aload 0, .iload 3, .iconst 1, .iadd, .saload, .aload 0, .iload 3, .iconst 2, .iadd, .saload, .invokevirtual 673105, .aload 2, .aload 0, .iload 3, .iconst 1, .iadd, .saload, .aload 0, .iload 3, .iconst 2, .iadd, .saload, .invokevirtual 1163106, .if_icmp .eq 562, .iconst 0, .ireturn, .aload 1, .aload 0, .iload 3, .iconst 1, .iadd, .saload, .aload 0, .iload 3, .iconst 2, .iadd, .saload, .aload 0, .iload 3, .iconst 3, .iadd, .saload, .aload 0, .iload 3, .iconst 4, .iadd, .saload, .aload 0, .iload 3, .iconst 5, .iadd, .saload, .invokevirtual 686105, .aload 2, .aload 0, .iload 3, .iconst 1, .iadd, .saload, .aload 0, .iload 3, .iconst 2, .iadd, .saload, .aload 0, .iload 3, .iconst 3, .iadd, .saload, .aload 0, .iload 3, .iconst 4, .iadd, .saload, .aload 0, .iload 3, .iconst 5, .iadd, .saload, .invokevirtual 1176106, .if_icmp .eq 562, .iconst 0, .ireturn, .aload 1, .aload 0, .iload 3, .iconst 1, .iadd, .saload, .invokevirtual 692105, .aload 2, .aload 0, .iload 3, .iconst 1, .iadd, .saload, .invokevirtual 1312106, .if_icmp .eq 562, .iconst 0, .ireturn, .aload 1, .invokevirtual 701105, .aload 2, .invokevirtual 1321106, .if_icmp .eq 562, .iconst 0, .ireturn, .aload 1, .aload 0, .iload 3, .iconst 1, .iadd, .saload, .invokevirtual 712105, .aload 2, .aload 0, .iload 3, .iconst 1, .iadd, .saload, .invokevirtual 1332106, .if_icmp .eq 562, .iconst 0, .ireturn, .aload 1, .aload 0, .iload 3, .iconst 1, .iadd, .saload, .invokevirtual 722105, .aload 2, .aload 0, .iload 3, .iconst 1, .iadd, .saload, .invokevirtual 1342106, .if_icmp .eq 562, .iconst 0, .ireturn, .aload 1, .aload 0, .iload 3, .iconst 1, .iadd, .saload, .aload 0, .iload 3, .iconst 2, .iadd, .saload, .invokevirtual 733105, .aload 2, .aload 0, .iload 3, .iconst 1, .iadd, .saload, .aload 0, .iload 3, .iconst 2, .iadd, .saload, .invokevirtual 1353106, .if_icmp .eq 562, .iconst 0, .ireturn, .aload 1, .aload 0, .iload 3, .iconst 1, .iadd, .saload, .aload 0, .iload 3, .iconst 2, .iadd, .saload, .aload 0, .iload 3, .iconst 3, .iadd, .saload, .invokevirtual 744105, .aload 2, .aload 0, .iload 3, .iconst 1, .iadd, .saload, .aload 0, .iload 3, .iconst 2, .iadd, .saload, .aload 0, .iload 3, .iconst 3, .iadd, .saload, .invokevirtual 1364106, .if_icmp .eq 562, .iconst 0, .ireturn, .aload 1, .aload 0, .iload 3, .iconst 1, .iadd, .saload, .aload 0, .iload 3, .iconst 2, .iadd, .saload, .invokevirtual 753105, .aload 2, .aload 0, .iload 3, .iconst 1, .iadd, .saload, .aload 0, .iload 3, .iconst 2, .iadd, .saload, .invokevirtual 1383106, .if_icmp .eq 562, .iconst 0, .ireturn, .aload 1, .aload 0, .iload 3, .iconst 1, .iadd, .saload, .aload 0, .iload 3, .iconst 2, .iadd, .saload, .invokevirtual 763105, .aload 2, .aload 0, .iload 3, .iconst 1, .iadd, .saload, .aload 0, .iload 3, .iconst 2, .iadd, .saload, .invokevirtual 1393106, .if_icmp .eq 562, .iconst 0, .ireturn, .aload 1, .invokevirtual 771105, .aload 2, .invokevirtual 1401106, .if_icmp .eq 562, .iconst 0, .ireturn, .aload 1, .aload 0, .iload 3, .iconst 1, .iadd, .saload, .aload 0, .iload 3, .iconst 2, .iadd, .saload, .invokevirtual 783105, .aload 2, .aload 0, .iload 3, .iconst 1, .iadd, .saload, .aload 0, .iload 3, .iconst 2, .iadd, .saload, .invokevirtual 1413106, .if_icmp .eq 562, .iconst 0, .ireturn, .aload 1, .aload 0, .iload 3, .iconst 1, .iadd, .saload, .invokevirtual 792105, .aload 2, .aload 0, .iload 3, .iconst 1, .iadd, .saload, .invokevirtual 1422106, .if_icmp .eq 562, .iconst 0, .ireturn, .aload 1, .invokevirtual 801105, .aload 2, .invokevirtual 1431106, .if_icmp .eq 562, .iconst 0, .ireturn, .iinc 3 6, .goto 16, .iconst 1, .ireturn]
def pL_law : List Nat := [0, 3, 4, 5, 6, 9, 12, 13, 16, 17, 18, 19, 22, 25, 26, 27, 28, 29, 30, 31, 33, 34, 37, 38, 39, 40, 42, 43, 144, 145, 148, 149, 152, 155, 156, 157, 158, 159, 160, 161, 162, 163, 166, 167, 168, 169, 170, 171, 172, 175, 178, 179, 180, 181, 182, 183, 184, 185, 186, 187, 188, 189, 190, 191, 192, 193, 194, 195, 196, 197, 198, 199, 200, 201, 204, 205, 206, 207, 208, 209, 210, 211, 212, 213, 214, 215, 216, 217, 218, 219, 220, 221, 222, 223, 224, 225, 228, 231, 232, 233, 234, 235, 236, 237, 238, 239, 242, 243, 244, 245, 246, 247, 248, 251, 254, 255, 256, 257, 258, 259, 260, 261, 262, 265, 266, 267, 268, 269, 270, 271, 274, 277, 278, 279, 280, 281, 282, 283, 284, 285, 286, 287, 288, 289, 290, 291, 292, 293, 294, 295, 298, 299, 300, 301, 302, 303, 304, 305, 306, 307, 308, 309, 310, 311, 312, 313, 314, 317, 320, 321, 322, 323, 324, 325, 326, 327, 328, 329, 330, 331, 332, 333, 334, 335, 336, 337, 338, 341, 342, 343, 344, 345, 346, 347, 348, 349, 350, 351, 352, 353, 354, 355, 356, 357, 360, 363, 364, 365, 366, 367, 368, 369, 370, 371, 372, 373, 374, 375, 376, 377, 378, 379, 380, 381, 384, 385, 386, 387, 388, 389, 390, 391, 392, 393, 394, 395, 396, 397, 398, 399, 400, 403, 406, 407, 408, 409, 410, 411, 412, 413, 414, 415, 416, 417, 418, 419, 422, 423, 424, 425, 426, 427, 428, 429, 430, 431, 432, 433, 436, 439, 440, 441, 442, 443, 444, 445, 446, 447, 448, 449, 450, 451, 452, 453, 454, 455, 456, 457, 458, 459, 460, 461, 462, 463, 464, 465, 466, 467, 470, 471, 472, 473, 474, 475, 476, 477, 478, 479, 480, 481, 482, 483, 484, 485, 486, 487, 488, 489, 490, 491, 492, 493, 494, 495, 496, 499, 502, 503, 504, 505, 506, 507, 508, 509, 510, 513, 514, 515, 516, 517, 518, 519, 522, 525, 526, 527, 528, 531, 532, 535, 538, 539, 540, 541, 542, 543, 544, 545, 546, 549, 550, 551, 552, 553, 554, 555, 558, 561, 562, 563, 564, 565, 566, 567, 568, 569, 572, 573, 574, 575, 576, 577, 578, 581, 584, 585, 586, 587, 588, 589, 590, 591, 592, 593, 594, 595, 596, 597, 600, 601, 602, 603, 604, 605, 606, 607, 608, 609, 610, 611, 614, 617, 618, 619, 620, 621, 622, 623, 624, 625, 626, 627, 628, 629, 630, 631, 632, 633, 634, 635, 638, 639, 640, 641, 642, 643, 644, 645, 646, 647, 648, 649, 650, 651, 652, 653, 654, 657, 660, 661, 662, 663, 664, 665, 666, 667, 668, 669, 670, 671, 672, 673, 676, 677, 678, 679, 680, 681, 682, 683, 684, 685, 686, 687, 690, 693, 694, 695, 696, 697, 698, 699, 700, 701, 702, 703, 704, 705, 706, 709, 710, 711, 712, 713, 714, 715, 716, 717, 718, 719, 720, 723, 726, 727, 728, 729, 732, 733, 736, 739, 740, 741, 742, 743, 744, 745, 746, 747, 748, 749, 750, 751, 752, 755, 756, 757, 758, 759, 760, 761, 762, 763, 764, 765, 766, 769, 772, 773, 774, 775, 776, 777, 778, 779, 780, 783, 784, 785, 786, 787, 788, 789, 792, 795, 796, 797, 798, 801, 802, 805, 808, 809, 810, 813, 816, 817]
abbrev nL_law : Nat := 146
def gMeL : List zMi := [(yX0_init, cX0_init, 2, none), (yX0_allow, cX0_allow, 2, none), (yX0_makeReady, cX0_makeReady, 3, none), (yX0_run, cX0_run, 9, (some .int)), (yX0_firstDivisor, cX0_firstDivisor, 5, (some .int)), (yX1_init, cX1_init, 3, none), (yX1_leading, cX1_leading, 1, (some .int)), (yX1_makeMonic, cX1_makeMonic, 5, (some .boolean)), (yX2_over, cX2_over, 2, (some .int)), (yX2_under, cX2_under, 2, (some .int)), (yX2_lowest, cX2_lowest, 12, (some .long)), (yX2_sum, cX2_sum, 6, (some .long)), (yX2_product, cX2_product, 4, (some .long)), (yX2_negative, cX2_negative, 2, (some .long)), (yX2_inverse, cX2_inverse, 6, (some .long)), (yX3_init, cX3_init, 4, none), (yX3_build, cX3_build, 8, (some .int)), (yX3_begin, cX3_begin, 2, none), (yX3_adopt, cX3_adopt, 6, (some .int)), (yX3_add, cX3_add, 3, none), (yX3_choosePair, cX3_choosePair, 5, (some .boolean)), (yX3_settlePair, cX3_settlePair, 5, (some .int)), (yX3_isNeedless, cX3_isNeedless, 3, (some .boolean)), (yX3_isWaiting, cX3_isWaiting, 4, (some .boolean)), (yX3_crossOut, cX3_crossOut, 9, (some .boolean)), (yX3_takeQuotients, cX3_takeQuotients, 10, (some .boolean)), (yX3_dropNeedless, cX3_dropNeedless, 4, none), (yX3_isCovered, cX3_isCovered, 6, (some .boolean)), (yX3_sortElements, cX3_sortElements, 5, none), (yX3_reduceElement, cX3_reduceElement, 6, (some .int)), (yX3_isWhole, cX3_isWhole, 1, (some .boolean)), (yX3_countBelow, cX3_countBelow, 10, (some .int)), (yX3_wall, cX3_wall, 7, (some .int)), (yX3_height, cX3_height, 6, (some .int)), (yX4_exponent, cX4_exponent, 2, (some .int)), (yX4_single, cX4_single, 1, (some .int)), (yX4_isInside, cX4_isInside, 1, (some .boolean)), (yX4_divides, cX4_divides, 2, (some .boolean)), (yX4_leastCommon, cX4_leastCommon, 5, (some .int)), (yX4_haveVariableInCommon, cX4_haveVariableInCommon, 3, (some .boolean)), (yX5_init, cX5_init, 1, none), (yX5_rank, cX5_rank, 7, (some .int)), (yX6_init, cX6_init, 2, none), (yX6_empty, cX6_empty, 1, none), (yX6_become, cX6_become, 2, none), (yX6_isLike, cX6_isLike, 3, (some .boolean)), (yX6_isWithout, cX6_isWithout, 4, (some .boolean)), (yX6_come, cX6_come, 8, (some .boolean)), (yX6_find, cX6_find, 6, (some .int)), (yX6_shift, cX6_shift, 3, none), (yX6_behead, cX6_behead, 1, none), (yX6_addMultiple, cX6_addMultiple, 9, (some .boolean)), (yX6_addProduct, cX6_addProduct, 4, (some .boolean)), (yX6_becomeProduct, cX6_becomeProduct, 3, (some .boolean)), (yX6_multiply, cX6_multiply, 6, (some .boolean)), (yX6_arrange, cX6_arrange, 7, none), (yX6_valueAt, cX6_valueAt, 8, (some .long)), (yX6_termAt, cX6_termAt, 11, (some .long)), (yX7_init, cX7_init, 2, none), (yX7_variables, cX7_variables, 1, (some .int)), (yX7_order, cX7_order, 4, (some .int)), (yX7_term, cX7_term, 8, (some .int)), (yX7_zero, cX7_zero, 3, (some .int)), (yX7_size, cX7_size, 2, (some .int)), (yX7_told, cX7_told, 4, (some .int)), (yX7_plus, cX7_plus, 4, (some .int)), (yX7_times, cX7_times, 4, (some .int)), (yX7_same, cX7_same, 3, (some .int)), (yX7_vanishes, cX7_vanishes, 8, (some .int)), (yX7_generator, cX7_generator, 2, (some .int)), (yX7_clear, cX7_clear, 2, (some .int)), (yX7_basis, cX7_basis, 3, (some .int)), (yX7_done, cX7_done, 2, (some .int)), (yX7_element, cX7_element, 3, (some .int)), (yX7_share, cX7_share, 4, (some .int)), (yX7_divide, cX7_divide, 5, (some .int)), (yX7_certificate, cX7_certificate, 4, (some .int)), (yX7_check, cX7_check, 4, (some .int)), (yX7_radical, cX7_radical, 5, (some .int)), (yX7_free, cX7_free, 4, (some .int)), (yX7_stairs, cX7_stairs, 1, (some .int)), (yX7_row, cX7_row, 4, (some (.array (.object "IdealProver$Polynomial")))), (yX7_isPlace, cX7_isPlace, 1, (some .boolean)), (yX7_isLarge, cX7_isLarge, 2, (some .boolean)), (yX7_isTold, cX7_isTold, 3, (some .boolean)), (yX7_isElement, cX7_isElement, 2, (some .boolean)), (yX7_isGenerator, cX7_isGenerator, 2, (some .boolean)), (yX7_put, cX7_put, 3, (some .int)), (yX7_forgetBasis, cX7_forgetBasis, 1, none), (yX7_sumUp, cX7_sumUp, 3, (some .boolean)), (yX8_init, cX8_init, 2, none), (yX8_variables, cX8_variables, 1, (some .int)), (yX8_exponent, cX8_exponent, 2, (some .int)), (yX8_sum, cX8_sum, 4, (some .int)), (yX8_compare, cX8_compare, 4, (some .int)), (yX8_divides, cX8_divides, 4, (some .boolean)), (yX8_common, cX8_common, 7, (some .int)), (yX8_product, cX8_product, 4, (some .int)), (yX8_lowest, cX8_lowest, 13, none), (yX8_multiplied, cX8_multiplied, 9, none), (yX8_copy, cX8_copy, 4, none), (yX8_lead, cX8_lead, 2, (some .int)), (yX8_comes, cX8_comes, 8, none), (yX8_adds, cX8_adds, 9, none), (yX8_made, cX8_made, 5, none), (yX8_isSame, cX8_isSame, 4, (some .boolean)), (yX8_sorted, cX8_sorted, 8, none), (yX8_order, cX8_order, 4, (some .int)), (yX8_isPlace, cX8_isPlace, 1, (some .boolean)), (yX8_term, cX8_term, 9, (some .int)), (yX8_taken, cX8_taken, 3, (some .int)), (yX8_zero, cX8_zero, 3, (some .int)), (yX8_size, cX8_size, 2, (some .int)), (yX8_told, cX8_told, 7, (some .int)), (yX8_plus, cX8_plus, 4, (some .int)), (yX8_times, cX8_times, 4, (some .int)), (yX8_same, cX8_same, 3, (some .int)), (yX8_vanishes, cX8_vanishes, 13, (some .int)), (yX8_divided, cX8_divided, 12, none), (yX8_cofactor, cX8_cofactor, 3, (some .int)), (yX8_lessShares, cX8_lessShares, 7, none), (yX8_scaled, cX8_scaled, 5, none), (yX8_monic, cX8_monic, 8, none), (yX8_isWaiting, cX8_isWaiting, 3, (some .boolean)), (yX8_addPairs, cX8_addPairs, 3, none), (yX8_isPassed, cX8_isPassed, 8, (some .boolean)), (yX8_make, cX8_make, 6, none), (yX8_onePair, cX8_onePair, 8, (some .boolean)), (yX8_clean, cX8_clean, 5, none), (yX8_move, cX8_move, 4, none), (yX8_reduce, cX8_reduce, 8, none), (yX8_generator, cX8_generator, 2, (some .int)), (yX8_clear, cX8_clear, 2, (some .int)), (yX8_basis, cX8_basis, 2, (some .int)), (yX8_done, cX8_done, 2, (some .int)), (yX8_element, cX8_element, 3, (some .int)), (yX8_share, cX8_share, 4, (some .int)), (yX8_own, cX8_own, 1, none), (yX8_divide, cX8_divide, 4, (some .int)), (yX8_certificate, cX8_certificate, 4, (some .int)), (yX8_check, cX8_check, 4, (some .int)), (yX8_radical, cX8_radical, 5, (some .int)), (yX8_free, cX8_free, 6, (some .int)), (yX8_stairs, cX8_stairs, 6, (some .int)), (yX8_isStair, cX8_isStair, 3, (some .boolean)), (yL_cell, cL_cell, 2, (some .int)), (yL_law, cL_law, 4, (some .boolean))]
def gTbL : List zMe := [(kX0_init, 0, 2), (kX0_allow, 0, 2), (kX0_makeReady, 0, 3), (kX0_run, 1, 9), (kX0_firstDivisor, 1, 5), (kX1_init, 0, 3), (kX1_leading, 1, 1), (kX1_makeMonic, 2, 5), (kX2_over, 1, 2), (kX2_under, 1, 2), (kX2_lowest, 3, 12), (kX2_sum, 3, 6), (kX2_product, 3, 4), (kX2_negative, 3, 2), (kX2_inverse, 3, 6), (kX3_init, 0, 4), (kX3_build, 1, 8), (kX3_begin, 0, 2), (kX3_adopt, 1, 6), (kX3_add, 0, 3), (kX3_choosePair, 2, 5), (kX3_settlePair, 1, 5), (kX3_isNeedless, 2, 3), (kX3_isWaiting, 2, 4), (kX3_crossOut, 2, 9), (kX3_takeQuotients, 2, 10), (kX3_dropNeedless, 0, 4), (kX3_isCovered, 2, 6), (kX3_sortElements, 0, 5), (kX3_reduceElement, 1, 6), (kX3_isWhole, 2, 1), (kX3_countBelow, 1, 10), (kX3_wall, 1, 7), (kX3_height, 1, 6), (kX4_exponent, 1, 2), (kX4_single, 1, 1), (kX4_isInside, 2, 1), (kX4_divides, 2, 2), (kX4_leastCommon, 1, 5), (kX4_haveVariableInCommon, 2, 3), (kX5_init, 0, 1), (kX5_rank, 1, 7), (kX6_init, 0, 2), (kX6_empty, 0, 1), (kX6_become, 0, 2), (kX6_isLike, 2, 3), (kX6_isWithout, 2, 4), (kX6_come, 2, 8), (kX6_find, 1, 6), (kX6_shift, 0, 3), (kX6_behead, 0, 1), (kX6_addMultiple, 2, 9), (kX6_addProduct, 2, 4), (kX6_becomeProduct, 2, 3), (kX6_multiply, 2, 6), (kX6_arrange, 0, 7), (kX6_valueAt, 3, 8), (kX6_termAt, 3, 11), (kX7_init, 0, 2), (kX7_variables, 1, 1), (kX7_order, 1, 4), (kX7_term, 1, 8), (kX7_zero, 1, 3), (kX7_size, 1, 2), (kX7_told, 1, 4), (kX7_plus, 1, 4), (kX7_times, 1, 4), (kX7_same, 1, 3), (kX7_vanishes, 1, 8), (kX7_generator, 1, 2), (kX7_clear, 1, 2), (kX7_basis, 1, 3), (kX7_done, 1, 2), (kX7_element, 1, 3), (kX7_share, 1, 4), (kX7_divide, 1, 5), (kX7_certificate, 1, 4), (kX7_check, 1, 4), (kX7_radical, 1, 5), (kX7_free, 1, 4), (kX7_stairs, 1, 1), (kX7_row, 4, 4), (kX7_isPlace, 2, 1), (kX7_isLarge, 2, 2), (kX7_isTold, 2, 3), (kX7_isElement, 2, 2), (kX7_isGenerator, 2, 2), (kX7_put, 1, 3), (kX7_forgetBasis, 0, 1), (kX7_sumUp, 2, 3), (kX8_init, 0, 2), (kX8_variables, 1, 1), (kX8_exponent, 1, 2), (kX8_sum, 1, 4), (kX8_compare, 1, 4), (kX8_divides, 2, 4), (kX8_common, 1, 7), (kX8_product, 1, 4), (kX8_lowest, 0, 13), (kX8_multiplied, 0, 9), (kX8_copy, 0, 4), (kX8_lead, 1, 2), (kX8_comes, 0, 8), (kX8_adds, 0, 9), (kX8_made, 0, 5), (kX8_isSame, 2, 4), (kX8_sorted, 0, 8), (kX8_order, 1, 4), (kX8_isPlace, 2, 1), (kX8_term, 1, 9), (kX8_taken, 1, 3), (kX8_zero, 1, 3), (kX8_size, 1, 2), (kX8_told, 1, 7), (kX8_plus, 1, 4), (kX8_times, 1, 4), (kX8_same, 1, 3), (kX8_vanishes, 1, 13), (kX8_divided, 0, 12), (kX8_cofactor, 1, 3), (kX8_lessShares, 0, 7), (kX8_scaled, 0, 5), (kX8_monic, 0, 8), (kX8_isWaiting, 2, 3), (kX8_addPairs, 0, 3), (kX8_isPassed, 2, 8), (kX8_make, 0, 6), (kX8_onePair, 2, 8), (kX8_clean, 0, 5), (kX8_move, 0, 4), (kX8_reduce, 0, 8), (kX8_generator, 1, 2), (kX8_clear, 1, 2), (kX8_basis, 1, 2), (kX8_done, 1, 2), (kX8_element, 1, 3), (kX8_share, 1, 4), (kX8_own, 0, 1), (kX8_divide, 1, 4), (kX8_certificate, 1, 4), (kX8_check, 1, 4), (kX8_radical, 1, 5), (kX8_free, 1, 6), (kX8_stairs, 1, 6), (kX8_isStair, 2, 3), (kL_cell, 1, 2), (kL_law, 2, 4)]
def gPcL : List (List Nat) := [pX0_init, pX0_allow, pX0_makeReady, pX0_run, pX0_firstDivisor, pX1_init, pX1_leading, pX1_makeMonic, pX2_over, pX2_under, pX2_lowest, pX2_sum, pX2_product, pX2_negative, pX2_inverse, pX3_init, pX3_build, pX3_begin, pX3_adopt, pX3_add, pX3_choosePair, pX3_settlePair, pX3_isNeedless, pX3_isWaiting, pX3_crossOut, pX3_takeQuotients, pX3_dropNeedless, pX3_isCovered, pX3_sortElements, pX3_reduceElement, pX3_isWhole, pX3_countBelow, pX3_wall, pX3_height, pX4_exponent, pX4_single, pX4_isInside, pX4_divides, pX4_leastCommon, pX4_haveVariableInCommon, pX5_init, pX5_rank, pX6_init, pX6_empty, pX6_become, pX6_isLike, pX6_isWithout, pX6_come, pX6_find, pX6_shift, pX6_behead, pX6_addMultiple, pX6_addProduct, pX6_becomeProduct, pX6_multiply, pX6_arrange, pX6_valueAt, pX6_termAt, pX7_init, pX7_variables, pX7_order, pX7_term, pX7_zero, pX7_size, pX7_told, pX7_plus, pX7_times, pX7_same, pX7_vanishes, pX7_generator, pX7_clear, pX7_basis, pX7_done, pX7_element, pX7_share, pX7_divide, pX7_certificate, pX7_check, pX7_radical, pX7_free, pX7_stairs, pX7_row, pX7_isPlace, pX7_isLarge, pX7_isTold, pX7_isElement, pX7_isGenerator, pX7_put, pX7_forgetBasis, pX7_sumUp, pX8_init, pX8_variables, pX8_exponent, pX8_sum, pX8_compare, pX8_divides, pX8_common, pX8_product, pX8_lowest, pX8_multiplied, pX8_copy, pX8_lead, pX8_comes, pX8_adds, pX8_made, pX8_isSame, pX8_sorted, pX8_order, pX8_isPlace, pX8_term, pX8_taken, pX8_zero, pX8_size, pX8_told, pX8_plus, pX8_times, pX8_same, pX8_vanishes, pX8_divided, pX8_cofactor, pX8_lessShares, pX8_scaled, pX8_monic, pX8_isWaiting, pX8_addPairs, pX8_isPassed, pX8_make, pX8_onePair, pX8_clean, pX8_move, pX8_reduce, pX8_generator, pX8_clear, pX8_basis, pX8_done, pX8_element, pX8_share, pX8_own, pX8_divide, pX8_certificate, pX8_check, pX8_radical, pX8_free, pX8_stairs, pX8_isStair, pL_cell, pL_law]
def gMe (m : Nat) : zMi := (zat gMeL m).getD (objectInit, ⟨#[]⟩, 0, none)
def gTb (m : Nat) : zMe := (zat gTbL m).getD ([], 0, 0)
def gPc (m : Nat) : List Nat := (zat gPcL m).getD []
end
section
/-! THE CHECK of small code against the bytes and the tables' words -/
def gTB : List Cond := lw_tbl.filter goodWord
def zwd (w : Cond) : Bool := decide (w ∈ lw_tbl) && goodWord w
theorem zwd_in {w : Cond} (h : zwd w = true) : w ∈ gTB := by
  simp only [zwd, Bool.and_eq_true, decide_eq_true_eq] at h
  exact List.mem_filter.mpr h
def gNB (w : Cond) : Bool := decide (w ∈ lw_tbl)
/-- a place in the code: its number among the instructions -/
def ztg (pcs : List Nat) (pc : Nat) (off t : Int) : Bool := decide (0 ≤ (pc : Int) + off) && decide (zat pcs t.toNat = some ((pc : Int) + off).toNat)
def ztk (kd : Nat) (t : FieldType) : Bool := match kd, t with
  | 0, .int => true
  | 1, .boolean => true
  | 2, .object _ => true
  | 2, .array _ => true
  | _, _ => false
def zrk (r : Option FieldType) : Nat := match r with
  | none => 0
  | some .int => 1
  | some .boolean => 2
  | some .long => 3
  | some (.object _) => 4
  | some (.array _) => 4
  | _ => 9
def zpar (d : String) : Option Nat := (parseMethodDescriptor d).map fun d => d.parameters.length
/-- what a call wants of the callee, whatever its kind -/
def zcb (own : String) (idx x n : Nat) : Bool := decide (zpar (gMe (x / 10000)).1.desc = some n) && decide ((gMe (x / 10000)).1.cls ≠ "java/lang/invoke/MethodHandle") && decide ((gMe (x / 10000)).1.cls ≠ "java/lang/invoke/VarHandle") && decide (zrk (gMe (x / 10000)).2.2.2 = x / 100 % 10) && zwd (.initialized (gMe (x / 10000)).1.cls) && zwd (.code (gMe (x / 10000)).1 (gMe (x / 10000)).2.1 (gMe (x / 10000)).2.2.1 (gMe (x / 10000)).2.2.2) && decide (x / 10000 < gMeL.length) && decide (x / 1000 % 10 ≤ 9)
def zcbl (own : String) (idx x : Nat) : Bool := zwd (.methodLink own idx (gMe (x / 10000)).1)
def zcbn (own : String) (idx x : Nat) : Bool := gNB (.methodLinkNest own idx (gMe (x / 10000)).1 gHs)
def zfd (x : Nat) (f : String × u_T × Nat → Nat → Bool) : Bool := match gCl[x / 1000]? with
  | some r => decide (x / 10 % 100 < r.2.2) && f r (x / 10 % 100)
  | none => false
set_option maxHeartbeats 4000000 in
def zmt (y : MethodName) (nL : Nat) (pcs : List Nat) (i pc : Nat) (o : Instr) (len : Nat) (mi : Instr) : Bool :=
  match mi with
  | .iconst n => decide (zat pcs (i + 1) = some (pc + len)) && (match o with
    | .iconst k => decide (len = 1) && decide (Int32.ofInt k = zc n)
    | .bipush k => decide (len = 2) && decide ((Int8.ofInt k).toInt32 = zc n)
    | .sipush k => decide (len = 3) && decide ((Int16.ofInt k).toInt32 = zc n)
    | .ldc x => decide (len = 2) && zwd (.constant y.cls x (zc n))
    | _ => false)
  | .jsr_w n => decide (zat pcs (i + 1) = some (pc + len)) && (match o with
    | .lconst k => decide (len = 1) && decide (Int64.ofNat (k : Nat) = zcl n)
    | .ldc2_w x => decide (len = 3) && zwd (.constantLong y.cls x (zcl n))
    | _ => false)
  | .iload j => decide (zat pcs (i + 1) = some (pc + len)) && (match o with
    | .iload_n k => decide (len = 1) && decide ((k : Nat) = j)
    | .iload k => decide (len = 2) && decide (k = j)
    | _ => false)
  | .lload j => decide (zat pcs (i + 1) = some (pc + len)) && (match o with
    | .lload_n k => decide (len = 1) && decide ((k : Nat) = j)
    | .lload k => decide (len = 2) && decide (k = j)
    | _ => false)
  | .aload j => decide (zat pcs (i + 1) = some (pc + len)) && (match o with
    | .aload_n k => decide (len = 1) && decide ((k : Nat) = j)
    | .aload k => decide (len = 2) && decide (k = j)
    | _ => false)
  | .istore j => decide (zat pcs (i + 1) = some (pc + len)) && (match o with
    | .istore_n k => decide (len = 1) && decide ((k : Nat) = j) && decide (j < nL)
    | .istore k => decide (len = 2) && decide (k = j) && decide (j < nL)
    | _ => false)
  | .lstore j => decide (zat pcs (i + 1) = some (pc + len)) && (match o with
    | .lstore_n k => decide (len = 1) && decide ((k : Nat) = j) && decide (j + 1 < nL)
    | .lstore k => decide (len = 2) && decide (k = j) && decide (j + 1 < nL)
    | _ => false)
  | .astore j => decide (zat pcs (i + 1) = some (pc + len)) && (match o with
    | .astore_n k => decide (len = 1) && decide ((k : Nat) = j) && decide (j < nL)
    | .astore k => decide (len = 2) && decide (k = j) && decide (j < nL)
    | _ => false)
  | .iinc j n => decide (zat pcs (i + 1) = some (pc + len)) && (match o with
    | .iinc k n' => decide (len = 3) && decide (k = j) && decide (j < nL) && decide (Int32.ofInt n' = zc n)
    | _ => false)
  | .goto t => (match o with
    | .goto off => decide (len = 3) && ztg pcs pc off t
    | _ => false)
  | .ifCond c t => decide (zat pcs (i + 1) = some (pc + len)) && (match o with
    | .ifCond c' off => decide (len = 3) && decide (c' = c) && ztg pcs pc off t
    | _ => false)
  | .if_icmp c t => decide (zat pcs (i + 1) = some (pc + len)) && (match o with
    | .if_icmp c' off => decide (len = 3) && decide (c' = c) && ztg pcs pc off t
    | _ => false)
  | .tableswitch d lo hi ts => (match o with
    | .tableswitch d' lo' hi' offs => decide (lo' = lo) && decide (hi' = hi) && ztg pcs pc d' d && decide (offs.toList.length = ts.toList.length) && decide (lo + (ts.toList.length : Int) = hi + 1) && (offs.toList.zip ts.toList).all (fun q => ztg pcs pc q.1 q.2)
    | _ => false)
  | .getfield x => decide (zat pcs (i + 1) = some (pc + len)) && (match o with
    | .getfield idx => decide (len = 3) && zfd x (fun r k => decide ((gFk (x / 1000)).length = r.2.2) && decide ((((gFk (x / 1000)).getD k 0) == 2) = (x % 10 == 2)) && zwd (.fieldLink y.cls idx (r.2.1 k).1 (r.2.1 k).2.1 (r.2.1 k).2.2.1))
    | _ => false)
  | .putfield x => decide (zat pcs (i + 1) = some (pc + len)) && (match o with
    | .putfield idx => decide (len = 3) && zfd x (fun r k => decide ((gFk (x / 1000)).length = r.2.2) && decide ((((gFk (x / 1000)).getD k 0) == 2) = (x % 10 == 2)) && ztk (x % 10) (gTy (x / 1000) k) && (!(r.2.1 k).2.2.2 || (decide (y.name = "<init>") && decide ((r.2.1 k).1 = y.cls))) && zwd (.fieldLink y.cls idx (r.2.1 k).1 (r.2.1 k).2.1 (r.2.1 k).2.2.1))
    | _ => false)
  | .saload => decide (zat pcs (i + 1) = some (pc + len)) && decide (o = .iaload) && decide (len = 1)
  | .ret _ => decide (zat pcs (i + 1) = some (pc + len)) && decide (o = .aaload) && decide (len = 1)
  | .putstatic x => decide (zat pcs (i + 1) = some (pc + len)) && decide (o = .aastore) && decide (len = 1) && (match gCl[x / 10]? with
    | some r => decide (r.1 = gEl (x % 2))
    | none => false)
  | .faload => decide (zat pcs (i + 1) = some (pc + len)) && (match o with
    | .invokestatic idx => decide (len = 3) && zwd (.methodLink y.cls idx arraycopyName) && zwd (.native arraycopyName) && zwd (.static arraycopyName) && zwd (.initialized "java/lang/System")
    | _ => false)
  | .daload => decide (zat pcs (i + 1) = some (pc + len)) && (match o with
    | .invokestatic idx => decide (len = 3) && zwd (.methodLink y.cls idx arraycopyName) && zwd (.native arraycopyName) && zwd (.static arraycopyName) && zwd (.initialized "java/lang/System")
    | _ => false)
  | .dadd => decide (zat pcs (i + 1) = some (pc + len)) && (match o with
    | .invokestatic idx => decide (len = 3) && zwd (.methodLink y.cls idx Lib.Math.min.name) && zwd (.static Lib.Math.min.name) && zwd (.initialized "java/lang/Math") && zwd (.code Lib.Math.min.name Lib.Math.min.code 2 (some .int))
    | _ => false)
  | .nop => decide (zat pcs (i + 1) = some (pc + len)) && (match o with
    | .invokespecial idx => decide (len = 3) && zwd (.methodLink y.cls idx Lib.objectInit) && zwd (.instanceMethod Lib.objectInit) && zwd (.code Lib.objectInit ⟨#[0xb1]⟩ 1 none)
    | _ => false)
  | .new x => decide (zat pcs (i + 1) = some (pc + len)) && (match o with
    | .new idx => decide (len = 3) && (match gCl[x / 100]? with
      | some r => decide (r.2.2 = x % 100) && decide ((gFk (x / 100)).length = x % 100) && zwd (.classLink y.cls idx r.1) && zwd (.instantiable r.1 (x % 100)) && zwd (.initialized r.1) && (List.range (x % 100)).all (fun k => ztk ((gFk (x / 100)).getD k 0) (gTy (x / 100) k))
      | none => false)
    | _ => false)
  | .newarray t => decide (zat pcs (i + 1) = some (pc + len)) && decide (o = .newarray t) && decide (len = 2) && zwd (.arrayClass (newarray.typeOf t))
  | .anewarray kd => decide (zat pcs (i + 1) = some (pc + len)) && (match o with
    | .anewarray idx => decide (len = 3) && zwd (.classLink y.cls idx (gEl (kd % 2))) && gNB (.arrayOver (.object (gEl (kd % 2))))
    | _ => false)
  | .invokestatic x => decide (zat pcs (i + 1) = some (pc + len)) && (match o with
    | .invokestatic idx => decide (len = 3) && zcb y.cls idx x (x / 1000 % 10) && zwd (.static (gMe (x / 10000)).1) && (zcbl y.cls idx x || zcbn y.cls idx x)
    | _ => false)
  | .invokevirtual x => decide (zat pcs (i + 1) = some (pc + len)) && (match o with
    | .invokevirtual idx => decide (len = 3) && zcb y.cls idx x (x / 1000 % 10 - 1) && decide (1 ≤ x / 1000 % 10) && zwd (.instanceMethod (gMe (x / 10000)).1) && zwd (.selects (gMe (x / 10000)).1.cls (gMe (x / 10000)).1 (gMe (x / 10000)).1) && zcbl y.cls idx x && (match gCl[x % 100]? with
      | some r => decide (r.1 = (gMe (x / 10000)).1.cls)
      | none => false)
    | _ => false)
  | .invokespecial x => decide (zat pcs (i + 1) = some (pc + len)) && (match o with
    | .invokespecial idx => decide (len = 3) && zcb y.cls idx x (x / 1000 % 10 - 1) && decide (1 ≤ x / 1000 % 10) && decide ((gMe (x / 10000)).1.name = "<init>") && decide ((gMe (x / 10000)).2.2.2 = none) && zwd (.instanceMethod (gMe (x / 10000)).1) && (zcbl y.cls idx x || zcbn y.cls idx x)
    | _ => false)
  | .ireturn => decide (o = .ireturn) && decide (len = 1)
  | .lreturn => decide (o = .lreturn) && decide (len = 1)
  | .areturn => decide (o = .areturn) && decide (len = 1)
  | .return_ => decide (o = .return_) && decide (len = 1)
  | mi => decide (zat pcs (i + 1) = some (pc + len)) && decide (o = mi) && decide (len = 1)
/-- a stretch of a method's instructions -/
def zckl (y : MethodName) (bytes : ByteArray) (nL : Nat) (pcs : List Nat) : Nat → List Instr → List Nat → Bool
  | _, [], _ => true
  | _, _ :: _, [] => false
  | i, mi :: l, pc :: ps => (match decode bytes pc with
    | .ok (o, len) => zmt y nL pcs i pc o len mi
    | _ => false) && zckl y bytes nL pcs (i + 1) l ps
def zckm (m : Nat) : Bool := decide ((gTb m).2.1 = zrk (gMe m).2.2.2) && decide ((gTb m).2.2 = (gMe m).2.2.1) && decide ((gMe m).2.2.1 ≤ 13) && plainName (gMe m).1.cls && decide (zat (gPc m) 0 = some 0) && decide ((gPc m).length = (gTb m).1.length) && zckl (gMe m).1 (gMe m).2.1 (gMe m).2.2.1 (gPc m) 0 (gTb m).1 (gPc m)
end
section
theorem g_inX0 : ∀ w ∈ u_ws RX0 TX0 5, zwd w = true := by decide +kernel
theorem g_inX1 : ∀ w ∈ u_ws RX1 TX1 2, zwd w = true := by decide +kernel
theorem g_inX3 : ∀ w ∈ u_ws RX3 TX3 11, zwd w = true := by decide +kernel
theorem g_inX5 : ∀ w ∈ u_ws RX5 TX5 1, zwd w = true := by decide +kernel
theorem g_inX6 : ∀ w ∈ u_ws RX6 TX6 5, zwd w = true := by decide +kernel
theorem g_inX7 : ∀ w ∈ u_ws RX7 TX7 14, zwd w = true := by decide +kernel
theorem g_inX8 : ∀ w ∈ u_ws RX8 TX8 28, zwd w = true := by decide +kernel
theorem gcl_ok (ci : Nat) (r : vw_C) (h : gCl[ci]? = some r) : (∀ w ∈ u_ws r.1 r.2.1 r.2.2, w ∈ gTB) ∧ (∀ k, k < r.2.2 → parseFieldDescriptor (r.2.1 k).2.2.1 = some (gTy ci k)) ∧ ∀ a, a < r.2.2 → ∀ b, b < r.2.2 → a ≠ b → (r.2.1 a).2.1 ≠ (r.2.1 b).2.1 := by
  match ci, h with
  | 0, h => cases h; exact ⟨fun w hw => zwd_in (g_inX0 w hw), tyX0_ok, nmX0⟩
  | 1, h => cases h; exact ⟨fun w hw => zwd_in (g_inX1 w hw), tyX1_ok, nmX1⟩
  | 2, h => cases h; exact ⟨fun w hw => zwd_in (g_inX3 w hw), tyX3_ok, nmX3⟩
  | 3, h => cases h; exact ⟨fun w hw => zwd_in (g_inX5 w hw), tyX5_ok, nmX5⟩
  | 4, h => cases h; exact ⟨fun w hw => zwd_in (g_inX6 w hw), tyX6_ok, nmX6⟩
  | 5, h => cases h; exact ⟨fun w hw => zwd_in (g_inX7 w hw), tyX7_ok, nmX7⟩
  | 6, h => cases h; exact ⟨fun w hw => zwd_in (g_inX8 w hw), tyX8_ok, nmX8⟩
  | k + 7, h => simp [gCl] at h
theorem g_inst (k : Nat) (h : k < gCl.length) : ∃ n, Cond.instantiable (gCl[k]).1 n ∈ lw_tbl := by
  have h : k < 7 := h
  match k, h with
  | 0, _ => exact ⟨5, (by decide +kernel : Cond.instantiable RX0 5 ∈ lw_tbl)⟩
  | 1, _ => exact ⟨2, (by decide +kernel : Cond.instantiable RX1 2 ∈ lw_tbl)⟩
  | 2, _ => exact ⟨11, (by decide +kernel : Cond.instantiable RX3 11 ∈ lw_tbl)⟩
  | 3, _ => exact ⟨1, (by decide +kernel : Cond.instantiable RX5 1 ∈ lw_tbl)⟩
  | 4, _ => exact ⟨5, (by decide +kernel : Cond.instantiable RX6 5 ∈ lw_tbl)⟩
  | 5, _ => exact ⟨14, (by decide +kernel : Cond.instantiable RX7 14 ∈ lw_tbl)⟩
  | 6, _ => exact ⟨28, (by decide +kernel : Cond.instantiable RX8 28 ∈ lw_tbl)⟩
  | k + 7, h => exact absurd h (by omega)
end
section
set_option maxRecDepth 100000 in
theorem zck_X0_init : zckm nX0_init = true := by decide +kernel
set_option maxRecDepth 100000 in
theorem zck_X0_allow : zckm nX0_allow = true := by decide +kernel
set_option maxRecDepth 100000 in
theorem zck_X0_makeReady : zckm nX0_makeReady = true := by decide +kernel
set_option maxRecDepth 100000 in
theorem zck_X0_run : zckm nX0_run = true := by decide +kernel
set_option maxRecDepth 100000 in
theorem zck_X0_firstDivisor : zckm nX0_firstDivisor = true := by decide +kernel
set_option maxRecDepth 100000 in
theorem zck_X1_init : zckm nX1_init = true := by decide +kernel
set_option maxRecDepth 100000 in
theorem zck_X1_leading : zckm nX1_leading = true := by decide +kernel
set_option maxRecDepth 100000 in
theorem zck_X1_makeMonic : zckm nX1_makeMonic = true := by decide +kernel
set_option maxRecDepth 100000 in
theorem zck_X2_over : zckm nX2_over = true := by decide +kernel
set_option maxRecDepth 100000 in
theorem zck_X2_under : zckm nX2_under = true := by decide +kernel
set_option maxRecDepth 100000 in
theorem zck_X2_lowest : zckm nX2_lowest = true := by decide +kernel
set_option maxRecDepth 100000 in
theorem zck_X2_sum : zckm nX2_sum = true := by decide +kernel
set_option maxRecDepth 100000 in
theorem zck_X2_product : zckm nX2_product = true := by decide +kernel
set_option maxRecDepth 100000 in
theorem zck_X2_negative : zckm nX2_negative = true := by decide +kernel
set_option maxRecDepth 100000 in
theorem zck_X2_inverse : zckm nX2_inverse = true := by decide +kernel
set_option maxRecDepth 100000 in
theorem zck_X3_init : zckm nX3_init = true := by decide +kernel
set_option maxRecDepth 100000 in
theorem zck_X3_build : zckm nX3_build = true := by decide +kernel
set_option maxRecDepth 100000 in
theorem zck_X3_begin : zckm nX3_begin = true := by decide +kernel
set_option maxRecDepth 100000 in
theorem zck_X3_adopt : zckm nX3_adopt = true := by decide +kernel
set_option maxRecDepth 100000 in
theorem zck_X3_add : zckm nX3_add = true := by decide +kernel
set_option maxRecDepth 100000 in
theorem zck_X3_choosePair : zckm nX3_choosePair = true := by decide +kernel
set_option maxRecDepth 100000 in
theorem zck_X3_settlePair : zckm nX3_settlePair = true := by decide +kernel
set_option maxRecDepth 100000 in
theorem zck_X3_isNeedless : zckm nX3_isNeedless = true := by decide +kernel
set_option maxRecDepth 100000 in
theorem zck_X3_isWaiting : zckm nX3_isWaiting = true := by decide +kernel
set_option maxRecDepth 100000 in
theorem zck_X3_crossOut : zckm nX3_crossOut = true := by decide +kernel
end
section
set_option maxRecDepth 100000 in
theorem zck_X3_takeQuotients : zckm nX3_takeQuotients = true := by decide +kernel
set_option maxRecDepth 100000 in
theorem zck_X3_dropNeedless : zckm nX3_dropNeedless = true := by decide +kernel
set_option maxRecDepth 100000 in
theorem zck_X3_isCovered : zckm nX3_isCovered = true := by decide +kernel
set_option maxRecDepth 100000 in
theorem zck_X3_sortElements : zckm nX3_sortElements = true := by decide +kernel
set_option maxRecDepth 100000 in
theorem zck_X3_reduceElement : zckm nX3_reduceElement = true := by decide +kernel
set_option maxRecDepth 100000 in
theorem zck_X3_isWhole : zckm nX3_isWhole = true := by decide +kernel
set_option maxRecDepth 100000 in
theorem zck_X3_countBelow : zckm nX3_countBelow = true := by decide +kernel
set_option maxRecDepth 100000 in
theorem zck_X3_wall : zckm nX3_wall = true := by decide +kernel
set_option maxRecDepth 100000 in
theorem zck_X3_height : zckm nX3_height = true := by decide +kernel
set_option maxRecDepth 100000 in
theorem zck_X4_exponent : zckm nX4_exponent = true := by decide +kernel
set_option maxRecDepth 100000 in
theorem zck_X4_single : zckm nX4_single = true := by decide +kernel
set_option maxRecDepth 100000 in
theorem zck_X4_isInside : zckm nX4_isInside = true := by decide +kernel
set_option maxRecDepth 100000 in
theorem zck_X4_divides : zckm nX4_divides = true := by decide +kernel
set_option maxRecDepth 100000 in
theorem zck_X4_leastCommon : zckm nX4_leastCommon = true := by decide +kernel
set_option maxRecDepth 100000 in
theorem zck_X4_haveVariableInCommon : zckm nX4_haveVariableInCommon = true := by decide +kernel
set_option maxRecDepth 100000 in
theorem zck_X5_init : zckm nX5_init = true := by decide +kernel
set_option maxRecDepth 100000 in
theorem zck_X5_rank : zckm nX5_rank = true := by decide +kernel
set_option maxRecDepth 100000 in
theorem zck_X6_init : zckm nX6_init = true := by decide +kernel
set_option maxRecDepth 100000 in
theorem zck_X6_empty : zckm nX6_empty = true := by decide +kernel
set_option maxRecDepth 100000 in
theorem zck_X6_become : zckm nX6_become = true := by decide +kernel
set_option maxRecDepth 100000 in
theorem zck_X6_isLike : zckm nX6_isLike = true := by decide +kernel
set_option maxRecDepth 100000 in
theorem zck_X6_isWithout : zckm nX6_isWithout = true := by decide +kernel
set_option maxRecDepth 100000 in
theorem zck_X6_come : zckm nX6_come = true := by decide +kernel
set_option maxRecDepth 100000 in
theorem zck_X6_find : zckm nX6_find = true := by decide +kernel
end
section
set_option maxRecDepth 100000 in
theorem zck_X6_shift : zckm nX6_shift = true := by decide +kernel
set_option maxRecDepth 100000 in
theorem zck_X6_behead : zckm nX6_behead = true := by decide +kernel
set_option maxRecDepth 100000 in
theorem zck_X6_addMultiple : zckm nX6_addMultiple = true := by decide +kernel
set_option maxRecDepth 100000 in
theorem zck_X6_addProduct : zckm nX6_addProduct = true := by decide +kernel
set_option maxRecDepth 100000 in
theorem zck_X6_becomeProduct : zckm nX6_becomeProduct = true := by decide +kernel
set_option maxRecDepth 100000 in
theorem zck_X6_multiply : zckm nX6_multiply = true := by decide +kernel
set_option maxRecDepth 100000 in
theorem zck_X6_arrange : zckm nX6_arrange = true := by decide +kernel
set_option maxRecDepth 100000 in
theorem zck_X6_valueAt : zckm nX6_valueAt = true := by decide +kernel
set_option maxRecDepth 100000 in
theorem zck_X6_termAt : zckm nX6_termAt = true := by decide +kernel
set_option maxRecDepth 100000 in
theorem zck_X7_init : zckm nX7_init = true := by decide +kernel
set_option maxRecDepth 100000 in
theorem zck_X7_variables : zckm nX7_variables = true := by decide +kernel
set_option maxRecDepth 100000 in
theorem zck_X7_order : zckm nX7_order = true := by decide +kernel
set_option maxRecDepth 100000 in
theorem zck_X7_term : zckm nX7_term = true := by decide +kernel
set_option maxRecDepth 100000 in
theorem zck_X7_zero : zckm nX7_zero = true := by decide +kernel
set_option maxRecDepth 100000 in
theorem zck_X7_size : zckm nX7_size = true := by decide +kernel
set_option maxRecDepth 100000 in
theorem zck_X7_told : zckm nX7_told = true := by decide +kernel
set_option maxRecDepth 100000 in
theorem zck_X7_plus : zckm nX7_plus = true := by decide +kernel
set_option maxRecDepth 100000 in
theorem zck_X7_times : zckm nX7_times = true := by decide +kernel
set_option maxRecDepth 100000 in
theorem zck_X7_same : zckm nX7_same = true := by decide +kernel
set_option maxRecDepth 100000 in
theorem zck_X7_vanishes : zckm nX7_vanishes = true := by decide +kernel
set_option maxRecDepth 100000 in
theorem zck_X7_generator : zckm nX7_generator = true := by decide +kernel
set_option maxRecDepth 100000 in
theorem zck_X7_clear : zckm nX7_clear = true := by decide +kernel
set_option maxRecDepth 100000 in
theorem zck_X7_basis : zckm nX7_basis = true := by decide +kernel
set_option maxRecDepth 100000 in
theorem zck_X7_done : zckm nX7_done = true := by decide +kernel
end
section
set_option maxRecDepth 100000 in
theorem zck_X7_element : zckm nX7_element = true := by decide +kernel
set_option maxRecDepth 100000 in
theorem zck_X7_share : zckm nX7_share = true := by decide +kernel
set_option maxRecDepth 100000 in
theorem zck_X7_divide : zckm nX7_divide = true := by decide +kernel
set_option maxRecDepth 100000 in
theorem zck_X7_certificate : zckm nX7_certificate = true := by decide +kernel
set_option maxRecDepth 100000 in
theorem zck_X7_check : zckm nX7_check = true := by decide +kernel
set_option maxRecDepth 100000 in
theorem zck_X7_radical : zckm nX7_radical = true := by decide +kernel
set_option maxRecDepth 100000 in
theorem zck_X7_free : zckm nX7_free = true := by decide +kernel
set_option maxRecDepth 100000 in
theorem zck_X7_stairs : zckm nX7_stairs = true := by decide +kernel
set_option maxRecDepth 100000 in
theorem zck_X7_row : zckm nX7_row = true := by decide +kernel
set_option maxRecDepth 100000 in
theorem zck_X7_isPlace : zckm nX7_isPlace = true := by decide +kernel
set_option maxRecDepth 100000 in
theorem zck_X7_isLarge : zckm nX7_isLarge = true := by decide +kernel
set_option maxRecDepth 100000 in
theorem zck_X7_isTold : zckm nX7_isTold = true := by decide +kernel
set_option maxRecDepth 100000 in
theorem zck_X7_isElement : zckm nX7_isElement = true := by decide +kernel
set_option maxRecDepth 100000 in
theorem zck_X7_isGenerator : zckm nX7_isGenerator = true := by decide +kernel
set_option maxRecDepth 100000 in
theorem zck_X7_put : zckm nX7_put = true := by decide +kernel
set_option maxRecDepth 100000 in
theorem zck_X7_forgetBasis : zckm nX7_forgetBasis = true := by decide +kernel
set_option maxRecDepth 100000 in
theorem zck_X7_sumUp : zckm nX7_sumUp = true := by decide +kernel
set_option maxRecDepth 100000 in
theorem zck_X8_init : zckm nX8_init = true := by decide +kernel
set_option maxRecDepth 100000 in
theorem zck_X8_variables : zckm nX8_variables = true := by decide +kernel
set_option maxRecDepth 100000 in
theorem zck_X8_exponent : zckm nX8_exponent = true := by decide +kernel
set_option maxRecDepth 100000 in
theorem zck_X8_sum : zckm nX8_sum = true := by decide +kernel
set_option maxRecDepth 100000 in
theorem zck_X8_compare : zckm nX8_compare = true := by decide +kernel
set_option maxRecDepth 100000 in
theorem zck_X8_divides : zckm nX8_divides = true := by decide +kernel
set_option maxRecDepth 100000 in
theorem zck_X8_common : zckm nX8_common = true := by decide +kernel
set_option maxRecDepth 100000 in
theorem zck_X8_product : zckm nX8_product = true := by decide +kernel
set_option maxRecDepth 100000 in
theorem zck_X8_lowest : zckm nX8_lowest = true := by decide +kernel
end
section
set_option maxRecDepth 100000 in
theorem zck_X8_multiplied : zckm nX8_multiplied = true := by decide +kernel
set_option maxRecDepth 100000 in
theorem zck_X8_copy : zckm nX8_copy = true := by decide +kernel
set_option maxRecDepth 100000 in
theorem zck_X8_lead : zckm nX8_lead = true := by decide +kernel
set_option maxRecDepth 100000 in
theorem zck_X8_comes : zckm nX8_comes = true := by decide +kernel
set_option maxRecDepth 100000 in
theorem zck_X8_adds : zckm nX8_adds = true := by decide +kernel
set_option maxRecDepth 100000 in
theorem zck_X8_made : zckm nX8_made = true := by decide +kernel
set_option maxRecDepth 100000 in
theorem zck_X8_isSame : zckm nX8_isSame = true := by decide +kernel
set_option maxRecDepth 100000 in
theorem zck_X8_sorted : zckm nX8_sorted = true := by decide +kernel
set_option maxRecDepth 100000 in
theorem zck_X8_order : zckm nX8_order = true := by decide +kernel
set_option maxRecDepth 100000 in
theorem zck_X8_isPlace : zckm nX8_isPlace = true := by decide +kernel
set_option maxRecDepth 100000 in
theorem zck_X8_term : zckm nX8_term = true := by decide +kernel
set_option maxRecDepth 100000 in
theorem zck_X8_taken : zckm nX8_taken = true := by decide +kernel
set_option maxRecDepth 100000 in
theorem zck_X8_zero : zckm nX8_zero = true := by decide +kernel
end
section
set_option maxRecDepth 100000 in
theorem zck_X8_size : zckm nX8_size = true := by decide +kernel
set_option maxRecDepth 100000 in
theorem zck_X8_told : zckm nX8_told = true := by decide +kernel
set_option maxRecDepth 100000 in
theorem zck_X8_plus : zckm nX8_plus = true := by decide +kernel
set_option maxRecDepth 100000 in
theorem zck_X8_times : zckm nX8_times = true := by decide +kernel
set_option maxRecDepth 100000 in
theorem zck_X8_same : zckm nX8_same = true := by decide +kernel
set_option maxRecDepth 100000 in
theorem zck_X8_vanishes : zckm nX8_vanishes = true := by decide +kernel
set_option maxRecDepth 100000 in
theorem zck_X8_divided : zckm nX8_divided = true := by decide +kernel
set_option maxRecDepth 100000 in
theorem zck_X8_cofactor : zckm nX8_cofactor = true := by decide +kernel
set_option maxRecDepth 100000 in
theorem zck_X8_lessShares : zckm nX8_lessShares = true := by decide +kernel
set_option maxRecDepth 100000 in
theorem zck_X8_scaled : zckm nX8_scaled = true := by decide +kernel
set_option maxRecDepth 100000 in
theorem zck_X8_monic : zckm nX8_monic = true := by decide +kernel
set_option maxRecDepth 100000 in
theorem zck_X8_isWaiting : zckm nX8_isWaiting = true := by decide +kernel
set_option maxRecDepth 100000 in
theorem zck_X8_addPairs : zckm nX8_addPairs = true := by decide +kernel
set_option maxRecDepth 100000 in
theorem zck_X8_isPassed : zckm nX8_isPassed = true := by decide +kernel
end
section
set_option maxRecDepth 100000 in
theorem zck_X8_make : zckm nX8_make = true := by decide +kernel
set_option maxRecDepth 100000 in
theorem zck_X8_onePair : zckm nX8_onePair = true := by decide +kernel
set_option maxRecDepth 100000 in
theorem zck_X8_clean : zckm nX8_clean = true := by decide +kernel
set_option maxRecDepth 100000 in
theorem zck_X8_move : zckm nX8_move = true := by decide +kernel
set_option maxRecDepth 100000 in
theorem zck_X8_reduce : zckm nX8_reduce = true := by decide +kernel
set_option maxRecDepth 100000 in
theorem zck_X8_generator : zckm nX8_generator = true := by decide +kernel
set_option maxRecDepth 100000 in
theorem zck_X8_clear : zckm nX8_clear = true := by decide +kernel
set_option maxRecDepth 100000 in
theorem zck_X8_basis : zckm nX8_basis = true := by decide +kernel
end
section
set_option maxRecDepth 100000 in
theorem zck_X8_done : zckm nX8_done = true := by decide +kernel
set_option maxRecDepth 100000 in
theorem zck_X8_element : zckm nX8_element = true := by decide +kernel
set_option maxRecDepth 100000 in
theorem zck_X8_share : zckm nX8_share = true := by decide +kernel
set_option maxRecDepth 100000 in
theorem zck_X8_own : zckm nX8_own = true := by decide +kernel
set_option maxRecDepth 100000 in
theorem zck_X8_divide : zckm nX8_divide = true := by decide +kernel
set_option maxRecDepth 100000 in
theorem zck_X8_certificate : zckm nX8_certificate = true := by decide +kernel
set_option maxRecDepth 100000 in
theorem zck_X8_check : zckm nX8_check = true := by decide +kernel
set_option maxRecDepth 100000 in
theorem zck_X8_radical : zckm nX8_radical = true := by decide +kernel
set_option maxRecDepth 100000 in
theorem zck_X8_free : zckm nX8_free = true := by decide +kernel
set_option maxRecDepth 100000 in
theorem zck_X8_stairs : zckm nX8_stairs = true := by decide +kernel
set_option maxRecDepth 100000 in
theorem zck_X8_isStair : zckm nX8_isStair = true := by decide +kernel
set_option maxRecDepth 100000 in
theorem zck_L_cell : zckm nL_cell = true := by decide +kernel
set_option maxRecDepth 100000 in
theorem zck_L_law : zckm nL_law = true := by decide +kernel
end
section
theorem zck (m : Nat) (h : m < gMeL.length) : zckm m = true := by
  have h : m < 147 := h
  match m, h with
  | 0, _ => exact zck_X0_init
  | 1, _ => exact zck_X0_allow
  | 2, _ => exact zck_X0_makeReady
  | 3, _ => exact zck_X0_run
  | 4, _ => exact zck_X0_firstDivisor
  | 5, _ => exact zck_X1_init
  | 6, _ => exact zck_X1_leading
  | 7, _ => exact zck_X1_makeMonic
  | 8, _ => exact zck_X2_over
  | 9, _ => exact zck_X2_under
  | 10, _ => exact zck_X2_lowest
  | 11, _ => exact zck_X2_sum
  | 12, _ => exact zck_X2_product
  | 13, _ => exact zck_X2_negative
  | 14, _ => exact zck_X2_inverse
  | 15, _ => exact zck_X3_init
  | 16, _ => exact zck_X3_build
  | 17, _ => exact zck_X3_begin
  | 18, _ => exact zck_X3_adopt
  | 19, _ => exact zck_X3_add
  | 20, _ => exact zck_X3_choosePair
  | 21, _ => exact zck_X3_settlePair
  | 22, _ => exact zck_X3_isNeedless
  | 23, _ => exact zck_X3_isWaiting
  | 24, _ => exact zck_X3_crossOut
  | 25, _ => exact zck_X3_takeQuotients
  | 26, _ => exact zck_X3_dropNeedless
  | 27, _ => exact zck_X3_isCovered
  | 28, _ => exact zck_X3_sortElements
  | 29, _ => exact zck_X3_reduceElement
  | 30, _ => exact zck_X3_isWhole
  | 31, _ => exact zck_X3_countBelow
  | 32, _ => exact zck_X3_wall
  | 33, _ => exact zck_X3_height
  | 34, _ => exact zck_X4_exponent
  | 35, _ => exact zck_X4_single
  | 36, _ => exact zck_X4_isInside
  | 37, _ => exact zck_X4_divides
  | 38, _ => exact zck_X4_leastCommon
  | 39, _ => exact zck_X4_haveVariableInCommon
  | 40, _ => exact zck_X5_init
  | 41, _ => exact zck_X5_rank
  | 42, _ => exact zck_X6_init
  | 43, _ => exact zck_X6_empty
  | 44, _ => exact zck_X6_become
  | 45, _ => exact zck_X6_isLike
  | 46, _ => exact zck_X6_isWithout
  | 47, _ => exact zck_X6_come
  | 48, _ => exact zck_X6_find
  | 49, _ => exact zck_X6_shift
  | 50, _ => exact zck_X6_behead
  | 51, _ => exact zck_X6_addMultiple
  | 52, _ => exact zck_X6_addProduct
  | 53, _ => exact zck_X6_becomeProduct
  | 54, _ => exact zck_X6_multiply
  | 55, _ => exact zck_X6_arrange
  | 56, _ => exact zck_X6_valueAt
  | 57, _ => exact zck_X6_termAt
  | 58, _ => exact zck_X7_init
  | 59, _ => exact zck_X7_variables
  | 60, _ => exact zck_X7_order
  | 61, _ => exact zck_X7_term
  | 62, _ => exact zck_X7_zero
  | 63, _ => exact zck_X7_size
  | 64, _ => exact zck_X7_told
  | 65, _ => exact zck_X7_plus
  | 66, _ => exact zck_X7_times
  | 67, _ => exact zck_X7_same
  | 68, _ => exact zck_X7_vanishes
  | 69, _ => exact zck_X7_generator
  | 70, _ => exact zck_X7_clear
  | 71, _ => exact zck_X7_basis
  | 72, _ => exact zck_X7_done
  | 73, _ => exact zck_X7_element
  | 74, _ => exact zck_X7_share
  | 75, _ => exact zck_X7_divide
  | 76, _ => exact zck_X7_certificate
  | 77, _ => exact zck_X7_check
  | 78, _ => exact zck_X7_radical
  | 79, _ => exact zck_X7_free
  | 80, _ => exact zck_X7_stairs
  | 81, _ => exact zck_X7_row
  | 82, _ => exact zck_X7_isPlace
  | 83, _ => exact zck_X7_isLarge
  | 84, _ => exact zck_X7_isTold
  | 85, _ => exact zck_X7_isElement
  | 86, _ => exact zck_X7_isGenerator
  | 87, _ => exact zck_X7_put
  | 88, _ => exact zck_X7_forgetBasis
  | 89, _ => exact zck_X7_sumUp
  | 90, _ => exact zck_X8_init
  | 91, _ => exact zck_X8_variables
  | 92, _ => exact zck_X8_exponent
  | 93, _ => exact zck_X8_sum
  | 94, _ => exact zck_X8_compare
  | 95, _ => exact zck_X8_divides
  | 96, _ => exact zck_X8_common
  | 97, _ => exact zck_X8_product
  | 98, _ => exact zck_X8_lowest
  | 99, _ => exact zck_X8_multiplied
  | 100, _ => exact zck_X8_copy
  | 101, _ => exact zck_X8_lead
  | 102, _ => exact zck_X8_comes
  | 103, _ => exact zck_X8_adds
  | 104, _ => exact zck_X8_made
  | 105, _ => exact zck_X8_isSame
  | 106, _ => exact zck_X8_sorted
  | 107, _ => exact zck_X8_order
  | 108, _ => exact zck_X8_isPlace
  | 109, _ => exact zck_X8_term
  | 110, _ => exact zck_X8_taken
  | 111, _ => exact zck_X8_zero
  | 112, _ => exact zck_X8_size
  | 113, _ => exact zck_X8_told
  | 114, _ => exact zck_X8_plus
  | 115, _ => exact zck_X8_times
  | 116, _ => exact zck_X8_same
  | 117, _ => exact zck_X8_vanishes
  | 118, _ => exact zck_X8_divided
  | 119, _ => exact zck_X8_cofactor
  | 120, _ => exact zck_X8_lessShares
  | 121, _ => exact zck_X8_scaled
  | 122, _ => exact zck_X8_monic
  | 123, _ => exact zck_X8_isWaiting
  | 124, _ => exact zck_X8_addPairs
  | 125, _ => exact zck_X8_isPassed
  | 126, _ => exact zck_X8_make
  | 127, _ => exact zck_X8_onePair
  | 128, _ => exact zck_X8_clean
  | 129, _ => exact zck_X8_move
  | 130, _ => exact zck_X8_reduce
  | 131, _ => exact zck_X8_generator
  | 132, _ => exact zck_X8_clear
  | 133, _ => exact zck_X8_basis
  | 134, _ => exact zck_X8_done
  | 135, _ => exact zck_X8_element
  | 136, _ => exact zck_X8_share
  | 137, _ => exact zck_X8_own
  | 138, _ => exact zck_X8_divide
  | 139, _ => exact zck_X8_certificate
  | 140, _ => exact zck_X8_check
  | 141, _ => exact zck_X8_radical
  | 142, _ => exact zck_X8_free
  | 143, _ => exact zck_X8_stairs
  | 144, _ => exact zck_X8_isStair
  | 145, _ => exact zck_L_cell
  | 146, _ => exact zck_L_law
  | k + 147, h => exact absurd h (by omega)
end
section
/-! WHAT THE SMALL MACHINE'S MEMORY IS IN THE HEAP -/
def zro (ad : Nat → Nat) (x : Nat) : Option Nat := if x = 0 then none else some (ad x)
def zV (ad : Nat → Nat) : Value → Value
  | .ref x => va_rf (zro ad x)
  | v => v
def zfs (fk : Nat → List Nat) (ad : Nat → Nat) (M : zM) (a ci : Nat) : List Value := (List.range (fk ci).length).map fun k => cond ((fk ci).getD k 0 == 2) (va_rf (zro ad (zR M a k))) (.int (zI M a k))
def zar (ad : Nat → Nat) (M : zM) (a kd : Nat) : vp_A := ((zsh M a).2, cond (kd == 3) (.inr (.inl (zL M a))) (cond (Nat.ble 5 kd) (.inr (.inr (.inr (.inr fun j => zro ad (zR M a j))))) (.inl (zI M a))))
def zE (fk : Nat → List Nat) (cO : Nat → ClassId) (ad : Nat → Nat) (M : zM) (a : Nat) : va_E := cond (Nat.ble 10 (zsh M a).1) (.inr ((zsh M a).1 - 10, zfs fk ad M a ((zsh M a).1 - 10))) (.inl (cO (zsh M a).1, zar ad M a (zsh M a).1))
def zws (fk : Nat → List Nat) (cO : Nat → ClassId) (ad : Nat → Nat) (M : zM) : va_W := (List.range (zn M - 2)).map fun i => (ad (i + 2), zE fk cO ad M (i + 2))
def zinv (M : zM) : Prop := 2 ≤ zn M ∧ (∀ a, a < 2 ∨ zn M ≤ a → (zsh M a).1 < 2) ∧ ∀ a k, zR M a k < zn M
def zscr (L : Nat) (xs : Nat → Int32) (M : zM) : Prop := zsh M 1 = (1, L) ∧ ∀ j, zI M 1 j = xs j
def zval (n : Nat) : Value → Prop
  | .ref x => x < n
  | _ => True
def zlv (ad : Nat → Nat) (ls : Array Slot) (nL : Nat) (lv : zLv) : Prop := ls.size = nL ∧ lv_wf ls ∧ ∀ j v, zat lv j = some (some v) → ls[j]? = some (.val (zV ad v))
theorem zin_ids {M : zM} (h : zinv M) {a : Nat} (hk : 2 ≤ (zsh M a).1) : 2 ≤ a ∧ a < zn M := by
  refine ⟨Nat.le_of_not_lt fun q => ?_, Nat.lt_of_not_le fun q => ?_⟩
  · have := h.2.1 a (Or.inl q); omega
  · have := h.2.1 a (Or.inr q); omega
theorem zws_get {fk : Nat → List Nat} {cO : Nat → ClassId} {ad : Nat → Nat} {M : zM} {a : Nat} (h : 2 ≤ a ∧ a < zn M) : (zws fk cO ad M)[a - 2]? = some (ad a, zE fk cO ad M a) := by
  unfold zws
  rw [List.getElem?_map, List.getElem?_range (by omega)]
  show some (ad (a - 2 + 2), zE fk cO ad M (a - 2 + 2)) = _
  rw [show a - 2 + 2 = a by omega]
theorem zws_mem {fk : Nat → List Nat} {cO : Nat → ClassId} {ad : Nat → Nat} {M : zM} {k : Nat} {q : Nat × va_E} (h : (zws fk cO ad M)[k]? = some q) : k + 2 < zn M ∧ q = (ad (k + 2), zE fk cO ad M (k + 2)) := by
  unfold zws at h
  rw [List.getElem?_map] at h
  by_cases hk : k < zn M - 2
  · rw [List.getElem?_range hk] at h
    exact ⟨by omega, (Option.some.inj h).symm⟩
  · rw [List.getElem?_eq_none (by rw [List.length_range]; omega)] at h
    cases h
theorem zws_upd {fk : Nat → List Nat} {cO : Nat → ClassId} {ad : Nat → Nat} {M M' : zM} {a : Nat} (h : 2 ≤ a ∧ a < zn M) (hn : zn M' = zn M) (ho : ∀ x, x ≠ a → zE fk cO ad M' x = zE fk cO ad M x) : (zws fk cO ad M).set (a - 2) (ad a, zE fk cO ad M' a) = zws fk cO ad M' := by
  apply List.ext_getElem?
  intro k
  by_cases hk : k = a - 2
  · subst hk
    rw [List.getElem?_set_self (by simp [zws]; omega), zws_get (M := M') (by rw [hn]; exact h)]
  · rw [List.getElem?_set_ne (Ne.symm hk)]
    unfold zws
    rw [List.getElem?_map, List.getElem?_map, hn]
    by_cases hk2 : k < zn M - 2
    · rw [List.getElem?_range hk2]
      show some (ad (k + 2), zE fk cO ad M (k + 2)) = some (ad (k + 2), zE fk cO ad M' (k + 2))
      rw [ho (k + 2) (by omega)]
    · rw [List.getElem?_eq_none (by rw [List.length_range]; omega)]
      rfl
theorem zE_obj {fk : Nat → List Nat} {cO : Nat → ClassId} {ad : Nat → Nat} {M : zM} {a ci : Nat} (h : (zsh M a).1 = 10 + ci) : zE fk cO ad M a = .inr (ci, zfs fk ad M a ci) := by
  unfold zE
  rw [h, show Nat.ble 10 (10 + ci) = true from Nat.ble_eq_true_of_le (Nat.le_add_right _ _), Nat.add_sub_cancel_left]
  rfl
theorem zE_arr {fk : Nat → List Nat} {cO : Nat → ClassId} {ad : Nat → Nat} {M : zM} {a kd : Nat} (h : (zsh M a).1 = kd) (hk : Nat.ble 10 kd = false) : zE fk cO ad M a = .inl (cO kd, zar ad M a kd) := by
  unfold zE
  rw [h, hk]
  rfl
theorem zE_same {fk : Nat → List Nat} {cO : Nat → ClassId} {ad : Nat → Nat} {M M' : zM} {a : Nat} (h1 : zsh M' a = zsh M a) (h2 : ∀ k, zI M' a k = zI M a k) (h3 : ∀ k, zL M' a k = zL M a k) (h4 : ∀ k, zR M' a k = zR M a k) : zE fk cO ad M' a = zE fk cO ad M a := by
  have e2 : zI M' a = zI M a := funext h2
  have e3 : zL M' a = zL M a := funext h3
  have e4 : zR M' a = zR M a := funext h4
  unfold zE zfs zar
  rw [h1, e2, e3, e4]
theorem zfs_get {fk : Nat → List Nat} {ad : Nat → Nat} {M : zM} {a ci k : Nat} (hk : k < (fk ci).length) : (zfs fk ad M a ci)[k]? = some (cond ((fk ci).getD k 0 == 2) (va_rf (zro ad (zR M a k))) (.int (zI M a k))) := by
  unfold zfs
  rw [List.getElem?_map, List.getElem?_range hk]
  rfl
theorem zfs_len {fk : Nat → List Nat} {ad : Nat → Nat} {M : zM} {a ci : Nat} : (zfs fk ad M a ci).length = (fk ci).length := by simp [zfs]
theorem zfs_uI {fk : Nat → List Nat} {ad : Nat → Nat} {M : zM} {a ci k : Nat} {v : Int32} (hk : ((fk ci).getD k 0 == 2) = false) : (zfs fk ad M a ci).set k (.int v) = zfs fk ad (zuI M a k v) a ci := by
  apply List.ext_getElem?
  intro j
  by_cases hj : j = k
  · subst hj
    by_cases hl : j < (fk ci).length
    · rw [List.getElem?_set_self (by rw [zfs_len]; exact hl), zfs_get hl, hk]
      simp [zI, zuI]
    · rw [List.getElem?_eq_none (by rw [List.length_set, zfs_len]; omega), List.getElem?_eq_none (by rw [zfs_len]; omega)]
  · rw [List.getElem?_set_ne (Ne.symm hj)]
    by_cases hl : j < (fk ci).length
    · rw [zfs_get hl, zfs_get hl]
      simp [zI, zuI, zR, hj]
    · rw [List.getElem?_eq_none (by rw [zfs_len]; omega), List.getElem?_eq_none (by rw [zfs_len]; omega)]
theorem zfs_uR {fk : Nat → List Nat} {ad : Nat → Nat} {M : zM} {a ci k : Nat} {v : Nat} (hk : ((fk ci).getD k 0 == 2) = true) : (zfs fk ad M a ci).set k (va_rf (zro ad v)) = zfs fk ad (zuR M a k v) a ci := by
  apply List.ext_getElem?
  intro j
  by_cases hj : j = k
  · subst hj
    by_cases hl : j < (fk ci).length
    · rw [List.getElem?_set_self (by rw [zfs_len]; exact hl), zfs_get hl, hk]
      simp [zR, zuR]
    · rw [List.getElem?_eq_none (by rw [List.length_set, zfs_len]; omega), List.getElem?_eq_none (by rw [zfs_len]; omega)]
  · rw [List.getElem?_set_ne (Ne.symm hj)]
    by_cases hl : j < (fk ci).length
    · rw [zfs_get hl, zfs_get hl]
      simp [zI, zuR, zR, hj]
    · rw [List.getElem?_eq_none (by rw [zfs_len]; omega), List.getElem?_eq_none (by rw [zfs_len]; omega)]
/-- other addresses for new rows change nothing of the old ones -/
theorem zro_ad {ad ad' : Nat → Nat} {n x : Nat} (h : ∀ x, x < n → ad' x = ad x) (hx : x < n) : zro ad' x = zro ad x := by
  unfold zro
  rw [h x hx]
theorem zV_ad {ad ad' : Nat → Nat} {n : Nat} {v : Value} (h : ∀ x, x < n → ad' x = ad x) (hx : zval n v) : zV ad' v = zV ad v := by
  cases v with
  | ref x => show va_rf (zro ad' x) = va_rf (zro ad x); rw [zro_ad h hx]
  | _ => rfl
theorem zVs_ad {ad ad' : Nat → Nat} {n : Nat} (h : ∀ x, x < n → ad' x = ad x) : ∀ (st : List Value), (∀ v ∈ st, zval n v) → st.map (zV ad') = st.map (zV ad)
  | [], _ => rfl
  | v :: st, hv => by
    rw [List.map_cons, List.map_cons, zV_ad h (hv v List.mem_cons_self), zVs_ad h st fun w hw => hv w (List.mem_cons_of_mem _ hw)]
theorem zE_ad {fk : Nat → List Nat} {cO : Nat → ClassId} {ad ad' : Nat → Nat} {M : zM} (hi : zinv M) (h : ∀ x, x < zn M → ad' x = ad x) (a : Nat) : zE fk cO ad' M a = zE fk cO ad M a := by
  have e : ∀ k, zro ad' (zR M a k) = zro ad (zR M a k) := fun k => zro_ad h (hi.2.2 a k)
  unfold zE zfs zar
  simp only [e]
theorem zws_al {fk : Nat → List Nat} {cO : Nat → ClassId} {ad ad' : Nat → Nat} {M : zM} {sh : Nat × Nat} {w q : Nat} (hi : zinv M) (h : ∀ x, x < zn M → ad' x = ad x) (hq : ad' (zn M) = q) : zws fk cO ad' (zal M sh w) = zws fk cO ad M ++ [(q, zE fk cO ad' (zal M sh w) (zn M))] := by
  have hn : zn (zal M sh w) = zn M + 1 := rfl
  have h2 := hi.1
  have old : ∀ i, i < zn M → zE fk cO ad' (zal M sh w) i = zE fk cO ad M i := fun i hi' => by
    rw [← zE_ad hi h i]
    have hne : i ≠ M.2.1 := Nat.ne_of_lt hi'
    exact zE_same (by simp [zsh, zal, hne]) (fun k => by simp [zI, zal, hne]) (fun k => by simp [zL, zal, hne]) (fun k => by simp [zR, zal, hne])
  unfold zws
  rw [hn, show zn M + 1 - 2 = (zn M - 2) + 1 by omega, List.range_succ, List.map_append]
  congr 1
  · apply List.map_congr_left
    intro i hi'
    rw [List.mem_range] at hi'
    rw [h (i + 2) (by omega), old (i + 2) (by omega)]
  · rw [List.map_singleton, show zn M - 2 + 2 = zn M by omega, hq]
theorem zinv_al {M : zM} {sh : Nat × Nat} {w : Nat} (h : zinv M) : zinv (zal M sh w) := by
  have hn : zn (zal M sh w) = zn M + 1 := rfl
  refine ⟨by rw [hn]; have := h.1; omega, fun a ha => ?_, fun a k => ?_⟩
  · have h2 := h.1
    have hne : a ≠ M.2.1 := by
      have : zn M = M.2.1 := rfl
      rcases ha with ha | ha
      · omega
      · rw [hn] at ha; omega
    have : zsh (zal M sh w) a = zsh M a := by simp [zsh, zal, hne]
    rw [this]
    refine h.2.1 a ?_
    rcases ha with ha | ha
    · exact Or.inl ha
    · rw [hn] at ha; exact Or.inr (by omega)
  · rw [hn]
    by_cases ha : a = M.2.1
    · have : zR (zal M sh w) a k = 0 := by simp [zR, zal, ha]
      rw [this]; omega
    · have : zR (zal M sh w) a k = zR M a k := by simp [zR, zal, ha]
      rw [this]; have := h.2.2 a k; omega
theorem zinv_uI {M : zM} {a k : Nat} {v : Int32} (h : zinv M) : zinv (zuI M a k v) := h
theorem zinv_uL {M : zM} {a k : Nat} {v : Int64} (h : zinv M) : zinv (zuL M a k v) := h
theorem zinv_uR {M : zM} {a k : Nat} {v : Nat} (h : zinv M) (hv : v < zn M) : zinv (zuR M a k v) := by
  refine ⟨h.1, h.2.1, fun i j => ?_⟩
  by_cases c : i = a ∧ j = k
  · have : zR (zuR M a k v) i j = v := by simp [zR, zuR, c]
    rw [this]; exact hv
  · have : zR (zuR M a k v) i j = zR M i j := by simp [zR, zuR, c]
    rw [this]; exact h.2.2 i j
theorem zinv_cI {M : zM} {a sp b dp n : Nat} (h : zinv M) : zinv (zcI M a sp b dp n) := h
theorem zinv_cL {M : zM} {a sp b dp n : Nat} (h : zinv M) : zinv (zcL M a sp b dp n) := h
theorem zscr_uI {L : Nat} {xs : Nat → Int32} {M : zM} {a k : Nat} {v : Int32} (h : zscr L xs M) (ha : 2 ≤ a) : zscr L xs (zuI M a k v) := ⟨h.1, fun j => by
  have : zI (zuI M a k v) 1 j = zI M 1 j := by
    have : ¬ (1 = a ∧ j = k) := by omega
    simp [zI, zuI, this]
  rw [this]; exact h.2 j⟩
theorem zscr_cI {L : Nat} {xs : Nat → Int32} {M : zM} {a sp b dp n : Nat} (h : zscr L xs M) (hb : 2 ≤ b) : zscr L xs (zcI M a sp b dp n) := ⟨h.1, fun j => by
  have : zI (zcI M a sp b dp n) 1 j = zI M 1 j := by
    have : ¬ (1 = b ∧ dp ≤ j ∧ j < dp + n) := by omega
    simp [zI, zcI, this]
  rw [this]; exact h.2 j⟩
theorem zscr_al {L : Nat} {xs : Nat → Int32} {M : zM} {sh : Nat × Nat} {w : Nat} (h : zscr L xs M) (hi : zinv M) : zscr L xs (zal M sh w) := by
  have h2 : 2 ≤ M.2.1 := hi.1
  have hne : (1 : Nat) ≠ M.2.1 := by omega
  exact ⟨by have : zsh (zal M sh w) 1 = zsh M 1 := by simp [zsh, zal, hne]
            rw [this]; exact h.1, fun j => by have : zI (zal M sh w) 1 j = zI M 1 j := by simp [zI, zal, hne]
                                              rw [this]; exact h.2 j⟩
/-! locals -/
theorem zat_zset {α : Type} : ∀ (l : List α) (i j : Nat) (v : α), zat (zset l i v) j = if j = i ∧ i < l.length then some v else zat l j
  | [], i, j, v => by simp [zset, zat]
  | a :: l, 0, 0, v => by simp [zset, zat]
  | a :: l, 0, j + 1, v => by simp [zset, zat]
  | a :: l, i + 1, 0, v => by simp [zset, zat]
  | a :: l, i + 1, j + 1, v => by
    show zat (zset l i v) j = _
    rw [zat_zset l i j v]
    simp [zat]
theorem zat_zkl : ∀ (l : zLv) (i j : Nat), zat (zkl l i) j = if j + 1 = i then (zat l j).map zwipe else zat l j
  | [], i, j => by cases i <;> simp [zkl, zat]
  | a :: l, 0, j => by simp [zkl]
  | a :: l, 1, 0 => by simp [zkl, zat]
  | a :: l, 1, j + 1 => by simp [zkl, zat]
  | a :: l, i + 2, 0 => by simp [zkl, zat]
  | a :: l, i + 2, j + 1 => by
    show zat (zkl l (i + 1)) j = _
    rw [zat_zkl l (i + 1) j]
    simp [zat]
theorem zkl_len : ∀ (l : zLv) (i : Nat), (zkl l i).length = l.length
  | [], i => by cases i <;> rfl
  | a :: l, 0 => rfl
  | a :: l, 1 => rfl
  | a :: l, i + 2 => by show (zkl l (i + 1)).length + 1 = _; rw [zkl_len l (i + 1)]; rfl
theorem zset_len {α : Type} : ∀ (l : List α) (i : Nat) (v : α), (zset l i v).length = l.length
  | [], _, _ => rfl
  | _ :: _, 0, _ => rfl
  | _ :: l, i + 1, v => by show (zset l i v).length + 1 = _; rw [zset_len l i v]; rfl
def zprs (ad : Nat → Nat) (lv : zLv) : List (Nat × Value) := (List.range lv.length).filterMap fun j => match zat lv j with
  | some (some v) => some (j, zV ad v)
  | _ => none
theorem zat_lt {α : Type} : ∀ (l : List α) (j : Nat) (v : α), zat l j = some v → j < l.length
  | a :: l, 0, v, h => by simp
  | a :: l, j + 1, v, h => by have := zat_lt l j v h; simp; omega
theorem zprs_mem {ad : Nat → Nat} {lv : zLv} {q : Nat × Value} : q ∈ zprs ad lv ↔ ∃ v, zat lv q.1 = some (some v) ∧ q.2 = zV ad v := by
  obtain ⟨j, w⟩ := q
  unfold zprs
  rw [List.mem_filterMap]
  constructor
  · rintro ⟨i, hi, h⟩
    split at h
    · rename_i v hv
      cases h
      exact ⟨v, hv, rfl⟩
    · cases h
  · rintro ⟨v, hv, hw⟩
    refine ⟨j, List.mem_range.mpr (zat_lt _ _ _ hv), ?_⟩
    have hv' : zat lv j = some (some v) := hv
    rw [hv']
    simp only
    rw [show w = zV ad v from hw]
theorem zlv_has {ad : Nat → Nat} {ls : Array Slot} {nL : Nat} {lv : zLv} (h : zlv ad ls nL lv) : lv_has ls nL (zprs ad lv) := ⟨h.1, h.2.1, fun q hq => by
  obtain ⟨v, hv, hw⟩ := zprs_mem.mp hq
  rw [hw]
  exact h.2.2 q.1 v hv⟩
theorem zV_cat {ad : Nat → Nat} (v : Value) : (zV ad v).category = v.category := by
  cases v with
  | ref x =>
    show (va_rf (zro ad x)).category = _
    unfold zro
    split <;> rfl
  | _ => rfl
theorem zwipe_cat {v w : Value} (h : zwipe (some v) = some w) : w = v ∧ v.category = 1 := by
  cases v <;> simp [zwipe] at h <;> subst h <;> exact ⟨rfl, rfl⟩
theorem zlv_st1 {ad : Nat → Nat} {ls : Array Slot} {nL i : Nat} {lv : zLv} {v : Value} (h : lv_has ls nL ((i, zV ad v) :: (zprs ad lv).filter (fun q => !(q.1 == i) && !(q.1 + 1 == i && q.2.category == 2)))) : zlv ad ls nL (zst1 lv i v) := by
  refine ⟨h.1, h.2.1, fun j w hj => ?_⟩
  unfold zst1 at hj
  rw [zat_zset] at hj
  split at hj
  · rename_i hc
    cases hj
    rw [hc.1]
    exact h.2.2 (i, zV ad v) List.mem_cons_self
  · rename_i hc
    rw [zat_zkl] at hj
    by_cases hji : j = i
    · subst hji
      exfalso
      rw [if_neg (by omega)] at hj
      exact hc ⟨rfl, by rw [zkl_len]; exact zat_lt _ _ _ hj⟩
    · refine h.2.2 (j, zV ad w) (List.mem_cons_of_mem _ (List.mem_filter.mpr ⟨zprs_mem.mpr ?_, ?_⟩))
      · by_cases h1 : j + 1 = i
        · rw [if_pos h1] at hj
          cases hz : zat lv j with
          | none => rw [hz] at hj; cases hj
          | some o =>
            cases o with
            | none => rw [hz] at hj; cases hj
            | some u =>
              rw [hz] at hj
              obtain ⟨e, -⟩ := zwipe_cat (Option.some.inj hj)
              exact ⟨u, rfl, by rw [e]⟩
        · rw [if_neg h1] at hj
          exact ⟨w, hj, rfl⟩
      · have hb : (j == i) = false := by simp [hji]
        by_cases h1 : j + 1 = i
        · rw [if_pos h1] at hj
          cases hz : zat lv j with
          | none => rw [hz] at hj; cases hj
          | some o =>
            cases o with
            | none => rw [hz] at hj; cases hj
            | some u =>
              rw [hz] at hj
              obtain ⟨e, e2⟩ := zwipe_cat (Option.some.inj hj)
              simp [hb, zV_cat, e, e2]
        · simp [hb, h1]
theorem zlv_st2 {ad : Nat → Nat} {ls : Array Slot} {nL i : Nat} {lv : zLv} {v : Value} (h : lv_has ls nL ((i, zV ad v) :: (zprs ad lv).filter (fun q => !(q.1 == i) && (!(q.1 == i + 1) && !(q.1 + 1 == i && q.2.category == 2))))) : zlv ad ls nL (zst2 lv i v) := by
  refine ⟨h.1, h.2.1, fun j w hj => ?_⟩
  unfold zst2 at hj
  rw [zat_zset] at hj
  split at hj
  · cases hj
  · rename_i hc0
    rw [zat_zset] at hj
    split at hj
    · rename_i hc
      cases hj
      rw [hc.1]
      exact h.2.2 (i, zV ad v) List.mem_cons_self
    · rename_i hc
      rw [zat_zkl] at hj
      have hlt : j < lv.length := by
        split at hj
        · cases hz : zat lv j with
          | none => rw [hz] at hj; cases hj
          | some o => exact zat_lt _ _ _ hz
        · exact zat_lt _ _ _ hj
      have hji : j ≠ i := fun e => hc ⟨e, by rw [zkl_len]; omega⟩
      have hji1 : j ≠ i + 1 := fun e => hc0 ⟨e, by rw [zset_len, zkl_len]; omega⟩
      refine h.2.2 (j, zV ad w) (List.mem_cons_of_mem _ (List.mem_filter.mpr ⟨zprs_mem.mpr ?_, ?_⟩))
      · by_cases h1 : j + 1 = i
        · rw [if_pos h1] at hj
          cases hz : zat lv j with
          | none => rw [hz] at hj; cases hj
          | some o =>
            cases o with
            | none => rw [hz] at hj; cases hj
            | some u =>
              rw [hz] at hj
              obtain ⟨e, -⟩ := zwipe_cat (Option.some.inj hj)
              exact ⟨u, rfl, by rw [e]⟩
        · rw [if_neg h1] at hj
          exact ⟨w, hj, rfl⟩
      · have hb : (j == i) = false := by simp [hji]
        have hb1 : (j == i + 1) = false := by simp [hji1]
        by_cases h1 : j + 1 = i
        · rw [if_pos h1] at hj
          cases hz : zat lv j with
          | none => rw [hz] at hj; cases hj
          | some o =>
            cases o with
            | none => rw [hz] at hj; cases hj
            | some u =>
              rw [hz] at hj
              obtain ⟨e, e2⟩ := zwipe_cat (Option.some.inj hj)
              simp [hb, hb1, zV_cat, e, e2]
        · simp [hb, hb1, h1]
end
section
/-! WHAT THE SMALL MACHINE DOES, THE MACHINE DOES: an instruction a row (by wip/whole/gensound.py) -/
def zTys (cO : Nat → ClassId) : List (ClassId × FieldType) := [(cO 2, .int), (cO 3, .long), (cO 4, .boolean), (cO 5, .object (gEl 0)), (cO 6, .object (gEl 1))]
/-- what stays while a method k runs -/
def zfx (p : Program) (R : Room) (s : State) (m : MethodId) (args : Array Value) (meth : Method) (c : Code) (D : va_G) (cO : Nat → ClassId) (A : Nat → Prop) (b L : Nat) (xs : Nat → Int32) (k : Nat) : Prop :=
  p.tables.exec = Jvm.exec ∧ c.code = (gMe k).2.1 ∧ c.maxLocals = (gMe k).2.2.1 ∧ s.vm.findClass (gMe k).1.cls = some m.cls ∧ (∀ w ∈ gTB, w.before args s = true) ∧ (∀ o i y h, Cond.methodLinkNest o i y h ∈ lw_tbl → va_Nw (.methodLinkNest o i y h) s) ∧ (∀ C, Cond.arrayOver (.object C) ∈ lw_tbl → va_AO C s) ∧
  meth.sig.returnType = (gMe k).2.2.2 ∧ meth.locks = false ∧ ((gMe k).1.name = "<init>" → meth.name = "<init>") ∧ va_K D gCl (zTys cO) s ∧ va_X b L xs s s.heap ∧ b < s.heap.size ∧ ¬ A b ∧ (∀ q, s.heap.size ≤ q → A q) ∧ 1 ≤ R.frames ∧ 40 ≤ R.locals
/-- the heap, the locals and the stack hold what the small machine's memory, locals and stack say -/
def zrl (s : State) (D : va_G) (cO : Nat → ClassId) (A : Nat → Prop) (b L : Nat) (xs : Nat → Int32) (nL : Nat) (ad0 : Nat → Nat) (n0 s0 : Nat) (ad : Nat → Nat) (ls : Array Slot) (H : Heap) (locs : List Loc) (lv : zLv) (st : List Value) (M : zM) : Prop :=
  va_P D gCl (zws gFk cO ad M) H ∧ va_D A (zws gFk cO ad M) ∧ va_S A s.heap H locs ∧ zinv M ∧ zscr L xs M ∧ ad 1 = b ∧ zlv ad ls nL lv ∧ (∀ v ∈ st, zval (zn M) v) ∧ (∀ j v, zat lv j = some (some v) → zval (zn M) v) ∧ (∀ x, x < n0 → ad x = ad0 x) ∧ n0 ≤ zn M ∧ s0 ≤ zs M
def zGo (p : Program) (l : Launch) (e : Env) (R : Room) (s : State) (m : MethodId) (args : Array Value) (below : List Frame) (meth : Method) (c : Code) (Q : State → Prop) (D : va_G) (cO : Nat → ClassId) (A : Nat → Prop) (b L : Nat) (xs : Nat → Int32) (ad0 : Nat → Nat) (n0 s0 k : Nat) (i : Nat) (lv : zLv) (st : List Value) (M : zM) : Prop :=
  ∀ ad ls H locs, zrl s D cO A b L xs (gMe k).2.2.1 ad0 n0 s0 ad ls H locs lv st M → W p l e R s m args below meth c H locs (zn M - n0) (zs M - s0) Q (F0 m ((zat (gPc k) i).getD 0) ls (st.map (zV ad)))
theorem zrl_st {s : State} {D : va_G} {cO : Nat → ClassId} {A : Nat → Prop} {b L : Nat} {xs : Nat → Int32} {nL : Nat} {ad0 : Nat → Nat} {n0 s0 : Nat} {ad : Nat → Nat} {ls : Array Slot} {H : Heap} {locs : List Loc} {lv : zLv} {st st' : List Value} {M : zM} (h : zrl s D cO A b L xs nL ad0 n0 s0 ad ls H locs lv st M) (hs : ∀ v ∈ st', zval (zn M) v) : zrl s D cO A b L xs nL ad0 n0 s0 ad ls H locs lv st' M := by
  obtain ⟨h1, h2, h3, h4, h5, h6, h7, h8, h9⟩ := h
  exact ⟨h1, h2, h3, h4, h5, h6, h7, hs, h9⟩
theorem zrl_lv {s : State} {D : va_G} {cO : Nat → ClassId} {A : Nat → Prop} {b L : Nat} {xs : Nat → Int32} {nL : Nat} {ad0 : Nat → Nat} {n0 s0 : Nat} {ad : Nat → Nat} {ls ls' : Array Slot} {H : Heap} {locs : List Loc} {lv lv' : zLv} {st st' : List Value} {M : zM} (h : zrl s D cO A b L xs nL ad0 n0 s0 ad ls H locs lv st M) (hs : ∀ v ∈ st', zval (zn M) v) (hl : zlv ad ls' nL lv') (hv : ∀ j v, zat lv' j = some (some v) → zval (zn M) v) : zrl s D cO A b L xs nL ad0 n0 s0 ad ls' H locs lv' st' M := by
  obtain ⟨h1, h2, h3, h4, h5, h6, h7, h8, h9, h10⟩ := h
  exact ⟨h1, h2, h3, h4, h5, h6, hl, hs, hv, h10⟩
theorem zst1_val {n : Nat} {lv : zLv} {i : Nat} {v : Value} (h : ∀ j v, zat lv j = some (some v) → zval n v) (hv : zval n v) : ∀ j w, zat (zst1 lv i v) j = some (some w) → zval n w := by
  intro j w hj
  unfold zst1 at hj
  rw [zat_zset] at hj
  split at hj
  · cases hj; exact hv
  · rw [zat_zkl] at hj
    split at hj
    · cases hz : zat lv j with
      | none => rw [hz] at hj; cases hj
      | some o =>
        cases o with
        | none => rw [hz] at hj; cases hj
        | some u =>
          rw [hz] at hj
          obtain ⟨e, -⟩ := zwipe_cat (Option.some.inj hj)
          rw [e]; exact h j u hz
    · exact h j w hj
theorem zst2_val {n : Nat} {lv : zLv} {i : Nat} {v : Value} (h : ∀ j v, zat lv j = some (some v) → zval n v) (hv : zval n v) : ∀ j w, zat (zst2 lv i v) j = some (some w) → zval n w := by
  intro j w hj
  unfold zst2 at hj
  rw [zat_zset] at hj
  split at hj
  · cases hj
  · exact zst1_val h hv j w hj
section ZS
variable {p : Program} {l : Launch} {e : Env} {R : Room} {s : State} {m : MethodId} {args : Array Value} {below : List Frame} {meth : Method} {c : Code} {Q : State → Prop} {D : va_G} {cO : Nat → ClassId} {A : Nat → Prop} {b L : Nat} {xs : Nat → Int32} {ad0 : Nat → Nat} {n0 s0 k : Nat} {i pc len : Nat} {lv : zLv} {r : List Value} {M : zM} {o : Instr}
theorem zs_iadd (F : zfx p R s m args meth c D cO A b L xs k) (hpc : zat (gPc k) i = some pc) (hdec : decode (gMe k).2.1 pc = .ok (.iadd, 1)) (hnx : zat (gPc k) (i + 1) = some (pc + 1)) {x y : Int32} (nx : zGo p l e R s m args below meth c Q D cO A b L xs ad0 n0 s0 k (i + 1) lv (.int (x + y) :: r) M) : zGo p l e R s m args below meth c Q D cO A b L xs ad0 n0 s0 k i lv (.int y :: .int x :: r) M := by
  intro ad ls H locs h
  obtain ⟨hx, hb, hml, hown, hts, hnest, hover, hr, hlocks, hname, hK, hX, hbl, hbA, hA, hfr, hlo⟩ := F
  have a := nx ad ls H locs (zrl_st h (fun v hv => by rcases List.mem_cons.mp hv with rfl | hv; exact trivial; exact h.2.2.2.2.2.2.2.1 v (List.mem_cons_of_mem _ (List.mem_cons_of_mem _ hv))))
  rw [hnx] at a
  rw [hpc]
  exact lv_iadd hx hb hdec a
theorem zs_isub (F : zfx p R s m args meth c D cO A b L xs k) (hpc : zat (gPc k) i = some pc) (hdec : decode (gMe k).2.1 pc = .ok (.isub, 1)) (hnx : zat (gPc k) (i + 1) = some (pc + 1)) {x y : Int32} (nx : zGo p l e R s m args below meth c Q D cO A b L xs ad0 n0 s0 k (i + 1) lv (.int (x - y) :: r) M) : zGo p l e R s m args below meth c Q D cO A b L xs ad0 n0 s0 k i lv (.int y :: .int x :: r) M := by
  intro ad ls H locs h
  obtain ⟨hx, hb, hml, hown, hts, hnest, hover, hr, hlocks, hname, hK, hX, hbl, hbA, hA, hfr, hlo⟩ := F
  have a := nx ad ls H locs (zrl_st h (fun v hv => by rcases List.mem_cons.mp hv with rfl | hv; exact trivial; exact h.2.2.2.2.2.2.2.1 v (List.mem_cons_of_mem _ (List.mem_cons_of_mem _ hv))))
  rw [hnx] at a
  rw [hpc]
  exact lv_isub hx hb hdec a
theorem zs_imul (F : zfx p R s m args meth c D cO A b L xs k) (hpc : zat (gPc k) i = some pc) (hdec : decode (gMe k).2.1 pc = .ok (.imul, 1)) (hnx : zat (gPc k) (i + 1) = some (pc + 1)) {x y : Int32} (nx : zGo p l e R s m args below meth c Q D cO A b L xs ad0 n0 s0 k (i + 1) lv (.int (x * y) :: r) M) : zGo p l e R s m args below meth c Q D cO A b L xs ad0 n0 s0 k i lv (.int y :: .int x :: r) M := by
  intro ad ls H locs h
  obtain ⟨hx, hb, hml, hown, hts, hnest, hover, hr, hlocks, hname, hK, hX, hbl, hbA, hA, hfr, hlo⟩ := F
  have a := nx ad ls H locs (zrl_st h (fun v hv => by rcases List.mem_cons.mp hv with rfl | hv; exact trivial; exact h.2.2.2.2.2.2.2.1 v (List.mem_cons_of_mem _ (List.mem_cons_of_mem _ hv))))
  rw [hnx] at a
  rw [hpc]
  exact lv_imul hx hb hdec a
theorem zs_iand (F : zfx p R s m args meth c D cO A b L xs k) (hpc : zat (gPc k) i = some pc) (hdec : decode (gMe k).2.1 pc = .ok (.iand, 1)) (hnx : zat (gPc k) (i + 1) = some (pc + 1)) {x y : Int32} (nx : zGo p l e R s m args below meth c Q D cO A b L xs ad0 n0 s0 k (i + 1) lv (.int (x &&& y) :: r) M) : zGo p l e R s m args below meth c Q D cO A b L xs ad0 n0 s0 k i lv (.int y :: .int x :: r) M := by
  intro ad ls H locs h
  obtain ⟨hx, hb, hml, hown, hts, hnest, hover, hr, hlocks, hname, hK, hX, hbl, hbA, hA, hfr, hlo⟩ := F
  have a := nx ad ls H locs (zrl_st h (fun v hv => by rcases List.mem_cons.mp hv with rfl | hv; exact trivial; exact h.2.2.2.2.2.2.2.1 v (List.mem_cons_of_mem _ (List.mem_cons_of_mem _ hv))))
  rw [hnx] at a
  rw [hpc]
  exact lv_iand hx hb hdec a
theorem zs_ior (F : zfx p R s m args meth c D cO A b L xs k) (hpc : zat (gPc k) i = some pc) (hdec : decode (gMe k).2.1 pc = .ok (.ior, 1)) (hnx : zat (gPc k) (i + 1) = some (pc + 1)) {x y : Int32} (nx : zGo p l e R s m args below meth c Q D cO A b L xs ad0 n0 s0 k (i + 1) lv (.int (x ||| y) :: r) M) : zGo p l e R s m args below meth c Q D cO A b L xs ad0 n0 s0 k i lv (.int y :: .int x :: r) M := by
  intro ad ls H locs h
  obtain ⟨hx, hb, hml, hown, hts, hnest, hover, hr, hlocks, hname, hK, hX, hbl, hbA, hA, hfr, hlo⟩ := F
  have a := nx ad ls H locs (zrl_st h (fun v hv => by rcases List.mem_cons.mp hv with rfl | hv; exact trivial; exact h.2.2.2.2.2.2.2.1 v (List.mem_cons_of_mem _ (List.mem_cons_of_mem _ hv))))
  rw [hnx] at a
  rw [hpc]
  exact lv_ior hx hb hdec a
theorem zs_ishl (F : zfx p R s m args meth c D cO A b L xs k) (hpc : zat (gPc k) i = some pc) (hdec : decode (gMe k).2.1 pc = .ok (.ishl, 1)) (hnx : zat (gPc k) (i + 1) = some (pc + 1)) {x y : Int32} (nx : zGo p l e R s m args below meth c Q D cO A b L xs ad0 n0 s0 k (i + 1) lv (.int (x <<< (y &&& 31)) :: r) M) : zGo p l e R s m args below meth c Q D cO A b L xs ad0 n0 s0 k i lv (.int y :: .int x :: r) M := by
  intro ad ls H locs h
  obtain ⟨hx, hb, hml, hown, hts, hnest, hover, hr, hlocks, hname, hK, hX, hbl, hbA, hA, hfr, hlo⟩ := F
  have a := nx ad ls H locs (zrl_st h (fun v hv => by rcases List.mem_cons.mp hv with rfl | hv; exact trivial; exact h.2.2.2.2.2.2.2.1 v (List.mem_cons_of_mem _ (List.mem_cons_of_mem _ hv))))
  rw [hnx] at a
  rw [hpc]
  exact lv_ishl hx hb hdec a
theorem zs_ishr (F : zfx p R s m args meth c D cO A b L xs k) (hpc : zat (gPc k) i = some pc) (hdec : decode (gMe k).2.1 pc = .ok (.ishr, 1)) (hnx : zat (gPc k) (i + 1) = some (pc + 1)) {x y : Int32} (nx : zGo p l e R s m args below meth c Q D cO A b L xs ad0 n0 s0 k (i + 1) lv (.int (x >>> (y &&& 31)) :: r) M) : zGo p l e R s m args below meth c Q D cO A b L xs ad0 n0 s0 k i lv (.int y :: .int x :: r) M := by
  intro ad ls H locs h
  obtain ⟨hx, hb, hml, hown, hts, hnest, hover, hr, hlocks, hname, hK, hX, hbl, hbA, hA, hfr, hlo⟩ := F
  have a := nx ad ls H locs (zrl_st h (fun v hv => by rcases List.mem_cons.mp hv with rfl | hv; exact trivial; exact h.2.2.2.2.2.2.2.1 v (List.mem_cons_of_mem _ (List.mem_cons_of_mem _ hv))))
  rw [hnx] at a
  rw [hpc]
  exact lv_ishr hx hb hdec a
theorem zs_iushr (F : zfx p R s m args meth c D cO A b L xs k) (hpc : zat (gPc k) i = some pc) (hdec : decode (gMe k).2.1 pc = .ok (.iushr, 1)) (hnx : zat (gPc k) (i + 1) = some (pc + 1)) {x y : Int32} (nx : zGo p l e R s m args below meth c Q D cO A b L xs ad0 n0 s0 k (i + 1) lv (.int (x.toUInt32 >>> (y.toUInt32 &&& Int32.toUInt32 31)).toInt32 :: r) M) : zGo p l e R s m args below meth c Q D cO A b L xs ad0 n0 s0 k i lv (.int y :: .int x :: r) M := by
  intro ad ls H locs h
  obtain ⟨hx, hb, hml, hown, hts, hnest, hover, hr, hlocks, hname, hK, hX, hbl, hbA, hA, hfr, hlo⟩ := F
  have a := nx ad ls H locs (zrl_st h (fun v hv => by rcases List.mem_cons.mp hv with rfl | hv; exact trivial; exact h.2.2.2.2.2.2.2.1 v (List.mem_cons_of_mem _ (List.mem_cons_of_mem _ hv))))
  rw [hnx] at a
  rw [hpc]
  exact lv_iushr hx hb hdec rfl a
theorem zs_ineg (F : zfx p R s m args meth c D cO A b L xs k) (hpc : zat (gPc k) i = some pc) (hdec : decode (gMe k).2.1 pc = .ok (.ineg, 1)) (hnx : zat (gPc k) (i + 1) = some (pc + 1)) {x : Int32} (nx : zGo p l e R s m args below meth c Q D cO A b L xs ad0 n0 s0 k (i + 1) lv (.int (-x) :: r) M) : zGo p l e R s m args below meth c Q D cO A b L xs ad0 n0 s0 k i lv (.int x :: r) M := by
  intro ad ls H locs h
  obtain ⟨hx, hb, hml, hown, hts, hnest, hover, hr, hlocks, hname, hK, hX, hbl, hbA, hA, hfr, hlo⟩ := F
  have a := nx ad ls H locs (zrl_st h (fun v hv => by rcases List.mem_cons.mp hv with rfl | hv; exact trivial; exact h.2.2.2.2.2.2.2.1 v (List.mem_cons_of_mem _ hv)))
  rw [hnx] at a
  rw [hpc]
  exact lv_ineg hx hb hdec a
theorem zs_ladd (F : zfx p R s m args meth c D cO A b L xs k) (hpc : zat (gPc k) i = some pc) (hdec : decode (gMe k).2.1 pc = .ok (.ladd, 1)) (hnx : zat (gPc k) (i + 1) = some (pc + 1)) {x y : Int64} (nx : zGo p l e R s m args below meth c Q D cO A b L xs ad0 n0 s0 k (i + 1) lv (.long (x + y) :: r) M) : zGo p l e R s m args below meth c Q D cO A b L xs ad0 n0 s0 k i lv (.long y :: .long x :: r) M := by
  intro ad ls H locs h
  obtain ⟨hx, hb, hml, hown, hts, hnest, hover, hr, hlocks, hname, hK, hX, hbl, hbA, hA, hfr, hlo⟩ := F
  have a := nx ad ls H locs (zrl_st h (fun v hv => by rcases List.mem_cons.mp hv with rfl | hv; exact trivial; exact h.2.2.2.2.2.2.2.1 v (List.mem_cons_of_mem _ (List.mem_cons_of_mem _ hv))))
  rw [hnx] at a
  rw [hpc]
  exact lv_ladd hx hb hdec a
theorem zs_lsub (F : zfx p R s m args meth c D cO A b L xs k) (hpc : zat (gPc k) i = some pc) (hdec : decode (gMe k).2.1 pc = .ok (.lsub, 1)) (hnx : zat (gPc k) (i + 1) = some (pc + 1)) {x y : Int64} (nx : zGo p l e R s m args below meth c Q D cO A b L xs ad0 n0 s0 k (i + 1) lv (.long (x - y) :: r) M) : zGo p l e R s m args below meth c Q D cO A b L xs ad0 n0 s0 k i lv (.long y :: .long x :: r) M := by
  intro ad ls H locs h
  obtain ⟨hx, hb, hml, hown, hts, hnest, hover, hr, hlocks, hname, hK, hX, hbl, hbA, hA, hfr, hlo⟩ := F
  have a := nx ad ls H locs (zrl_st h (fun v hv => by rcases List.mem_cons.mp hv with rfl | hv; exact trivial; exact h.2.2.2.2.2.2.2.1 v (List.mem_cons_of_mem _ (List.mem_cons_of_mem _ hv))))
  rw [hnx] at a
  rw [hpc]
  exact lv_lsub hx hb hdec a
theorem zs_lmul (F : zfx p R s m args meth c D cO A b L xs k) (hpc : zat (gPc k) i = some pc) (hdec : decode (gMe k).2.1 pc = .ok (.lmul, 1)) (hnx : zat (gPc k) (i + 1) = some (pc + 1)) {x y : Int64} (nx : zGo p l e R s m args below meth c Q D cO A b L xs ad0 n0 s0 k (i + 1) lv (.long (x * y) :: r) M) : zGo p l e R s m args below meth c Q D cO A b L xs ad0 n0 s0 k i lv (.long y :: .long x :: r) M := by
  intro ad ls H locs h
  obtain ⟨hx, hb, hml, hown, hts, hnest, hover, hr, hlocks, hname, hK, hX, hbl, hbA, hA, hfr, hlo⟩ := F
  have a := nx ad ls H locs (zrl_st h (fun v hv => by rcases List.mem_cons.mp hv with rfl | hv; exact trivial; exact h.2.2.2.2.2.2.2.1 v (List.mem_cons_of_mem _ (List.mem_cons_of_mem _ hv))))
  rw [hnx] at a
  rw [hpc]
  exact lv_lmul hx hb hdec a
theorem zs_lor (F : zfx p R s m args meth c D cO A b L xs k) (hpc : zat (gPc k) i = some pc) (hdec : decode (gMe k).2.1 pc = .ok (.lor, 1)) (hnx : zat (gPc k) (i + 1) = some (pc + 1)) {x y : Int64} (nx : zGo p l e R s m args below meth c Q D cO A b L xs ad0 n0 s0 k (i + 1) lv (.long (x ||| y) :: r) M) : zGo p l e R s m args below meth c Q D cO A b L xs ad0 n0 s0 k i lv (.long y :: .long x :: r) M := by
  intro ad ls H locs h
  obtain ⟨hx, hb, hml, hown, hts, hnest, hover, hr, hlocks, hname, hK, hX, hbl, hbA, hA, hfr, hlo⟩ := F
  have a := nx ad ls H locs (zrl_st h (fun v hv => by rcases List.mem_cons.mp hv with rfl | hv; exact trivial; exact h.2.2.2.2.2.2.2.1 v (List.mem_cons_of_mem _ (List.mem_cons_of_mem _ hv))))
  rw [hnx] at a
  rw [hpc]
  exact lv_lor hx hb hdec a
theorem zs_land (F : zfx p R s m args meth c D cO A b L xs k) (hpc : zat (gPc k) i = some pc) (hdec : decode (gMe k).2.1 pc = .ok (.land, 1)) (hnx : zat (gPc k) (i + 1) = some (pc + 1)) {x y : Int64} (nx : zGo p l e R s m args below meth c Q D cO A b L xs ad0 n0 s0 k (i + 1) lv (.long (x &&& y) :: r) M) : zGo p l e R s m args below meth c Q D cO A b L xs ad0 n0 s0 k i lv (.long y :: .long x :: r) M := by
  intro ad ls H locs h
  obtain ⟨hx, hb, hml, hown, hts, hnest, hover, hr, hlocks, hname, hK, hX, hbl, hbA, hA, hfr, hlo⟩ := F
  have a := nx ad ls H locs (zrl_st h (fun v hv => by rcases List.mem_cons.mp hv with rfl | hv; exact trivial; exact h.2.2.2.2.2.2.2.1 v (List.mem_cons_of_mem _ (List.mem_cons_of_mem _ hv))))
  rw [hnx] at a
  rw [hpc]
  exact lv_land hx hb hdec a
theorem zs_ldiv (F : zfx p R s m args meth c D cO A b L xs k) (hpc : zat (gPc k) i = some pc) (hdec : decode (gMe k).2.1 pc = .ok (.ldiv, 1)) (hnx : zat (gPc k) (i + 1) = some (pc + 1)) {x y : Int64} (hne : ¬ y = 0) (nx : zGo p l e R s m args below meth c Q D cO A b L xs ad0 n0 s0 k (i + 1) lv (.long (x / y) :: r) M) : zGo p l e R s m args below meth c Q D cO A b L xs ad0 n0 s0 k i lv (.long y :: .long x :: r) M := by
  intro ad ls H locs h
  obtain ⟨hx, hb, hml, hown, hts, hnest, hover, hr, hlocks, hname, hK, hX, hbl, hbA, hA, hfr, hlo⟩ := F
  have a := nx ad ls H locs (zrl_st h (fun v hv => by rcases List.mem_cons.mp hv with rfl | hv; exact trivial; exact h.2.2.2.2.2.2.2.1 v (List.mem_cons_of_mem _ (List.mem_cons_of_mem _ hv))))
  rw [hnx] at a
  rw [hpc]
  exact lv_ldiv hx hb hdec hne a
theorem zs_lrem (F : zfx p R s m args meth c D cO A b L xs k) (hpc : zat (gPc k) i = some pc) (hdec : decode (gMe k).2.1 pc = .ok (.lrem, 1)) (hnx : zat (gPc k) (i + 1) = some (pc + 1)) {x y : Int64} (hne : ¬ y = 0) (nx : zGo p l e R s m args below meth c Q D cO A b L xs ad0 n0 s0 k (i + 1) lv (.long (x - x / y * y) :: r) M) : zGo p l e R s m args below meth c Q D cO A b L xs ad0 n0 s0 k i lv (.long y :: .long x :: r) M := by
  intro ad ls H locs h
  obtain ⟨hx, hb, hml, hown, hts, hnest, hover, hr, hlocks, hname, hK, hX, hbl, hbA, hA, hfr, hlo⟩ := F
  have a := nx ad ls H locs (zrl_st h (fun v hv => by rcases List.mem_cons.mp hv with rfl | hv; exact trivial; exact h.2.2.2.2.2.2.2.1 v (List.mem_cons_of_mem _ (List.mem_cons_of_mem _ hv))))
  rw [hnx] at a
  rw [hpc]
  exact lv_lrem hx hb hdec hne a
theorem zs_lneg (F : zfx p R s m args meth c D cO A b L xs k) (hpc : zat (gPc k) i = some pc) (hdec : decode (gMe k).2.1 pc = .ok (.lneg, 1)) (hnx : zat (gPc k) (i + 1) = some (pc + 1)) {x : Int64} (nx : zGo p l e R s m args below meth c Q D cO A b L xs ad0 n0 s0 k (i + 1) lv (.long (-x) :: r) M) : zGo p l e R s m args below meth c Q D cO A b L xs ad0 n0 s0 k i lv (.long x :: r) M := by
  intro ad ls H locs h
  obtain ⟨hx, hb, hml, hown, hts, hnest, hover, hr, hlocks, hname, hK, hX, hbl, hbA, hA, hfr, hlo⟩ := F
  have a := nx ad ls H locs (zrl_st h (fun v hv => by rcases List.mem_cons.mp hv with rfl | hv; exact trivial; exact h.2.2.2.2.2.2.2.1 v (List.mem_cons_of_mem _ hv)))
  rw [hnx] at a
  rw [hpc]
  exact lv_lneg hx hb hdec a
theorem zs_lshl (F : zfx p R s m args meth c D cO A b L xs k) (hpc : zat (gPc k) i = some pc) (hdec : decode (gMe k).2.1 pc = .ok (.lshl, 1)) (hnx : zat (gPc k) (i + 1) = some (pc + 1)) {x : Int64} {y : Int32} (nx : zGo p l e R s m args below meth c Q D cO A b L xs ad0 n0 s0 k (i + 1) lv (.long (x <<< (y.toInt64 &&& 63)) :: r) M) : zGo p l e R s m args below meth c Q D cO A b L xs ad0 n0 s0 k i lv (.int y :: .long x :: r) M := by
  intro ad ls H locs h
  obtain ⟨hx, hb, hml, hown, hts, hnest, hover, hr, hlocks, hname, hK, hX, hbl, hbA, hA, hfr, hlo⟩ := F
  have a := nx ad ls H locs (zrl_st h (fun v hv => by rcases List.mem_cons.mp hv with rfl | hv; exact trivial; exact h.2.2.2.2.2.2.2.1 v (List.mem_cons_of_mem _ (List.mem_cons_of_mem _ hv))))
  rw [hnx] at a
  rw [hpc]
  exact lv_lshl hx hb hdec rfl a
theorem zs_lshr (F : zfx p R s m args meth c D cO A b L xs k) (hpc : zat (gPc k) i = some pc) (hdec : decode (gMe k).2.1 pc = .ok (.lshr, 1)) (hnx : zat (gPc k) (i + 1) = some (pc + 1)) {x : Int64} {y : Int32} (nx : zGo p l e R s m args below meth c Q D cO A b L xs ad0 n0 s0 k (i + 1) lv (.long (x >>> (y.toInt64 &&& 63)) :: r) M) : zGo p l e R s m args below meth c Q D cO A b L xs ad0 n0 s0 k i lv (.int y :: .long x :: r) M := by
  intro ad ls H locs h
  obtain ⟨hx, hb, hml, hown, hts, hnest, hover, hr, hlocks, hname, hK, hX, hbl, hbA, hA, hfr, hlo⟩ := F
  have a := nx ad ls H locs (zrl_st h (fun v hv => by rcases List.mem_cons.mp hv with rfl | hv; exact trivial; exact h.2.2.2.2.2.2.2.1 v (List.mem_cons_of_mem _ (List.mem_cons_of_mem _ hv))))
  rw [hnx] at a
  rw [hpc]
  exact lv_lshr hx hb hdec rfl a
theorem zs_i2l (F : zfx p R s m args meth c D cO A b L xs k) (hpc : zat (gPc k) i = some pc) (hdec : decode (gMe k).2.1 pc = .ok (.i2l, 1)) (hnx : zat (gPc k) (i + 1) = some (pc + 1)) {x : Int32} (nx : zGo p l e R s m args below meth c Q D cO A b L xs ad0 n0 s0 k (i + 1) lv (.long x.toInt64 :: r) M) : zGo p l e R s m args below meth c Q D cO A b L xs ad0 n0 s0 k i lv (.int x :: r) M := by
  intro ad ls H locs h
  obtain ⟨hx, hb, hml, hown, hts, hnest, hover, hr, hlocks, hname, hK, hX, hbl, hbA, hA, hfr, hlo⟩ := F
  have a := nx ad ls H locs (zrl_st h (fun v hv => by rcases List.mem_cons.mp hv with rfl | hv; exact trivial; exact h.2.2.2.2.2.2.2.1 v (List.mem_cons_of_mem _ hv)))
  rw [hnx] at a
  rw [hpc]
  exact lv_i2l hx hb hdec rfl a
theorem zs_l2i (F : zfx p R s m args meth c D cO A b L xs k) (hpc : zat (gPc k) i = some pc) (hdec : decode (gMe k).2.1 pc = .ok (.l2i, 1)) (hnx : zat (gPc k) (i + 1) = some (pc + 1)) {x : Int64} (nx : zGo p l e R s m args below meth c Q D cO A b L xs ad0 n0 s0 k (i + 1) lv (.int x.toInt32 :: r) M) : zGo p l e R s m args below meth c Q D cO A b L xs ad0 n0 s0 k i lv (.long x :: r) M := by
  intro ad ls H locs h
  obtain ⟨hx, hb, hml, hown, hts, hnest, hover, hr, hlocks, hname, hK, hX, hbl, hbA, hA, hfr, hlo⟩ := F
  have a := nx ad ls H locs (zrl_st h (fun v hv => by rcases List.mem_cons.mp hv with rfl | hv; exact trivial; exact h.2.2.2.2.2.2.2.1 v (List.mem_cons_of_mem _ hv)))
  rw [hnx] at a
  rw [hpc]
  exact lv_l2i hx hb hdec rfl a
theorem zs_lcmp (F : zfx p R s m args meth c D cO A b L xs k) (hpc : zat (gPc k) i = some pc) (hdec : decode (gMe k).2.1 pc = .ok (.lcmp, 1)) (hnx : zat (gPc k) (i + 1) = some (pc + 1)) {x y : Int64} (nx : zGo p l e R s m args below meth c Q D cO A b L xs ad0 n0 s0 k (i + 1) lv (.int (lg_cmp x y) :: r) M) : zGo p l e R s m args below meth c Q D cO A b L xs ad0 n0 s0 k i lv (.long y :: .long x :: r) M := by
  intro ad ls H locs h
  obtain ⟨hx, hb, hml, hown, hts, hnest, hover, hr, hlocks, hname, hK, hX, hbl, hbA, hA, hfr, hlo⟩ := F
  have a := nx ad ls H locs (zrl_st h (fun v hv => by rcases List.mem_cons.mp hv with rfl | hv; exact trivial; exact h.2.2.2.2.2.2.2.1 v (List.mem_cons_of_mem _ (List.mem_cons_of_mem _ hv))))
  rw [hnx] at a
  rw [hpc]
  exact W.lcmp hx hb hdec a
theorem zs_dupI (F : zfx p R s m args meth c D cO A b L xs k) (hpc : zat (gPc k) i = some pc) (hdec : decode (gMe k).2.1 pc = .ok (.dup, 1)) (hnx : zat (gPc k) (i + 1) = some (pc + 1)) {x : Int32} (nx : zGo p l e R s m args below meth c Q D cO A b L xs ad0 n0 s0 k (i + 1) lv (.int x :: .int x :: r) M) : zGo p l e R s m args below meth c Q D cO A b L xs ad0 n0 s0 k i lv (.int x :: r) M := by
  intro ad ls H locs h
  obtain ⟨hx, hb, hml, hown, hts, hnest, hover, hr, hlocks, hname, hK, hX, hbl, hbA, hA, hfr, hlo⟩ := F
  have a := nx ad ls H locs (zrl_st h (fun v hv => by rcases List.mem_cons.mp hv with rfl | hv; exact trivial; exact h.2.2.2.2.2.2.2.1 v hv))
  rw [hnx] at a
  rw [hpc]
  exact lv_dup hx hb hdec rfl a
theorem zs_dupR (F : zfx p R s m args meth c D cO A b L xs k) (hpc : zat (gPc k) i = some pc) (hdec : decode (gMe k).2.1 pc = .ok (.dup, 1)) (hnx : zat (gPc k) (i + 1) = some (pc + 1)) {x : Nat} (nx : zGo p l e R s m args below meth c Q D cO A b L xs ad0 n0 s0 k (i + 1) lv (.ref x :: .ref x :: r) M) : zGo p l e R s m args below meth c Q D cO A b L xs ad0 n0 s0 k i lv (.ref x :: r) M := by
  intro ad ls H locs h
  obtain ⟨hx, hb, hml, hown, hts, hnest, hover, hr, hlocks, hname, hK, hX, hbl, hbA, hA, hfr, hlo⟩ := F
  have a := nx ad ls H locs (zrl_st h (fun v hv => by rcases List.mem_cons.mp hv with rfl | hv; exact h.2.2.2.2.2.2.2.1 _ List.mem_cons_self; exact h.2.2.2.2.2.2.2.1 v hv))
  rw [hnx] at a
  rw [hpc]
  exact lv_dup hx hb hdec (zV_cat (.ref x)) a
theorem zs_dup2 (F : zfx p R s m args meth c D cO A b L xs k) (hpc : zat (gPc k) i = some pc) (hdec : decode (gMe k).2.1 pc = .ok (.dup2, 1)) (hnx : zat (gPc k) (i + 1) = some (pc + 1)) {x : Nat} {j : Int32} (nx : zGo p l e R s m args below meth c Q D cO A b L xs ad0 n0 s0 k (i + 1) lv (.int j :: .ref x :: .int j :: .ref x :: r) M) : zGo p l e R s m args below meth c Q D cO A b L xs ad0 n0 s0 k i lv (.int j :: .ref x :: r) M := by
  intro ad ls H locs h
  obtain ⟨hx, hb, hml, hown, hts, hnest, hover, hr, hlocks, hname, hK, hX, hbl, hbA, hA, hfr, hlo⟩ := F
  have a := nx ad ls H locs (zrl_st h (fun v hv => by rcases List.mem_cons.mp hv with rfl | hv; exact trivial; rcases List.mem_cons.mp hv with rfl | hv; exact h.2.2.2.2.2.2.2.1 _ (List.mem_cons_of_mem _ List.mem_cons_self); exact h.2.2.2.2.2.2.2.1 v hv))
  rw [hnx] at a
  rw [hpc]
  exact lv_dup2_11 hx hb hdec rfl (zV_cat (.ref x)) a
theorem zs_pop (F : zfx p R s m args meth c D cO A b L xs k) (hpc : zat (gPc k) i = some pc) (hdec : decode (gMe k).2.1 pc = .ok (.pop, 1)) (hnx : zat (gPc k) (i + 1) = some (pc + 1)) {x : Int32} (nx : zGo p l e R s m args below meth c Q D cO A b L xs ad0 n0 s0 k (i + 1) lv (r) M) : zGo p l e R s m args below meth c Q D cO A b L xs ad0 n0 s0 k i lv (.int x :: r) M := by
  intro ad ls H locs h
  obtain ⟨hx, hb, hml, hown, hts, hnest, hover, hr, hlocks, hname, hK, hX, hbl, hbA, hA, hfr, hlo⟩ := F
  have a := nx ad ls H locs (zrl_st h (fun v hv => h.2.2.2.2.2.2.2.1 v (List.mem_cons_of_mem _ hv)))
  rw [hnx] at a
  rw [hpc]
  exact lv_pop hx hb hdec rfl a
theorem zs_iconst (F : zfx p R s m args meth c D cO A b L xs k) (hpc : zat (gPc k) i = some pc) (hdec : decode (gMe k).2.1 pc = .ok (o, len)) {n : Int} (hm : zmt (gMe k).1 (gMe k).2.2.1 (gPc k) i pc o len (.iconst n) = true) (nx : zGo p l e R s m args below meth c Q D cO A b L xs ad0 n0 s0 k (i + 1) lv (.int (zc n) :: r) M) : zGo p l e R s m args below meth c Q D cO A b L xs ad0 n0 s0 k i lv r M := by
  intro ad ls H locs h
  obtain ⟨hx, hb, hml, hown, hts, hnest, hover, hr, hlocks, hname, hK, hX, hbl, hbA, hA, hfr, hlo⟩ := F
  have a := nx ad ls H locs (zrl_st h (fun v hv => by rcases List.mem_cons.mp hv with rfl | hv; exact trivial; exact h.2.2.2.2.2.2.2.1 v hv))
  simp only [zmt, Bool.and_eq_true, decide_eq_true_eq] at hm
  obtain ⟨hnx, hm⟩ := hm
  rw [hnx] at a
  rw [hpc]
  split at hm
  · obtain ⟨rfl, e⟩ : _ ∧ _ := by simpa only [Bool.and_eq_true, decide_eq_true_eq] using hm
    exact lv_iconst hx hb hdec e a
  · obtain ⟨rfl, e⟩ : _ ∧ _ := by simpa only [Bool.and_eq_true, decide_eq_true_eq] using hm
    exact lv_bipush hx hb hdec e a
  · obtain ⟨rfl, e⟩ : _ ∧ _ := by simpa only [Bool.and_eq_true, decide_eq_true_eq] using hm
    exact lv_sipush hx hb hdec e a
  · obtain ⟨rfl, e⟩ : _ ∧ _ := by simpa only [Bool.and_eq_true, decide_eq_true_eq] using hm
    exact lv_ldc hx hb hown (hts _ (zwd_in e)) hdec a
  · cases hm
theorem zs_lconst (F : zfx p R s m args meth c D cO A b L xs k) (hpc : zat (gPc k) i = some pc) (hdec : decode (gMe k).2.1 pc = .ok (o, len)) {n : Int} (hm : zmt (gMe k).1 (gMe k).2.2.1 (gPc k) i pc o len (.jsr_w n) = true) (nx : zGo p l e R s m args below meth c Q D cO A b L xs ad0 n0 s0 k (i + 1) lv (.long (zcl n) :: r) M) : zGo p l e R s m args below meth c Q D cO A b L xs ad0 n0 s0 k i lv r M := by
  intro ad ls H locs h
  obtain ⟨hx, hb, hml, hown, hts, hnest, hover, hr, hlocks, hname, hK, hX, hbl, hbA, hA, hfr, hlo⟩ := F
  have a := nx ad ls H locs (zrl_st h (fun v hv => by rcases List.mem_cons.mp hv with rfl | hv; exact trivial; exact h.2.2.2.2.2.2.2.1 v hv))
  simp only [zmt, Bool.and_eq_true, decide_eq_true_eq] at hm
  obtain ⟨hnx, hm⟩ := hm
  rw [hnx] at a
  rw [hpc]
  split at hm
  · obtain ⟨rfl, e⟩ : _ ∧ _ := by simpa only [Bool.and_eq_true, decide_eq_true_eq] using hm
    exact lv_lconst hx hb hdec e a
  · obtain ⟨rfl, e⟩ : _ ∧ _ := by simpa only [Bool.and_eq_true, decide_eq_true_eq] using hm
    exact lv_ldc2 hx hb hown (hts _ (zwd_in e)) hdec a
  · cases hm
theorem zs_iload (F : zfx p R s m args meth c D cO A b L xs k) (hpc : zat (gPc k) i = some pc) (hdec : decode (gMe k).2.1 pc = .ok (o, len)) {j : Nat} {x : Int32} (hm : zmt (gMe k).1 (gMe k).2.2.1 (gPc k) i pc o len (.iload j) = true) (hj : zat lv j = some (some (.int x))) (nx : zGo p l e R s m args below meth c Q D cO A b L xs ad0 n0 s0 k (i + 1) lv (.int x :: r) M) : zGo p l e R s m args below meth c Q D cO A b L xs ad0 n0 s0 k i lv r M := by
  intro ad ls H locs h
  obtain ⟨hx, hb, hml, hown, hts, hnest, hover, hr, hlocks, hname, hK, hX, hbl, hbA, hA, hfr, hlo⟩ := F
  have a := nx ad ls H locs (zrl_st h (fun v hv => by rcases List.mem_cons.mp hv with rfl | hv; exact trivial; exact h.2.2.2.2.2.2.2.1 v hv))
  have hl : ls[j]? = some (.val (.int x)) := h.2.2.2.2.2.2.1.2.2 j _ hj
  simp only [zmt, Bool.and_eq_true, decide_eq_true_eq] at hm
  obtain ⟨hnx, hm⟩ := hm
  rw [hnx] at a
  rw [hpc]
  split at hm
  · obtain ⟨rfl, e⟩ : _ ∧ _ := by simpa only [Bool.and_eq_true, decide_eq_true_eq] using hm
    exact lv_iload_n hx hb hdec e hl a
  · obtain ⟨rfl, rfl⟩ : _ ∧ _ := by simpa only [Bool.and_eq_true, decide_eq_true_eq] using hm
    exact lv_iload hx hb hdec hl a
  · cases hm
theorem zs_lload (F : zfx p R s m args meth c D cO A b L xs k) (hpc : zat (gPc k) i = some pc) (hdec : decode (gMe k).2.1 pc = .ok (o, len)) {j : Nat} {x : Int64} (hm : zmt (gMe k).1 (gMe k).2.2.1 (gPc k) i pc o len (.lload j) = true) (hj : zat lv j = some (some (.long x))) (nx : zGo p l e R s m args below meth c Q D cO A b L xs ad0 n0 s0 k (i + 1) lv (.long x :: r) M) : zGo p l e R s m args below meth c Q D cO A b L xs ad0 n0 s0 k i lv r M := by
  intro ad ls H locs h
  obtain ⟨hx, hb, hml, hown, hts, hnest, hover, hr, hlocks, hname, hK, hX, hbl, hbA, hA, hfr, hlo⟩ := F
  have a := nx ad ls H locs (zrl_st h (fun v hv => by rcases List.mem_cons.mp hv with rfl | hv; exact trivial; exact h.2.2.2.2.2.2.2.1 v hv))
  have hl : ls[j]? = some (.val (.long x)) := h.2.2.2.2.2.2.1.2.2 j _ hj
  simp only [zmt, Bool.and_eq_true, decide_eq_true_eq] at hm
  obtain ⟨hnx, hm⟩ := hm
  rw [hnx] at a
  rw [hpc]
  split at hm
  · obtain ⟨rfl, e⟩ : _ ∧ _ := by simpa only [Bool.and_eq_true, decide_eq_true_eq] using hm
    exact lv_lload_n hx hb hdec e hl a
  · obtain ⟨rfl, rfl⟩ : _ ∧ _ := by simpa only [Bool.and_eq_true, decide_eq_true_eq] using hm
    exact lv_lload hx hb hdec hl a
  · cases hm
theorem zs_aload (F : zfx p R s m args meth c D cO A b L xs k) (hpc : zat (gPc k) i = some pc) (hdec : decode (gMe k).2.1 pc = .ok (o, len)) {j : Nat} {x : Nat} (hm : zmt (gMe k).1 (gMe k).2.2.1 (gPc k) i pc o len (.aload j) = true) (hj : zat lv j = some (some (.ref x))) (nx : zGo p l e R s m args below meth c Q D cO A b L xs ad0 n0 s0 k (i + 1) lv (.ref x :: r) M) : zGo p l e R s m args below meth c Q D cO A b L xs ad0 n0 s0 k i lv r M := by
  intro ad ls H locs h
  obtain ⟨hx, hb, hml, hown, hts, hnest, hover, hr, hlocks, hname, hK, hX, hbl, hbA, hA, hfr, hlo⟩ := F
  have a := nx ad ls H locs (zrl_st h (fun v hv => by rcases List.mem_cons.mp hv with rfl | hv; exact h.2.2.2.2.2.2.2.2.1 j _ hj; exact h.2.2.2.2.2.2.2.1 v hv))
  have hl : ls[j]? = some (.val (va_rf (zro ad x))) := h.2.2.2.2.2.2.1.2.2 j _ hj
  simp only [zmt, Bool.and_eq_true, decide_eq_true_eq] at hm
  obtain ⟨hnx, hm⟩ := hm
  rw [hnx] at a
  rw [hpc]
  rw [List.map_cons] at a
  rw [show zV ad (.ref x) = va_rf (zro ad x) from rfl] at a
  revert a hl
  cases zro ad x with
  | none =>
    intro a hl
    split at hm
    · obtain ⟨rfl, e⟩ : _ ∧ _ := by simpa only [Bool.and_eq_true, decide_eq_true_eq] using hm
      exact lv_aload_nN hx hb hdec e hl a
    · obtain ⟨rfl, rfl⟩ : _ ∧ _ := by simpa only [Bool.and_eq_true, decide_eq_true_eq] using hm
      exact lv_aloadN hx hb hdec hl a
    · cases hm
  | some q =>
    intro a hl
    split at hm
    · obtain ⟨rfl, e⟩ : _ ∧ _ := by simpa only [Bool.and_eq_true, decide_eq_true_eq] using hm
      exact lv_aload_n hx hb hdec e hl a
    · obtain ⟨rfl, rfl⟩ : _ ∧ _ := by simpa only [Bool.and_eq_true, decide_eq_true_eq] using hm
      exact lv_aload hx hb hdec hl a
    · cases hm
theorem zs_istore (F : zfx p R s m args meth c D cO A b L xs k) (hpc : zat (gPc k) i = some pc) (hdec : decode (gMe k).2.1 pc = .ok (o, len)) {j : Nat} {x : Int32} (hm : zmt (gMe k).1 (gMe k).2.2.1 (gPc k) i pc o len (.istore j) = true) (nx : zGo p l e R s m args below meth c Q D cO A b L xs ad0 n0 s0 k (i + 1) (zst1 lv j (.int x)) r M) : zGo p l e R s m args below meth c Q D cO A b L xs ad0 n0 s0 k i lv (.int x :: r) M := by
  intro ad ls H locs h
  obtain ⟨hx, hb, hml, hown, hts, hnest, hover, hr, hlocks, hname, hK, hX, hbl, hbA, hA, hfr, hlo⟩ := F
  have a := fun ls' hl' => nx ad ls' H locs (zrl_lv h (fun v hv => h.2.2.2.2.2.2.2.1 v (List.mem_cons_of_mem _ hv)) hl' (zst1_val h.2.2.2.2.2.2.2.2.1 trivial))
  have hh := zlv_has h.2.2.2.2.2.2.1
  simp only [zmt, Bool.and_eq_true, decide_eq_true_eq] at hm
  obtain ⟨hnx, hm⟩ := hm
  rw [hnx] at a
  rw [hpc]
  split at hm
  · obtain ⟨⟨rfl, e⟩, hn⟩ : (_ ∧ _) ∧ _ := by simpa only [Bool.and_eq_true, decide_eq_true_eq] using hm
    exact lv_istore_n hx hb hdec e hh hn rfl fun ls' hl' => a ls' (zlv_st1 hl')
  · obtain ⟨⟨rfl, rfl⟩, hn⟩ : (_ ∧ _) ∧ _ := by simpa only [Bool.and_eq_true, decide_eq_true_eq] using hm
    exact lv_istore hx hb hdec hh hn rfl fun ls' hl' => a ls' (zlv_st1 hl')
  · cases hm
theorem zs_lstore (F : zfx p R s m args meth c D cO A b L xs k) (hpc : zat (gPc k) i = some pc) (hdec : decode (gMe k).2.1 pc = .ok (o, len)) {j : Nat} {x : Int64} (hm : zmt (gMe k).1 (gMe k).2.2.1 (gPc k) i pc o len (.lstore j) = true) (nx : zGo p l e R s m args below meth c Q D cO A b L xs ad0 n0 s0 k (i + 1) (zst2 lv j (.long x)) r M) : zGo p l e R s m args below meth c Q D cO A b L xs ad0 n0 s0 k i lv (.long x :: r) M := by
  intro ad ls H locs h
  obtain ⟨hx, hb, hml, hown, hts, hnest, hover, hr, hlocks, hname, hK, hX, hbl, hbA, hA, hfr, hlo⟩ := F
  have a := fun ls' hl' => nx ad ls' H locs (zrl_lv h (fun v hv => h.2.2.2.2.2.2.2.1 v (List.mem_cons_of_mem _ hv)) hl' (zst2_val h.2.2.2.2.2.2.2.2.1 trivial))
  have hh := zlv_has h.2.2.2.2.2.2.1
  simp only [zmt, Bool.and_eq_true, decide_eq_true_eq] at hm
  obtain ⟨hnx, hm⟩ := hm
  rw [hnx] at a
  rw [hpc]
  split at hm
  · obtain ⟨⟨rfl, e⟩, hn⟩ : (_ ∧ _) ∧ _ := by simpa only [Bool.and_eq_true, decide_eq_true_eq] using hm
    exact lv_lstore_n hx hb hdec e hh hn rfl fun ls' hl' => a ls' (zlv_st2 hl')
  · obtain ⟨⟨rfl, rfl⟩, hn⟩ : (_ ∧ _) ∧ _ := by simpa only [Bool.and_eq_true, decide_eq_true_eq] using hm
    exact lv_lstore hx hb hdec hh hn rfl fun ls' hl' => a ls' (zlv_st2 hl')
  · cases hm
theorem zs_astore (F : zfx p R s m args meth c D cO A b L xs k) (hpc : zat (gPc k) i = some pc) (hdec : decode (gMe k).2.1 pc = .ok (o, len)) {j : Nat} {x : Nat} (hm : zmt (gMe k).1 (gMe k).2.2.1 (gPc k) i pc o len (.astore j) = true) (nx : zGo p l e R s m args below meth c Q D cO A b L xs ad0 n0 s0 k (i + 1) (zst1 lv j (.ref x)) r M) : zGo p l e R s m args below meth c Q D cO A b L xs ad0 n0 s0 k i lv (.ref x :: r) M := by
  intro ad ls H locs h
  obtain ⟨hx, hb, hml, hown, hts, hnest, hover, hr, hlocks, hname, hK, hX, hbl, hbA, hA, hfr, hlo⟩ := F
  have a := fun ls' hl' => nx ad ls' H locs (zrl_lv h (fun v hv => h.2.2.2.2.2.2.2.1 v (List.mem_cons_of_mem _ hv)) hl' (zst1_val h.2.2.2.2.2.2.2.2.1 (h.2.2.2.2.2.2.2.1 _ List.mem_cons_self)))
  have hh := zlv_has h.2.2.2.2.2.2.1
  simp only [zmt, Bool.and_eq_true, decide_eq_true_eq] at hm
  obtain ⟨hnx, hm⟩ := hm
  rw [hnx] at a
  rw [hpc, List.map_cons]
  have key : ∀ ls', lv_has ls' (gMe k).2.2.1 ((j, zV ad (.ref x)) :: (zprs ad lv).filter (fun q => !(q.1 == j) && !(q.1 + 1 == j && q.2.category == 2))) → W p l e R s m args below meth c H locs (zn M - n0) (zs M - s0) Q (F0 m (pc + len) ls' (r.map (zV ad))) := fun ls' hl' => a ls' (zlv_st1 hl')
  rw [show zV ad (.ref x) = va_rf (zro ad x) from rfl] at key ⊢
  revert key
  cases zro ad x with
  | none =>
    intro key
    split at hm
    · obtain ⟨⟨rfl, e⟩, hn⟩ : (_ ∧ _) ∧ _ := by simpa only [Bool.and_eq_true, decide_eq_true_eq] using hm
      exact lv_astore_nN hx hb hdec e hh hn rfl key
    · obtain ⟨⟨rfl, rfl⟩, hn⟩ : (_ ∧ _) ∧ _ := by simpa only [Bool.and_eq_true, decide_eq_true_eq] using hm
      exact lv_astoreN hx hb hdec hh hn rfl key
    · cases hm
  | some q =>
    intro key
    split at hm
    · obtain ⟨⟨rfl, e⟩, hn⟩ : (_ ∧ _) ∧ _ := by simpa only [Bool.and_eq_true, decide_eq_true_eq] using hm
      exact lv_astore_n hx hb hdec e hh hn rfl key
    · obtain ⟨⟨rfl, rfl⟩, hn⟩ : (_ ∧ _) ∧ _ := by simpa only [Bool.and_eq_true, decide_eq_true_eq] using hm
      exact lv_astore hx hb hdec hh hn rfl key
    · cases hm
theorem zs_iinc (F : zfx p R s m args meth c D cO A b L xs k) (hpc : zat (gPc k) i = some pc) (hdec : decode (gMe k).2.1 pc = .ok (o, len)) {j : Nat} {x : Int32} {n : Int} (hm : zmt (gMe k).1 (gMe k).2.2.1 (gPc k) i pc o len (.iinc j n) = true) (hj : zat lv j = some (some (.int x))) (nx : zGo p l e R s m args below meth c Q D cO A b L xs ad0 n0 s0 k (i + 1) (zst1 lv j (.int (x + zc n))) r M) : zGo p l e R s m args below meth c Q D cO A b L xs ad0 n0 s0 k i lv r M := by
  intro ad ls H locs h
  obtain ⟨hx, hb, hml, hown, hts, hnest, hover, hr, hlocks, hname, hK, hX, hbl, hbA, hA, hfr, hlo⟩ := F
  have a := fun ls' hl' => nx ad ls' H locs (zrl_lv h h.2.2.2.2.2.2.2.1 hl' (zst1_val h.2.2.2.2.2.2.2.2.1 trivial))
  have hh := zlv_has h.2.2.2.2.2.2.1
  simp only [zmt, Bool.and_eq_true, decide_eq_true_eq] at hm
  obtain ⟨hnx, hm⟩ := hm
  rw [hnx] at a
  rw [hpc]
  split at hm
  · obtain ⟨⟨⟨rfl, rfl⟩, hn⟩, e⟩ : ((_ ∧ _) ∧ _) ∧ _ := by simpa only [Bool.and_eq_true, decide_eq_true_eq] using hm
    obtain ⟨q, hq⟩ := List.getElem?_of_mem (zprs_mem (ad := ad) (q := (_, Value.int x)).mpr ⟨_, hj, rfl⟩)
    exact lv_iinc hx hb hdec hh hq (by rw [e]) hn rfl fun ls' hl' => a ls' (zlv_st1 hl')
  · cases hm
theorem ztg_at {pcs : List Nat} {pc : Nat} {off t : Int} (h : ztg pcs pc off t = true) : ∃ tgt : Nat, zat pcs t.toNat = some tgt ∧ (pc : Int) + off = (tgt : Int) := by
  simp only [ztg, Bool.and_eq_true, decide_eq_true_eq] at h
  exact ⟨_, h.2, by rw [Int.toNat_of_nonneg h.1]⟩
theorem zs_goto (F : zfx p R s m args meth c D cO A b L xs k) (hpc : zat (gPc k) i = some pc) (hdec : decode (gMe k).2.1 pc = .ok (o, len)) {t : Int} (hm : zmt (gMe k).1 (gMe k).2.2.1 (gPc k) i pc o len (.goto t) = true) (nx : zGo p l e R s m args below meth c Q D cO A b L xs ad0 n0 s0 k t.toNat lv r M) : zGo p l e R s m args below meth c Q D cO A b L xs ad0 n0 s0 k i lv r M := by
  intro ad ls H locs h
  obtain ⟨hx, hb, hml, hown, hts, hnest, hover, hr, hlocks, hname, hK, hX, hbl, hbA, hA, hfr, hlo⟩ := F
  have a := nx ad ls H locs h
  simp only [zmt] at hm
  rw [hpc]
  split at hm
  · obtain ⟨rfl, e⟩ : _ ∧ _ := by simpa only [Bool.and_eq_true, decide_eq_true_eq] using hm
    obtain ⟨tgt, e1, e2⟩ := ztg_at e
    rw [e1] at a
    exact lv_goto hx hb hdec e2 a
  · cases hm
theorem zs_if_eq (F : zfx p R s m args meth c D cO A b L xs k) (hpc : zat (gPc k) i = some pc) (hdec : decode (gMe k).2.1 pc = .ok (o, len)) {t : Int} {x : Int32} (hm : zmt (gMe k).1 (gMe k).2.2.1 (gPc k) i pc o len (.ifCond .eq t) = true) (n1 : x = 0 → zGo p l e R s m args below meth c Q D cO A b L xs ad0 n0 s0 k t.toNat lv r M) (n2 : ¬ (x = 0) → zGo p l e R s m args below meth c Q D cO A b L xs ad0 n0 s0 k (i + 1) lv r M) : zGo p l e R s m args below meth c Q D cO A b L xs ad0 n0 s0 k i lv (.int x :: r) M := by
  intro ad ls H locs h
  obtain ⟨hx, hb, hml, hown, hts, hnest, hover, hr, hlocks, hname, hK, hX, hbl, hbA, hA, hfr, hlo⟩ := F
  have h' := zrl_st (st' := r) h (fun v hv => h.2.2.2.2.2.2.2.1 v (List.mem_cons_of_mem _ hv))
  have a1 := fun q => n1 q ad ls H locs h'
  have a2 := fun q => n2 q ad ls H locs h'
  simp only [zmt, Bool.and_eq_true, decide_eq_true_eq] at hm
  obtain ⟨hnx, hm⟩ := hm
  rw [hnx] at a2
  rw [hpc]
  split at hm
  · obtain ⟨⟨rfl, rfl⟩, e⟩ : (_ ∧ _) ∧ _ := by simpa only [Bool.and_eq_true, decide_eq_true_eq] using hm
    obtain ⟨tgt, e1, e2⟩ := ztg_at e
    rw [e1] at a1
    exact lv_if_eq hx hb hdec e2 a1 a2
  · cases hm
theorem zs_icmp_eq (F : zfx p R s m args meth c D cO A b L xs k) (hpc : zat (gPc k) i = some pc) (hdec : decode (gMe k).2.1 pc = .ok (o, len)) {t : Int} {x y : Int32} (hm : zmt (gMe k).1 (gMe k).2.2.1 (gPc k) i pc o len (.if_icmp .eq t) = true) (n1 : x = y → zGo p l e R s m args below meth c Q D cO A b L xs ad0 n0 s0 k t.toNat lv r M) (n2 : ¬ (x = y) → zGo p l e R s m args below meth c Q D cO A b L xs ad0 n0 s0 k (i + 1) lv r M) : zGo p l e R s m args below meth c Q D cO A b L xs ad0 n0 s0 k i lv (.int y :: .int x :: r) M := by
  intro ad ls H locs h
  obtain ⟨hx, hb, hml, hown, hts, hnest, hover, hr, hlocks, hname, hK, hX, hbl, hbA, hA, hfr, hlo⟩ := F
  have h' := zrl_st (st' := r) h (fun v hv => h.2.2.2.2.2.2.2.1 v (List.mem_cons_of_mem _ (List.mem_cons_of_mem _ hv)))
  have a1 := fun q => n1 q ad ls H locs h'
  have a2 := fun q => n2 q ad ls H locs h'
  simp only [zmt, Bool.and_eq_true, decide_eq_true_eq] at hm
  obtain ⟨hnx, hm⟩ := hm
  rw [hnx] at a2
  rw [hpc]
  split at hm
  · obtain ⟨⟨rfl, rfl⟩, e⟩ : (_ ∧ _) ∧ _ := by simpa only [Bool.and_eq_true, decide_eq_true_eq] using hm
    obtain ⟨tgt, e1, e2⟩ := ztg_at e
    rw [e1] at a1
    exact lv_icmp_eq hx hb hdec e2 a1 a2
  · cases hm
theorem zs_if_ne (F : zfx p R s m args meth c D cO A b L xs k) (hpc : zat (gPc k) i = some pc) (hdec : decode (gMe k).2.1 pc = .ok (o, len)) {t : Int} {x : Int32} (hm : zmt (gMe k).1 (gMe k).2.2.1 (gPc k) i pc o len (.ifCond .ne t) = true) (n1 : ¬ x = 0 → zGo p l e R s m args below meth c Q D cO A b L xs ad0 n0 s0 k t.toNat lv r M) (n2 : ¬ (¬ x = 0) → zGo p l e R s m args below meth c Q D cO A b L xs ad0 n0 s0 k (i + 1) lv r M) : zGo p l e R s m args below meth c Q D cO A b L xs ad0 n0 s0 k i lv (.int x :: r) M := by
  intro ad ls H locs h
  obtain ⟨hx, hb, hml, hown, hts, hnest, hover, hr, hlocks, hname, hK, hX, hbl, hbA, hA, hfr, hlo⟩ := F
  have h' := zrl_st (st' := r) h (fun v hv => h.2.2.2.2.2.2.2.1 v (List.mem_cons_of_mem _ hv))
  have a1 := fun q => n1 q ad ls H locs h'
  have a2 := fun q => n2 q ad ls H locs h'
  simp only [zmt, Bool.and_eq_true, decide_eq_true_eq] at hm
  obtain ⟨hnx, hm⟩ := hm
  rw [hnx] at a2
  rw [hpc]
  split at hm
  · obtain ⟨⟨rfl, rfl⟩, e⟩ : (_ ∧ _) ∧ _ := by simpa only [Bool.and_eq_true, decide_eq_true_eq] using hm
    obtain ⟨tgt, e1, e2⟩ := ztg_at e
    rw [e1] at a1
    exact lv_if_ne hx hb hdec e2 a1 (fun q => a2 (fun z => z q))
  · cases hm
theorem zs_icmp_ne (F : zfx p R s m args meth c D cO A b L xs k) (hpc : zat (gPc k) i = some pc) (hdec : decode (gMe k).2.1 pc = .ok (o, len)) {t : Int} {x y : Int32} (hm : zmt (gMe k).1 (gMe k).2.2.1 (gPc k) i pc o len (.if_icmp .ne t) = true) (n1 : ¬ x = y → zGo p l e R s m args below meth c Q D cO A b L xs ad0 n0 s0 k t.toNat lv r M) (n2 : ¬ (¬ x = y) → zGo p l e R s m args below meth c Q D cO A b L xs ad0 n0 s0 k (i + 1) lv r M) : zGo p l e R s m args below meth c Q D cO A b L xs ad0 n0 s0 k i lv (.int y :: .int x :: r) M := by
  intro ad ls H locs h
  obtain ⟨hx, hb, hml, hown, hts, hnest, hover, hr, hlocks, hname, hK, hX, hbl, hbA, hA, hfr, hlo⟩ := F
  have h' := zrl_st (st' := r) h (fun v hv => h.2.2.2.2.2.2.2.1 v (List.mem_cons_of_mem _ (List.mem_cons_of_mem _ hv)))
  have a1 := fun q => n1 q ad ls H locs h'
  have a2 := fun q => n2 q ad ls H locs h'
  simp only [zmt, Bool.and_eq_true, decide_eq_true_eq] at hm
  obtain ⟨hnx, hm⟩ := hm
  rw [hnx] at a2
  rw [hpc]
  split at hm
  · obtain ⟨⟨rfl, rfl⟩, e⟩ : (_ ∧ _) ∧ _ := by simpa only [Bool.and_eq_true, decide_eq_true_eq] using hm
    obtain ⟨tgt, e1, e2⟩ := ztg_at e
    rw [e1] at a1
    exact lv_icmp_ne hx hb hdec e2 a1 (fun q => a2 (fun z => z q))
  · cases hm
theorem zs_if_lt (F : zfx p R s m args meth c D cO A b L xs k) (hpc : zat (gPc k) i = some pc) (hdec : decode (gMe k).2.1 pc = .ok (o, len)) {t : Int} {x : Int32} (hm : zmt (gMe k).1 (gMe k).2.2.1 (gPc k) i pc o len (.ifCond .lt t) = true) (n1 : x < 0 → zGo p l e R s m args below meth c Q D cO A b L xs ad0 n0 s0 k t.toNat lv r M) (n2 : ¬ (x < 0) → zGo p l e R s m args below meth c Q D cO A b L xs ad0 n0 s0 k (i + 1) lv r M) : zGo p l e R s m args below meth c Q D cO A b L xs ad0 n0 s0 k i lv (.int x :: r) M := by
  intro ad ls H locs h
  obtain ⟨hx, hb, hml, hown, hts, hnest, hover, hr, hlocks, hname, hK, hX, hbl, hbA, hA, hfr, hlo⟩ := F
  have h' := zrl_st (st' := r) h (fun v hv => h.2.2.2.2.2.2.2.1 v (List.mem_cons_of_mem _ hv))
  have a1 := fun q => n1 q ad ls H locs h'
  have a2 := fun q => n2 q ad ls H locs h'
  simp only [zmt, Bool.and_eq_true, decide_eq_true_eq] at hm
  obtain ⟨hnx, hm⟩ := hm
  rw [hnx] at a2
  rw [hpc]
  split at hm
  · obtain ⟨⟨rfl, rfl⟩, e⟩ : (_ ∧ _) ∧ _ := by simpa only [Bool.and_eq_true, decide_eq_true_eq] using hm
    obtain ⟨tgt, e1, e2⟩ := ztg_at e
    rw [e1] at a1
    exact lv_if_lt hx hb hdec e2 a1 a2
  · cases hm
theorem zs_icmp_lt (F : zfx p R s m args meth c D cO A b L xs k) (hpc : zat (gPc k) i = some pc) (hdec : decode (gMe k).2.1 pc = .ok (o, len)) {t : Int} {x y : Int32} (hm : zmt (gMe k).1 (gMe k).2.2.1 (gPc k) i pc o len (.if_icmp .lt t) = true) (n1 : x < y → zGo p l e R s m args below meth c Q D cO A b L xs ad0 n0 s0 k t.toNat lv r M) (n2 : ¬ (x < y) → zGo p l e R s m args below meth c Q D cO A b L xs ad0 n0 s0 k (i + 1) lv r M) : zGo p l e R s m args below meth c Q D cO A b L xs ad0 n0 s0 k i lv (.int y :: .int x :: r) M := by
  intro ad ls H locs h
  obtain ⟨hx, hb, hml, hown, hts, hnest, hover, hr, hlocks, hname, hK, hX, hbl, hbA, hA, hfr, hlo⟩ := F
  have h' := zrl_st (st' := r) h (fun v hv => h.2.2.2.2.2.2.2.1 v (List.mem_cons_of_mem _ (List.mem_cons_of_mem _ hv)))
  have a1 := fun q => n1 q ad ls H locs h'
  have a2 := fun q => n2 q ad ls H locs h'
  simp only [zmt, Bool.and_eq_true, decide_eq_true_eq] at hm
  obtain ⟨hnx, hm⟩ := hm
  rw [hnx] at a2
  rw [hpc]
  split at hm
  · obtain ⟨⟨rfl, rfl⟩, e⟩ : (_ ∧ _) ∧ _ := by simpa only [Bool.and_eq_true, decide_eq_true_eq] using hm
    obtain ⟨tgt, e1, e2⟩ := ztg_at e
    rw [e1] at a1
    exact lv_icmp_lt hx hb hdec e2 a1 a2
  · cases hm
theorem zs_if_ge (F : zfx p R s m args meth c D cO A b L xs k) (hpc : zat (gPc k) i = some pc) (hdec : decode (gMe k).2.1 pc = .ok (o, len)) {t : Int} {x : Int32} (hm : zmt (gMe k).1 (gMe k).2.2.1 (gPc k) i pc o len (.ifCond .ge t) = true) (n1 : 0 ≤ x → zGo p l e R s m args below meth c Q D cO A b L xs ad0 n0 s0 k t.toNat lv r M) (n2 : ¬ (0 ≤ x) → zGo p l e R s m args below meth c Q D cO A b L xs ad0 n0 s0 k (i + 1) lv r M) : zGo p l e R s m args below meth c Q D cO A b L xs ad0 n0 s0 k i lv (.int x :: r) M := by
  intro ad ls H locs h
  obtain ⟨hx, hb, hml, hown, hts, hnest, hover, hr, hlocks, hname, hK, hX, hbl, hbA, hA, hfr, hlo⟩ := F
  have h' := zrl_st (st' := r) h (fun v hv => h.2.2.2.2.2.2.2.1 v (List.mem_cons_of_mem _ hv))
  have a1 := fun q => n1 q ad ls H locs h'
  have a2 := fun q => n2 q ad ls H locs h'
  simp only [zmt, Bool.and_eq_true, decide_eq_true_eq] at hm
  obtain ⟨hnx, hm⟩ := hm
  rw [hnx] at a2
  rw [hpc]
  split at hm
  · obtain ⟨⟨rfl, rfl⟩, e⟩ : (_ ∧ _) ∧ _ := by simpa only [Bool.and_eq_true, decide_eq_true_eq] using hm
    obtain ⟨tgt, e1, e2⟩ := ztg_at e
    rw [e1] at a1
    exact lv_if_ge hx hb hdec e2 a1 a2
  · cases hm
theorem zs_icmp_ge (F : zfx p R s m args meth c D cO A b L xs k) (hpc : zat (gPc k) i = some pc) (hdec : decode (gMe k).2.1 pc = .ok (o, len)) {t : Int} {x y : Int32} (hm : zmt (gMe k).1 (gMe k).2.2.1 (gPc k) i pc o len (.if_icmp .ge t) = true) (n1 : y ≤ x → zGo p l e R s m args below meth c Q D cO A b L xs ad0 n0 s0 k t.toNat lv r M) (n2 : ¬ (y ≤ x) → zGo p l e R s m args below meth c Q D cO A b L xs ad0 n0 s0 k (i + 1) lv r M) : zGo p l e R s m args below meth c Q D cO A b L xs ad0 n0 s0 k i lv (.int y :: .int x :: r) M := by
  intro ad ls H locs h
  obtain ⟨hx, hb, hml, hown, hts, hnest, hover, hr, hlocks, hname, hK, hX, hbl, hbA, hA, hfr, hlo⟩ := F
  have h' := zrl_st (st' := r) h (fun v hv => h.2.2.2.2.2.2.2.1 v (List.mem_cons_of_mem _ (List.mem_cons_of_mem _ hv)))
  have a1 := fun q => n1 q ad ls H locs h'
  have a2 := fun q => n2 q ad ls H locs h'
  simp only [zmt, Bool.and_eq_true, decide_eq_true_eq] at hm
  obtain ⟨hnx, hm⟩ := hm
  rw [hnx] at a2
  rw [hpc]
  split at hm
  · obtain ⟨⟨rfl, rfl⟩, e⟩ : (_ ∧ _) ∧ _ := by simpa only [Bool.and_eq_true, decide_eq_true_eq] using hm
    obtain ⟨tgt, e1, e2⟩ := ztg_at e
    rw [e1] at a1
    exact lv_icmp_ge hx hb hdec e2 a1 a2
  · cases hm
theorem zs_if_gt (F : zfx p R s m args meth c D cO A b L xs k) (hpc : zat (gPc k) i = some pc) (hdec : decode (gMe k).2.1 pc = .ok (o, len)) {t : Int} {x : Int32} (hm : zmt (gMe k).1 (gMe k).2.2.1 (gPc k) i pc o len (.ifCond .gt t) = true) (n1 : 0 < x → zGo p l e R s m args below meth c Q D cO A b L xs ad0 n0 s0 k t.toNat lv r M) (n2 : ¬ (0 < x) → zGo p l e R s m args below meth c Q D cO A b L xs ad0 n0 s0 k (i + 1) lv r M) : zGo p l e R s m args below meth c Q D cO A b L xs ad0 n0 s0 k i lv (.int x :: r) M := by
  intro ad ls H locs h
  obtain ⟨hx, hb, hml, hown, hts, hnest, hover, hr, hlocks, hname, hK, hX, hbl, hbA, hA, hfr, hlo⟩ := F
  have h' := zrl_st (st' := r) h (fun v hv => h.2.2.2.2.2.2.2.1 v (List.mem_cons_of_mem _ hv))
  have a1 := fun q => n1 q ad ls H locs h'
  have a2 := fun q => n2 q ad ls H locs h'
  simp only [zmt, Bool.and_eq_true, decide_eq_true_eq] at hm
  obtain ⟨hnx, hm⟩ := hm
  rw [hnx] at a2
  rw [hpc]
  split at hm
  · obtain ⟨⟨rfl, rfl⟩, e⟩ : (_ ∧ _) ∧ _ := by simpa only [Bool.and_eq_true, decide_eq_true_eq] using hm
    obtain ⟨tgt, e1, e2⟩ := ztg_at e
    rw [e1] at a1
    exact lv_if_gt hx hb hdec e2 a1 a2
  · cases hm
theorem zs_icmp_gt (F : zfx p R s m args meth c D cO A b L xs k) (hpc : zat (gPc k) i = some pc) (hdec : decode (gMe k).2.1 pc = .ok (o, len)) {t : Int} {x y : Int32} (hm : zmt (gMe k).1 (gMe k).2.2.1 (gPc k) i pc o len (.if_icmp .gt t) = true) (n1 : y < x → zGo p l e R s m args below meth c Q D cO A b L xs ad0 n0 s0 k t.toNat lv r M) (n2 : ¬ (y < x) → zGo p l e R s m args below meth c Q D cO A b L xs ad0 n0 s0 k (i + 1) lv r M) : zGo p l e R s m args below meth c Q D cO A b L xs ad0 n0 s0 k i lv (.int y :: .int x :: r) M := by
  intro ad ls H locs h
  obtain ⟨hx, hb, hml, hown, hts, hnest, hover, hr, hlocks, hname, hK, hX, hbl, hbA, hA, hfr, hlo⟩ := F
  have h' := zrl_st (st' := r) h (fun v hv => h.2.2.2.2.2.2.2.1 v (List.mem_cons_of_mem _ (List.mem_cons_of_mem _ hv)))
  have a1 := fun q => n1 q ad ls H locs h'
  have a2 := fun q => n2 q ad ls H locs h'
  simp only [zmt, Bool.and_eq_true, decide_eq_true_eq] at hm
  obtain ⟨hnx, hm⟩ := hm
  rw [hnx] at a2
  rw [hpc]
  split at hm
  · obtain ⟨⟨rfl, rfl⟩, e⟩ : (_ ∧ _) ∧ _ := by simpa only [Bool.and_eq_true, decide_eq_true_eq] using hm
    obtain ⟨tgt, e1, e2⟩ := ztg_at e
    rw [e1] at a1
    exact lv_icmp_gt hx hb hdec e2 a1 a2
  · cases hm
theorem zs_if_le (F : zfx p R s m args meth c D cO A b L xs k) (hpc : zat (gPc k) i = some pc) (hdec : decode (gMe k).2.1 pc = .ok (o, len)) {t : Int} {x : Int32} (hm : zmt (gMe k).1 (gMe k).2.2.1 (gPc k) i pc o len (.ifCond .le t) = true) (n1 : x ≤ 0 → zGo p l e R s m args below meth c Q D cO A b L xs ad0 n0 s0 k t.toNat lv r M) (n2 : ¬ (x ≤ 0) → zGo p l e R s m args below meth c Q D cO A b L xs ad0 n0 s0 k (i + 1) lv r M) : zGo p l e R s m args below meth c Q D cO A b L xs ad0 n0 s0 k i lv (.int x :: r) M := by
  intro ad ls H locs h
  obtain ⟨hx, hb, hml, hown, hts, hnest, hover, hr, hlocks, hname, hK, hX, hbl, hbA, hA, hfr, hlo⟩ := F
  have h' := zrl_st (st' := r) h (fun v hv => h.2.2.2.2.2.2.2.1 v (List.mem_cons_of_mem _ hv))
  have a1 := fun q => n1 q ad ls H locs h'
  have a2 := fun q => n2 q ad ls H locs h'
  simp only [zmt, Bool.and_eq_true, decide_eq_true_eq] at hm
  obtain ⟨hnx, hm⟩ := hm
  rw [hnx] at a2
  rw [hpc]
  split at hm
  · obtain ⟨⟨rfl, rfl⟩, e⟩ : (_ ∧ _) ∧ _ := by simpa only [Bool.and_eq_true, decide_eq_true_eq] using hm
    obtain ⟨tgt, e1, e2⟩ := ztg_at e
    rw [e1] at a1
    exact lv_if_le hx hb hdec e2 a1 a2
  · cases hm
theorem zs_icmp_le (F : zfx p R s m args meth c D cO A b L xs k) (hpc : zat (gPc k) i = some pc) (hdec : decode (gMe k).2.1 pc = .ok (o, len)) {t : Int} {x y : Int32} (hm : zmt (gMe k).1 (gMe k).2.2.1 (gPc k) i pc o len (.if_icmp .le t) = true) (n1 : x ≤ y → zGo p l e R s m args below meth c Q D cO A b L xs ad0 n0 s0 k t.toNat lv r M) (n2 : ¬ (x ≤ y) → zGo p l e R s m args below meth c Q D cO A b L xs ad0 n0 s0 k (i + 1) lv r M) : zGo p l e R s m args below meth c Q D cO A b L xs ad0 n0 s0 k i lv (.int y :: .int x :: r) M := by
  intro ad ls H locs h
  obtain ⟨hx, hb, hml, hown, hts, hnest, hover, hr, hlocks, hname, hK, hX, hbl, hbA, hA, hfr, hlo⟩ := F
  have h' := zrl_st (st' := r) h (fun v hv => h.2.2.2.2.2.2.2.1 v (List.mem_cons_of_mem _ (List.mem_cons_of_mem _ hv)))
  have a1 := fun q => n1 q ad ls H locs h'
  have a2 := fun q => n2 q ad ls H locs h'
  simp only [zmt, Bool.and_eq_true, decide_eq_true_eq] at hm
  obtain ⟨hnx, hm⟩ := hm
  rw [hnx] at a2
  rw [hpc]
  split at hm
  · obtain ⟨⟨rfl, rfl⟩, e⟩ : (_ ∧ _) ∧ _ := by simpa only [Bool.and_eq_true, decide_eq_true_eq] using hm
    obtain ⟨tgt, e1, e2⟩ := ztg_at e
    rw [e1] at a1
    exact lv_icmp_le hx hb hdec e2 a1 a2
  · cases hm
end ZS
end
section
/-! instructions on the heap -/
theorem zV_ref {ad : Nat → Nat} {a : Nat} (h : 2 ≤ a) : zV ad (.ref a) = .ref (ad a) := by
  show va_rf (zro ad a) = _
  unfold zro
  rw [if_neg (by omega)]
  rfl
section ZH
variable {p : Program} {l : Launch} {e : Env} {R : Room} {s : State} {m : MethodId} {args : Array Value} {below : List Frame} {meth : Method} {c : Code} {Q : State → Prop} {D : va_G} {cO : Nat → ClassId} {A : Nat → Prop} {b L : Nat} {xs : Nat → Int32} {ad0 : Nat → Nat} {n0 s0 k : Nat} {i pc len : Nat} {lv : zLv} {r : List Value} {M : zM} {o : Instr}
theorem zs_getfield (F : zfx p R s m args meth c D cO A b L xs k) (hpc : zat (gPc k) i = some pc) (hdec : decode (gMe k).2.1 pc = .ok (o, len)) {x a : Nat} (hm : zmt (gMe k).1 (gMe k).2.2.1 (gPc k) i pc o len (.getfield x) = true) (hsh : (zsh M a).1 = 10 + x / 1000) (nx : zGo p l e R s m args below meth c Q D cO A b L xs ad0 n0 s0 k (i + 1) lv (cond (x % 10 == 2) (.ref (zR M a (x / 10 % 100))) (.int (zI M a (x / 10 % 100))) :: r) M) : zGo p l e R s m args below meth c Q D cO A b L xs ad0 n0 s0 k i lv (.ref a :: r) M := by
  intro ad ls H locs h
  obtain ⟨hx, hb, hml, hown, hts, hnest, hover, hr, hlocks, hname, hK, hX, hbl, hbA, hA, hfr, hlo⟩ := F
  have hids := zin_ids h.2.2.2.1 (a := a) (by omega)
  have a1 := nx ad ls H locs (zrl_st h (fun v hv => by
    rcases List.mem_cons.mp hv with rfl | hv
    · cases x % 10 == 2
      · exact trivial
      · exact h.2.2.2.1.2.2 a _
    · exact h.2.2.2.2.2.2.2.1 v (List.mem_cons_of_mem _ hv)))
  have hg := zws_get (fk := gFk) (cO := cO) (ad := ad) hids
  rw [zE_obj hsh] at hg
  simp only [zmt, Bool.and_eq_true, decide_eq_true_eq] at hm
  obtain ⟨hnx, hm⟩ := hm
  rw [hnx] at a1
  rw [hpc, List.map_cons, zV_ref hids.1]
  split at hm
  · obtain ⟨rfl, ee⟩ : _ ∧ _ := by simpa only [Bool.and_eq_true, decide_eq_true_eq] using hm
    unfold zfd at ee
    split at ee
    · rename_i q hq
      obtain ⟨e0, ⟨e1, e2⟩, e3⟩ : _ ∧ (_ ∧ _) ∧ _ := by simpa only [Bool.and_eq_true, decide_eq_true_eq] using ee
      have hC := gcl_ok _ _ hq
      refine va_get (C := q.1) (T := q.2.1) (N := q.2.2) hx hb hts hC.1 hown hK h.1 (a - 2) hg hq (x / 10 % 100) e0 (hts _ (zwd_in e3)) (fun _ h => h) (zfs_get (by rw [e1]; exact e0)) hdec ?_
      rw [e2]
      cases hz : x % 10 == 2
      · rw [hz] at a1; exact a1
      · rw [hz] at a1; exact a1
    · cases ee
  · cases hm
theorem zs_putI (F : zfx p R s m args meth c D cO A b L xs k) (hpc : zat (gPc k) i = some pc) (hdec : decode (gMe k).2.1 pc = .ok (o, len)) {x a : Nat} {v : Int32} (hm : zmt (gMe k).1 (gMe k).2.2.1 (gPc k) i pc o len (.putfield x) = true) (h2 : (x % 10 == 2) = false) (hz : (x % 10 == 1) = true → zb v) (hsh : (zsh M a).1 = 10 + x / 1000) (nx : zGo p l e R s m args below meth c Q D cO A b L xs ad0 n0 s0 k (i + 1) lv r (zuI M a (x / 10 % 100) v)) : zGo p l e R s m args below meth c Q D cO A b L xs ad0 n0 s0 k i lv (.int v :: .ref a :: r) M := by
  intro ad ls H locs h
  obtain ⟨hx, hb, hml, hown, hts, hnest, hover, hr, hlocks, hname, hK, hX, hbl, hbA, hA, hfr, hlo⟩ := F
  have hids := zin_ids h.2.2.2.1 (a := a) (by omega)
  have hg := zws_get (fk := gFk) (cO := cO) (ad := ad) hids
  rw [zE_obj hsh] at hg
  simp only [zmt, Bool.and_eq_true, decide_eq_true_eq] at hm
  obtain ⟨hnx, hm⟩ := hm
  rw [hpc, List.map_cons, List.map_cons, zV_ref hids.1]
  split at hm
  · obtain ⟨rfl, ee⟩ : _ ∧ _ := by simpa only [Bool.and_eq_true, decide_eq_true_eq] using hm
    unfold zfd at ee
    split at ee
    · rename_i q hq
      obtain ⟨e0, ⟨⟨⟨e1, e2⟩, e4⟩, e5⟩, e3⟩ : _ ∧ ((((_ ∧ _) ∧ _) ∧ _) ∧ _) := by simpa only [Bool.and_eq_true, decide_eq_true_eq] using ee
      have hC := gcl_ok _ _ hq
      have hfk : ((gFk (x / 1000)).getD (x / 10 % 100) 0 == 2) = false := by rw [e2]; exact h2
      have hnf : narrow (gTy (x / 1000) (x / 10 % 100)) (.int v) = .int v ∧ fits (gTy (x / 1000) (x / 10 % 100)) (.int v) = true := by
        revert e4 hz h2
        generalize gTy (x / 1000) (x / 10 % 100) = t
        generalize x % 10 = kd
        intro h2 hz e4
        unfold ztk at e4
        split at e4
        · exact ⟨rfl, rfl⟩
        · rcases hz rfl with rfl | rfl <;> exact ⟨by decide, by decide⟩
        · exact absurd h2 (by decide)
        · exact absurd h2 (by decide)
        · cases e4
      have key : ∀ (H1 : Heap) (locs1 : List Loc), va_P D gCl ((zws gFk cO ad M).set (a - 2) (ad a, .inr (x / 1000, (zfs gFk ad M a (x / 1000)).set (x / 10 % 100) (.int v)))) H1 → va_D A ((zws gFk cO ad M).set (a - 2) (ad a, .inr (x / 1000, (zfs gFk ad M a (x / 1000)).set (x / 10 % 100) (.int v)))) → va_S A s.heap H1 locs1 → W p l e R s m args below meth c H1 locs1 (zn M - n0) (zs M - s0) Q (F0 m (pc + 3) ls (r.map (zV ad))) := by
        intro H1 locs1 hP1 hD1 hS1
        have hset : (zws gFk cO ad M).set (a - 2) (ad a, .inr (x / 1000, (zfs gFk ad M a (x / 1000)).set (x / 10 % 100) (.int v))) = zws gFk cO ad (zuI M a (x / 10 % 100) v) := by
          rw [zfs_uI hfk, ← zE_obj (fk := gFk) (cO := cO) (ad := ad) (M := zuI M a (x / 10 % 100) v) hsh]
          refine zws_upd hids rfl fun y hy => zE_same rfl (fun j => ?_) (fun _ => rfl) (fun _ => rfl)
          simp [zI, zuI, hy]
        rw [hset] at hP1 hD1
        have a1 := nx ad ls H1 locs1 ⟨hP1, hD1, hS1, zinv_uI h.2.2.2.1, zscr_uI h.2.2.2.2.1 hids.1, h.2.2.2.2.2.1, h.2.2.2.2.2.2.1, fun v hv => h.2.2.2.2.2.2.2.1 v (List.mem_cons_of_mem _ (List.mem_cons_of_mem _ hv)), h.2.2.2.2.2.2.2.2⟩
        rw [hnx] at a1
        exact a1
      rcases Bool.eq_false_or_eq_true (q.2.1 (x / 10 % 100)).2.2.2 with hf | hf
      · rw [hf] at e5
        obtain ⟨n1, n2⟩ : _ ∧ _ := by simpa only [Bool.not_true, Bool.false_or, Bool.and_eq_true, decide_eq_true_eq] using e5
        exact va_putF (C := q.1) (T := q.2.1) (N := q.2.2) hx hb hts hC.1 (gTy (x / 1000)) hC.2.1 hC.2.2 hown hK h.1 h.2.1 h.2.2.1 (a - 2) hg hq (x / 10 % 100) e0 (hts _ (zwd_in e3)) (fun _ h => h) hf (hname n1) n2 (hC.2.1 _ e0) hnf.1 hnf.2 (by rw [zfs_len, e1]; exact e0) hdec key
      · exact va_put (C := q.1) (T := q.2.1) (N := q.2.2) hx hb hts hC.1 (gTy (x / 1000)) hC.2.1 hC.2.2 hown hK h.1 h.2.1 h.2.2.1 (a - 2) hg hq (x / 10 % 100) e0 (hts _ (zwd_in e3)) (fun _ h => h) hf (hC.2.1 _ e0) hnf.1 hnf.2 (by rw [zfs_len, e1]; exact e0) hdec key
    · cases ee
  · cases hm
theorem zs_putR (F : zfx p R s m args meth c D cO A b L xs k) (hpc : zat (gPc k) i = some pc) (hdec : decode (gMe k).2.1 pc = .ok (o, len)) {x a v : Nat} (hm : zmt (gMe k).1 (gMe k).2.2.1 (gPc k) i pc o len (.putfield x) = true) (h2 : (x % 10 == 2) = true) (hsh : (zsh M a).1 = 10 + x / 1000) (nx : zGo p l e R s m args below meth c Q D cO A b L xs ad0 n0 s0 k (i + 1) lv r (zuR M a (x / 10 % 100) v)) : zGo p l e R s m args below meth c Q D cO A b L xs ad0 n0 s0 k i lv (.ref v :: .ref a :: r) M := by
  intro ad ls H locs h
  obtain ⟨hx, hb, hml, hown, hts, hnest, hover, hr, hlocks, hname, hK, hX, hbl, hbA, hA, hfr, hlo⟩ := F
  have hids := zin_ids h.2.2.2.1 (a := a) (by omega)
  have hvn : v < zn M := h.2.2.2.2.2.2.2.1 (.ref v) List.mem_cons_self
  have hg := zws_get (fk := gFk) (cO := cO) (ad := ad) hids
  rw [zE_obj hsh] at hg
  simp only [zmt, Bool.and_eq_true, decide_eq_true_eq] at hm
  obtain ⟨hnx, hm⟩ := hm
  rw [hpc, List.map_cons, List.map_cons, zV_ref hids.1]
  split at hm
  · obtain ⟨rfl, ee⟩ : _ ∧ _ := by simpa only [Bool.and_eq_true, decide_eq_true_eq] using hm
    unfold zfd at ee
    split at ee
    · rename_i q hq
      obtain ⟨e0, ⟨⟨⟨e1, e2⟩, e4⟩, e5⟩, e3⟩ : _ ∧ ((((_ ∧ _) ∧ _) ∧ _) ∧ _) := by simpa only [Bool.and_eq_true, decide_eq_true_eq] using ee
      have hC := gcl_ok _ _ hq
      have hfk : ((gFk (x / 1000)).getD (x / 10 % 100) 0 == 2) = true := by rw [e2]; exact h2
      have hnf : narrow (gTy (x / 1000) (x / 10 % 100)) (zV ad (.ref v)) = zV ad (.ref v) ∧ fits (gTy (x / 1000) (x / 10 % 100)) (zV ad (.ref v)) = true := by
        revert e4 h2
        generalize gTy (x / 1000) (x / 10 % 100) = t
        generalize x % 10 = kd
        intro h2 e4
        show narrow t (va_rf (zro ad v)) = va_rf (zro ad v) ∧ fits t (va_rf (zro ad v)) = true
        unfold ztk at e4
        split at e4
        · exact absurd h2 (by decide)
        · exact absurd h2 (by decide)
        · cases zro ad v <;> exact ⟨rfl, rfl⟩
        · cases zro ad v <;> exact ⟨rfl, rfl⟩
        · cases e4
      have key : ∀ (H1 : Heap) (locs1 : List Loc), va_P D gCl ((zws gFk cO ad M).set (a - 2) (ad a, .inr (x / 1000, (zfs gFk ad M a (x / 1000)).set (x / 10 % 100) (zV ad (.ref v))))) H1 → va_D A ((zws gFk cO ad M).set (a - 2) (ad a, .inr (x / 1000, (zfs gFk ad M a (x / 1000)).set (x / 10 % 100) (zV ad (.ref v))))) → va_S A s.heap H1 locs1 → W p l e R s m args below meth c H1 locs1 (zn M - n0) (zs M - s0) Q (F0 m (pc + 3) ls (r.map (zV ad))) := by
        intro H1 locs1 hP1 hD1 hS1
        have hset : (zws gFk cO ad M).set (a - 2) (ad a, .inr (x / 1000, (zfs gFk ad M a (x / 1000)).set (x / 10 % 100) (zV ad (.ref v)))) = zws gFk cO ad (zuR M a (x / 10 % 100) v) := by
          rw [show zV ad (.ref v) = va_rf (zro ad v) from rfl, zfs_uR hfk, ← zE_obj (fk := gFk) (cO := cO) (ad := ad) (M := zuR M a (x / 10 % 100) v) hsh]
          refine zws_upd hids rfl fun y hy => zE_same rfl (fun _ => rfl) (fun _ => rfl) (fun j => ?_)
          simp [zR, zuR, hy]
        rw [hset] at hP1 hD1
        have a1 := nx ad ls H1 locs1 ⟨hP1, hD1, hS1, zinv_uR h.2.2.2.1 hvn, h.2.2.2.2.1, h.2.2.2.2.2.1, h.2.2.2.2.2.2.1, fun v hv => h.2.2.2.2.2.2.2.1 v (List.mem_cons_of_mem _ (List.mem_cons_of_mem _ hv)), h.2.2.2.2.2.2.2.2⟩
        rw [hnx] at a1
        exact a1
      rcases Bool.eq_false_or_eq_true (q.2.1 (x / 10 % 100)).2.2.2 with hf | hf
      · rw [hf] at e5
        obtain ⟨n1, n2⟩ : _ ∧ _ := by simpa only [Bool.not_true, Bool.false_or, Bool.and_eq_true, decide_eq_true_eq] using e5
        exact va_putF (C := q.1) (T := q.2.1) (N := q.2.2) hx hb hts hC.1 (gTy (x / 1000)) hC.2.1 hC.2.2 hown hK h.1 h.2.1 h.2.2.1 (a - 2) hg hq (x / 10 % 100) e0 (hts _ (zwd_in e3)) (fun _ h => h) hf (hname n1) n2 (hC.2.1 _ e0) hnf.1 hnf.2 (by rw [zfs_len, e1]; exact e0) hdec key
      · exact va_put (C := q.1) (T := q.2.1) (N := q.2.2) hx hb hts hC.1 (gTy (x / 1000)) hC.2.1 hC.2.2 hown hK h.1 h.2.1 h.2.2.1 (a - 2) hg hq (x / 10 % 100) e0 (hts _ (zwd_in e3)) (fun _ h => h) hf (hC.2.1 _ e0) hnf.1 hnf.2 (by rw [zfs_len, e1]; exact e0) hdec key
    · cases ee
  · cases hm
end ZH
end
section
/-! arrays and makings (by wip/whole/genarr.py) -/
section ZA
variable {p : Program} {l : Launch} {e : Env} {R : Room} {s : State} {m : MethodId} {args : Array Value} {below : List Frame} {meth : Method} {c : Code} {Q : State → Prop} {D : va_G} {cO : Nat → ClassId} {A : Nat → Prop} {b L : Nat} {xs : Nat → Int32} {ad0 : Nat → Nat} {n0 s0 k : Nat} {i pc len : Nat} {lv : zLv} {r : List Value} {M : zM} {o : Instr}
theorem zs_iaload (F : zfx p R s m args meth c D cO A b L xs k) (hpc : zat (gPc k) i = some pc) (hdec : decode (gMe k).2.1 pc = .ok (.iaload, 1)) (hnx : zat (gPc k) (i + 1) = some (pc + 1)) {a : Nat} {j : Int32} (hsh : (zsh M a).1 = 2) (hin : zin j (zsh M a).2) (nx : zGo p l e R s m args below meth c Q D cO A b L xs ad0 n0 s0 k (i + 1) lv (.int (zI M a j.toNatClampNeg) :: r) M) : zGo p l e R s m args below meth c Q D cO A b L xs ad0 n0 s0 k i lv (.int j :: .ref a :: r) M := by
  intro ad ls H locs h
  obtain ⟨hx, hb, hml, hown, hts, hnest, hover, hr, hlocks, hname, hK, hX, hbl, hbA, hA, hfr, hlo⟩ := F
  have hids := zin_ids h.2.2.2.1 (a := a) (by omega)
  have a1 := nx ad ls H locs (zrl_st h (fun v hv => by rcases List.mem_cons.mp hv with rfl | hv; exact trivial; exact h.2.2.2.2.2.2.2.1 v (List.mem_cons_of_mem _ (List.mem_cons_of_mem _ hv))))
  have hg := zws_get (fk := gFk) (cO := cO) (ad := ad) hids
  rw [zE_arr hsh rfl] at hg
  rw [hnx] at a1
  rw [hpc, List.map_cons, List.map_cons, zV_ref hids.1]
  exact va_iald hx hb hK h.1 (a - 2) 0 hg rfl hin hdec a1
theorem zs_laload (F : zfx p R s m args meth c D cO A b L xs k) (hpc : zat (gPc k) i = some pc) (hdec : decode (gMe k).2.1 pc = .ok (.laload, 1)) (hnx : zat (gPc k) (i + 1) = some (pc + 1)) {a : Nat} {j : Int32} (hsh : (zsh M a).1 = 3) (hin : zin j (zsh M a).2) (nx : zGo p l e R s m args below meth c Q D cO A b L xs ad0 n0 s0 k (i + 1) lv (.long (zL M a j.toNatClampNeg) :: r) M) : zGo p l e R s m args below meth c Q D cO A b L xs ad0 n0 s0 k i lv (.int j :: .ref a :: r) M := by
  intro ad ls H locs h
  obtain ⟨hx, hb, hml, hown, hts, hnest, hover, hr, hlocks, hname, hK, hX, hbl, hbA, hA, hfr, hlo⟩ := F
  have hids := zin_ids h.2.2.2.1 (a := a) (by omega)
  have a1 := nx ad ls H locs (zrl_st h (fun v hv => by rcases List.mem_cons.mp hv with rfl | hv; exact trivial; exact h.2.2.2.2.2.2.2.1 v (List.mem_cons_of_mem _ (List.mem_cons_of_mem _ hv))))
  have hg := zws_get (fk := gFk) (cO := cO) (ad := ad) hids
  rw [zE_arr hsh rfl] at hg
  rw [hnx] at a1
  rw [hpc, List.map_cons, List.map_cons, zV_ref hids.1]
  exact va_lald hx hb hK h.1 (a - 2) 1 hg rfl hin hdec a1
theorem zs_baload (F : zfx p R s m args meth c D cO A b L xs k) (hpc : zat (gPc k) i = some pc) (hdec : decode (gMe k).2.1 pc = .ok (.baload, 1)) (hnx : zat (gPc k) (i + 1) = some (pc + 1)) {a : Nat} {j : Int32} (hsh : (zsh M a).1 = 4) (hin : zin j (zsh M a).2) (nx : zGo p l e R s m args below meth c Q D cO A b L xs ad0 n0 s0 k (i + 1) lv (.int (zI M a j.toNatClampNeg) :: r) M) : zGo p l e R s m args below meth c Q D cO A b L xs ad0 n0 s0 k i lv (.int j :: .ref a :: r) M := by
  intro ad ls H locs h
  obtain ⟨hx, hb, hml, hown, hts, hnest, hover, hr, hlocks, hname, hK, hX, hbl, hbA, hA, hfr, hlo⟩ := F
  have hids := zin_ids h.2.2.2.1 (a := a) (by omega)
  have a1 := nx ad ls H locs (zrl_st h (fun v hv => by rcases List.mem_cons.mp hv with rfl | hv; exact trivial; exact h.2.2.2.2.2.2.2.1 v (List.mem_cons_of_mem _ (List.mem_cons_of_mem _ hv))))
  have hg := zws_get (fk := gFk) (cO := cO) (ad := ad) hids
  rw [zE_arr hsh rfl] at hg
  rw [hnx] at a1
  rw [hpc, List.map_cons, List.map_cons, zV_ref hids.1]
  exact va_zald hx hb hK h.1 (a - 2) 2 hg rfl hin hdec a1
theorem zs_aaload (F : zfx p R s m args meth c D cO A b L xs k) (hpc : zat (gPc k) i = some pc) (hdec : decode (gMe k).2.1 pc = .ok (.aaload, 1)) (hnx : zat (gPc k) (i + 1) = some (pc + 1)) {a kd : Nat} {j : Int32} (hsh : (zsh M a).1 = 5 + kd % 2) (hin : zin j (zsh M a).2) (nx : zGo p l e R s m args below meth c Q D cO A b L xs ad0 n0 s0 k (i + 1) lv (.ref (zR M a j.toNatClampNeg) :: r) M) : zGo p l e R s m args below meth c Q D cO A b L xs ad0 n0 s0 k i lv (.int j :: .ref a :: r) M := by
  intro ad ls H locs h
  obtain ⟨hx, hb, hml, hown, hts, hnest, hover, hr, hlocks, hname, hK, hX, hbl, hbA, hA, hfr, hlo⟩ := F
  have hids := zin_ids h.2.2.2.1 (a := a) (by omega)
  have a1 := nx ad ls H locs (zrl_st h (fun v hv => by rcases List.mem_cons.mp hv with rfl | hv; exact h.2.2.2.1.2.2 a _; exact h.2.2.2.2.2.2.2.1 v (List.mem_cons_of_mem _ (List.mem_cons_of_mem _ hv))))
  have hg := zws_get (fk := gFk) (cO := cO) (ad := ad) hids
  rw [hnx] at a1
  rw [hpc, List.map_cons, List.map_cons, zV_ref hids.1]
  rcases Nat.mod_two_eq_zero_or_one kd with hk | hk
  · rw [hk] at hsh
    rw [zE_arr hsh rfl] at hg
    exact va_aldq hx hb hK h.1 (a - 2) 3 hg rfl hin hdec a1
  · rw [hk] at hsh
    rw [zE_arr hsh rfl] at hg
    exact va_aldq hx hb hK h.1 (a - 2) 4 hg rfl hin hdec a1
theorem zs_iastore (F : zfx p R s m args meth c D cO A b L xs k) (hpc : zat (gPc k) i = some pc) (hdec : decode (gMe k).2.1 pc = .ok (.iastore, 1)) (hnx : zat (gPc k) (i + 1) = some (pc + 1)) {a : Nat} {j : Int32} {x : Int32} (hsh : (zsh M a).1 = 2) (hin : zin j (zsh M a).2) (nx : zGo p l e R s m args below meth c Q D cO A b L xs ad0 n0 s0 k (i + 1) lv r (zuI M a j.toNatClampNeg x)) : zGo p l e R s m args below meth c Q D cO A b L xs ad0 n0 s0 k i lv (.int x :: .int j :: .ref a :: r) M := by
  intro ad ls H locs h
  obtain ⟨hx, hb, hml, hown, hts, hnest, hover, hr, hlocks, hname, hK, hX, hbl, hbA, hA, hfr, hlo⟩ := F
  have hids := zin_ids h.2.2.2.1 (a := a) (by omega)
  have hg := zws_get (fk := gFk) (cO := cO) (ad := ad) hids
  rw [zE_arr hsh rfl] at hg
  rw [hpc, List.map_cons, List.map_cons, List.map_cons, zV_ref hids.1]
  have hset : (zws gFk cO ad M).set (a - 2) (ad a, .inl (cO 2, (zsh M a).2, .inl (upd (zI M a) j.toNatClampNeg x))) = zws gFk cO ad (zuI M a j.toNatClampNeg x) := by
    have e2 : zE gFk cO ad (zuI M a j.toNatClampNeg x) a = .inl (cO 2, (zsh M a).2, .inl (upd (zI M a) j.toNatClampNeg x)) := by
      rw [zE_arr (M := zuI M a j.toNatClampNeg x) hsh rfl]
      have e3 : zI (zuI M a j.toNatClampNeg x) a = upd (zI M a) j.toNatClampNeg x := by
        funext q
        simp [zI, zuI, upd]
      unfold zar
      rw [e3]
      rfl
    rw [← e2]
    refine zws_upd hids rfl fun y hy => zE_same rfl (fun q => ?_) (fun q => ?_) (fun q => rfl)
    · simp [zI, zuI, hy]
    · simp [zL, zuI, hy]
  refine va_iast hx hb hK h.1 h.2.1 h.2.2.1 (a - 2) 0 hg rfl hin hdec fun H1 locs1 hP1 hD1 hS1 => ?_
  have hP1 : va_P D gCl ((zws gFk cO ad M).set (a - 2) (ad a, .inl (cO 2, (zsh M a).2, .inl (upd (zI M a) j.toNatClampNeg x)))) H1 := hP1
  have hD1 : va_D A ((zws gFk cO ad M).set (a - 2) (ad a, .inl (cO 2, (zsh M a).2, .inl (upd (zI M a) j.toNatClampNeg x)))) := hD1
  rw [hset] at hP1 hD1
  have a1 := nx ad ls H1 locs1 ⟨hP1, hD1, hS1, h.2.2.2.1, zscr_uI h.2.2.2.2.1 hids.1, h.2.2.2.2.2.1, h.2.2.2.2.2.2.1, fun v hv => h.2.2.2.2.2.2.2.1 v (List.mem_cons_of_mem _ (List.mem_cons_of_mem _ (List.mem_cons_of_mem _ hv))), h.2.2.2.2.2.2.2.2⟩
  rw [hnx] at a1
  exact a1
theorem zs_lastore (F : zfx p R s m args meth c D cO A b L xs k) (hpc : zat (gPc k) i = some pc) (hdec : decode (gMe k).2.1 pc = .ok (.lastore, 1)) (hnx : zat (gPc k) (i + 1) = some (pc + 1)) {a : Nat} {j : Int32} {x : Int64} (hsh : (zsh M a).1 = 3) (hin : zin j (zsh M a).2) (nx : zGo p l e R s m args below meth c Q D cO A b L xs ad0 n0 s0 k (i + 1) lv r (zuL M a j.toNatClampNeg x)) : zGo p l e R s m args below meth c Q D cO A b L xs ad0 n0 s0 k i lv (.long x :: .int j :: .ref a :: r) M := by
  intro ad ls H locs h
  obtain ⟨hx, hb, hml, hown, hts, hnest, hover, hr, hlocks, hname, hK, hX, hbl, hbA, hA, hfr, hlo⟩ := F
  have hids := zin_ids h.2.2.2.1 (a := a) (by omega)
  have hg := zws_get (fk := gFk) (cO := cO) (ad := ad) hids
  rw [zE_arr hsh rfl] at hg
  rw [hpc, List.map_cons, List.map_cons, List.map_cons, zV_ref hids.1]
  have hset : (zws gFk cO ad M).set (a - 2) (ad a, .inl (cO 3, (zsh M a).2, .inr (.inl (vp_updL (zL M a) j.toNatClampNeg x)))) = zws gFk cO ad (zuL M a j.toNatClampNeg x) := by
    have e2 : zE gFk cO ad (zuL M a j.toNatClampNeg x) a = .inl (cO 3, (zsh M a).2, .inr (.inl (vp_updL (zL M a) j.toNatClampNeg x))) := by
      rw [zE_arr (M := zuL M a j.toNatClampNeg x) hsh rfl]
      have e3 : zL (zuL M a j.toNatClampNeg x) a = vp_updL (zL M a) j.toNatClampNeg x := by
        funext q
        simp [zL, zuL, vp_updL]
      unfold zar
      rw [e3]
      rfl
    rw [← e2]
    refine zws_upd hids rfl fun y hy => zE_same rfl (fun q => ?_) (fun q => ?_) (fun q => rfl)
    · simp [zI, zuL, hy]
    · simp [zL, zuL, hy]
  refine va_last hx hb hK h.1 h.2.1 h.2.2.1 (a - 2) 1 hg rfl hin hdec fun H1 locs1 hP1 hD1 hS1 => ?_
  have hP1 : va_P D gCl ((zws gFk cO ad M).set (a - 2) (ad a, .inl (cO 3, (zsh M a).2, .inr (.inl (vp_updL (zL M a) j.toNatClampNeg x))))) H1 := hP1
  have hD1 : va_D A ((zws gFk cO ad M).set (a - 2) (ad a, .inl (cO 3, (zsh M a).2, .inr (.inl (vp_updL (zL M a) j.toNatClampNeg x))))) := hD1
  rw [hset] at hP1 hD1
  have a1 := nx ad ls H1 locs1 ⟨hP1, hD1, hS1, h.2.2.2.1, h.2.2.2.2.1, h.2.2.2.2.2.1, h.2.2.2.2.2.2.1, fun v hv => h.2.2.2.2.2.2.2.1 v (List.mem_cons_of_mem _ (List.mem_cons_of_mem _ (List.mem_cons_of_mem _ hv))), h.2.2.2.2.2.2.2.2⟩
  rw [hnx] at a1
  exact a1
theorem zs_bastore (F : zfx p R s m args meth c D cO A b L xs k) (hpc : zat (gPc k) i = some pc) (hdec : decode (gMe k).2.1 pc = .ok (.bastore, 1)) (hnx : zat (gPc k) (i + 1) = some (pc + 1)) {a : Nat} {j : Int32} {x : Int32} (hz : zb x) (hsh : (zsh M a).1 = 4) (hin : zin j (zsh M a).2) (nx : zGo p l e R s m args below meth c Q D cO A b L xs ad0 n0 s0 k (i + 1) lv r (zuI M a j.toNatClampNeg x)) : zGo p l e R s m args below meth c Q D cO A b L xs ad0 n0 s0 k i lv (.int x :: .int j :: .ref a :: r) M := by
  intro ad ls H locs h
  obtain ⟨hx, hb, hml, hown, hts, hnest, hover, hr, hlocks, hname, hK, hX, hbl, hbA, hA, hfr, hlo⟩ := F
  have hids := zin_ids h.2.2.2.1 (a := a) (by omega)
  have hg := zws_get (fk := gFk) (cO := cO) (ad := ad) hids
  rw [zE_arr hsh rfl] at hg
  rw [hpc, List.map_cons, List.map_cons, List.map_cons, zV_ref hids.1]
  have hset : (zws gFk cO ad M).set (a - 2) (ad a, .inl (cO 4, (zsh M a).2, .inl (upd (zI M a) j.toNatClampNeg x))) = zws gFk cO ad (zuI M a j.toNatClampNeg x) := by
    have e2 : zE gFk cO ad (zuI M a j.toNatClampNeg x) a = .inl (cO 4, (zsh M a).2, .inl (upd (zI M a) j.toNatClampNeg x)) := by
      rw [zE_arr (M := zuI M a j.toNatClampNeg x) hsh rfl]
      have e3 : zI (zuI M a j.toNatClampNeg x) a = upd (zI M a) j.toNatClampNeg x := by
        funext q
        simp [zI, zuI, upd]
      unfold zar
      rw [e3]
      rfl
    rw [← e2]
    refine zws_upd hids rfl fun y hy => zE_same rfl (fun q => ?_) (fun q => ?_) (fun q => rfl)
    · simp [zI, zuI, hy]
    · simp [zL, zuI, hy]
  refine va_zast hx hb hK h.1 h.2.1 h.2.2.1 (a - 2) 2 hg rfl hin hdec fun H1 locs1 hP1 hD1 hS1 => ?_
  have hnar : vp_nar .boolean x = x := by rcases hz with rfl | rfl <;> decide
  rw [hnar] at hP1 hD1
  have hP1 : va_P D gCl ((zws gFk cO ad M).set (a - 2) (ad a, .inl (cO 4, (zsh M a).2, .inl (upd (zI M a) j.toNatClampNeg x)))) H1 := hP1
  have hD1 : va_D A ((zws gFk cO ad M).set (a - 2) (ad a, .inl (cO 4, (zsh M a).2, .inl (upd (zI M a) j.toNatClampNeg x)))) := hD1
  rw [hset] at hP1 hD1
  have a1 := nx ad ls H1 locs1 ⟨hP1, hD1, hS1, h.2.2.2.1, zscr_uI h.2.2.2.2.1 hids.1, h.2.2.2.2.2.1, h.2.2.2.2.2.2.1, fun v hv => h.2.2.2.2.2.2.2.1 v (List.mem_cons_of_mem _ (List.mem_cons_of_mem _ (List.mem_cons_of_mem _ hv))), h.2.2.2.2.2.2.2.2⟩
  rw [hnx] at a1
  exact a1
theorem zs_aastore (F : zfx p R s m args meth c D cO A b L xs k) (hpc : zat (gPc k) i = some pc) (hdec : decode (gMe k).2.1 pc = .ok (o, len)) {a v x : Nat} {j : Int32} (hm : zmt (gMe k).1 (gMe k).2.2.1 (gPc k) i pc o len (.putstatic x) = true) (hsh : (zsh M a).1 = 5 + x % 2) (hin : zin j (zsh M a).2) (hv : (zsh M v).1 = 10 + x / 10) (nx : zGo p l e R s m args below meth c Q D cO A b L xs ad0 n0 s0 k (i + 1) lv r (zuR M a j.toNatClampNeg v)) : zGo p l e R s m args below meth c Q D cO A b L xs ad0 n0 s0 k i lv (.ref v :: .int j :: .ref a :: r) M := by
  intro ad ls H locs h
  obtain ⟨hx, hb, hml, hown, hts, hnest, hover, hr, hlocks, hname, hK, hX, hbl, hbA, hA, hfr, hlo⟩ := F
  have hids := zin_ids h.2.2.2.1 (a := a) (by omega)
  have hidv := zin_ids h.2.2.2.1 (a := v) (by omega)
  have hg := zws_get (fk := gFk) (cO := cO) (ad := ad) hids
  have hgv := zws_get (fk := gFk) (cO := cO) (ad := ad) hidv
  rw [zE_obj hv] at hgv
  simp only [zmt, Bool.and_eq_true, decide_eq_true_eq] at hm
  obtain ⟨⟨⟨hnx, rfl⟩, rfl⟩, hm⟩ := hm
  split at hm
  · rename_i q hq
    have hqe : q.1 = gEl (x % 2) := by simpa only [decide_eq_true_eq] using hm
    rw [hpc, List.map_cons, List.map_cons, List.map_cons, zV_ref hids.1, zV_ref hidv.1]
    have fin : ∀ (kd : Nat), (zsh M a).1 = kd → Nat.ble 10 kd = false → (kd == 3) = false → Nat.ble 5 kd = true → ∀ (H1 : Heap) (locs1 : List Loc), va_P D gCl ((zws gFk cO ad M).set (a - 2) (ad a, .inl (cO kd, (zsh M a).2, .inr (.inr (.inr (.inr (va_up (fun q => zro ad (zR M a q)) j.toNatClampNeg (some (ad v))))))))) H1 → va_D A ((zws gFk cO ad M).set (a - 2) (ad a, .inl (cO kd, (zsh M a).2, .inr (.inr (.inr (.inr (va_up (fun q => zro ad (zR M a q)) j.toNatClampNeg (some (ad v))))))))) → va_S A s.heap H1 locs1 → W p l e R s m args below meth c H1 locs1 (zn M - n0) (zs M - s0) Q (F0 m (pc + 1) ls (r.map (zV ad))) := by
      intro kd hkd b1 b2 b3 H1 locs1 hP1 hD1 hS1
      have hset : (zws gFk cO ad M).set (a - 2) (ad a, .inl (cO kd, (zsh M a).2, .inr (.inr (.inr (.inr (va_up (fun q => zro ad (zR M a q)) j.toNatClampNeg (some (ad v)))))))) = zws gFk cO ad (zuR M a j.toNatClampNeg v) := by
        have e2 : zE gFk cO ad (zuR M a j.toNatClampNeg v) a = .inl (cO kd, (zsh M a).2, .inr (.inr (.inr (.inr (va_up (fun q => zro ad (zR M a q)) j.toNatClampNeg (some (ad v))))))) := by
          rw [zE_arr (M := zuR M a j.toNatClampNeg v) hkd b1]
          have e3 : (fun q => zro ad (zR (zuR M a j.toNatClampNeg v) a q)) = va_up (fun q => zro ad (zR M a q)) j.toNatClampNeg (some (ad v)) := by
            funext q
            by_cases hq : q = j.toNatClampNeg
            · have : ¬ v = 0 := by omega
              simp [zR, zuR, va_up, hq, zro, this]
            · simp [zR, zuR, va_up, hq]
          unfold zar
          rw [e3, b2, b3]
          rfl
        rw [← e2]
        refine zws_upd hids rfl fun y hy => zE_same rfl (fun q => rfl) (fun q => rfl) (fun q => ?_)
        simp [zR, zuR, hy]
      rw [hset] at hP1 hD1
      have a1 := nx ad ls H1 locs1 ⟨hP1, hD1, hS1, zinv_uR h.2.2.2.1 hidv.2, h.2.2.2.2.1, h.2.2.2.2.2.1, h.2.2.2.2.2.2.1, fun v hv => h.2.2.2.2.2.2.2.1 v (List.mem_cons_of_mem _ (List.mem_cons_of_mem _ (List.mem_cons_of_mem _ hv))), h.2.2.2.2.2.2.2.2⟩
      rw [hnx] at a1
      exact a1
    rcases Nat.mod_two_eq_zero_or_one x with hk | hk
    · rw [hk] at hsh hqe
      rw [zE_arr hsh rfl] at hg
      exact va_astq hx hb hK h.1 h.2.1 h.2.2.1 (a - 2) 3 (v - 2) (x / 10) hg (by rw [hqe]; rfl) hgv hq hin hdec (fin 5 hsh rfl rfl rfl)
    · rw [hk] at hsh hqe
      rw [zE_arr hsh rfl] at hg
      exact va_astq hx hb hK h.1 h.2.1 h.2.2.1 (a - 2) 4 (v - 2) (x / 10) hg (by rw [hqe]; rfl) hgv hq hin hdec (fin 6 hsh rfl rfl rfl)
  · cases hm
theorem zs_saload (F : zfx p R s m args meth c D cO A b L xs k) (hpc : zat (gPc k) i = some pc) (hdec : decode (gMe k).2.1 pc = .ok (.iaload, 1)) (hnx : zat (gPc k) (i + 1) = some (pc + 1)) {j : Int32} (hin : zin j (zsh M 1).2) (nx : zGo p l e R s m args below meth c Q D cO A b L xs ad0 n0 s0 k (i + 1) lv (.int (zI M 1 j.toNatClampNeg) :: r) M) : zGo p l e R s m args below meth c Q D cO A b L xs ad0 n0 s0 k i lv (.int j :: .ref 1 :: r) M := by
  intro ad ls H locs h
  obtain ⟨hx, hb, hml, hown, hts, hnest, hover, hr, hlocks, hname, hK, hX, hbl, hbA, hA, hfr, hlo⟩ := F
  have a1 := nx ad ls H locs (zrl_st h (fun v hv => by rcases List.mem_cons.mp hv with rfl | hv; exact trivial; exact h.2.2.2.2.2.2.2.1 v (List.mem_cons_of_mem _ (List.mem_cons_of_mem _ hv))))
  rw [hnx] at a1
  have hs1 := h.2.2.2.2.1
  rw [hs1.1] at hin
  rw [List.map_cons, hs1.2] at a1
  rw [hpc, List.map_cons, List.map_cons, show zV ad (.ref 1) = .ref (ad 1) from rfl, h.2.2.2.2.2.1]
  exact va_sld hx hb hX hbl hbA h.2.2.1 hin hdec a1
theorem zs_alen (F : zfx p R s m args meth c D cO A b L xs k) (hpc : zat (gPc k) i = some pc) (hdec : decode (gMe k).2.1 pc = .ok (.arraylength, 1)) (hnx : zat (gPc k) (i + 1) = some (pc + 1)) (nx : zGo p l e R s m args below meth c Q D cO A b L xs ad0 n0 s0 k (i + 1) lv (.int (Int32.ofNat (zsh M 1).2) :: r) M) : zGo p l e R s m args below meth c Q D cO A b L xs ad0 n0 s0 k i lv (.ref 1 :: r) M := by
  intro ad ls H locs h
  obtain ⟨hx, hb, hml, hown, hts, hnest, hover, hr, hlocks, hname, hK, hX, hbl, hbA, hA, hfr, hlo⟩ := F
  have a1 := nx ad ls H locs (zrl_st h (fun v hv => by rcases List.mem_cons.mp hv with rfl | hv; exact trivial; exact h.2.2.2.2.2.2.2.1 v (List.mem_cons_of_mem _ hv)))
  rw [hnx] at a1
  have hs1 := h.2.2.2.2.1
  rw [List.map_cons, hs1.1] at a1
  rw [hpc, List.map_cons, show zV ad (.ref 1) = .ref (ad 1) from rfl, h.2.2.2.2.2.1]
  exact va_slen hx hb hX hbl hbA h.2.2.1 hdec a1
theorem zs_copyI (F : zfx p R s m args meth c D cO A b L xs k) (hpc : zat (gPc k) i = some pc) (hdec : decode (gMe k).2.1 pc = .ok (o, len)) {a b1 : Nat} {sp dp n : Int32} (hm : zmt (gMe k).1 (gMe k).2.2.1 (gPc k) i pc o len .faload = true) (ha : (zsh M a).1 = 2) (hb1 : (zsh M b1).1 = 2) (h1 : ¬ sp < 0) (h2 : ¬ dp < 0) (h3 : ¬ n < 0) (h4 : sp.toNatClampNeg + n.toNatClampNeg ≤ (zsh M a).2) (h5 : dp.toNatClampNeg + n.toNatClampNeg ≤ (zsh M b1).2) (nx : zGo p l e R s m args below meth c Q D cO A b L xs ad0 n0 s0 k (i + 1) lv [] (zcI M a sp.toNatClampNeg b1 dp.toNatClampNeg n.toNatClampNeg)) : zGo p l e R s m args below meth c Q D cO A b L xs ad0 n0 s0 k i lv [.int n, .int dp, .ref b1, .int sp, .ref a] M := by
  intro ad ls H locs h
  obtain ⟨hx, hb, hml, hown, hts, hnest, hover, hr, hlocks, hname, hK, hX, hbl, hbA, hA, hfr, hlo⟩ := F
  have hids := zin_ids h.2.2.2.1 (a := a) (by omega)
  have hidb := zin_ids h.2.2.2.1 (a := b1) (by omega)
  have hg := zws_get (fk := gFk) (cO := cO) (ad := ad) hids
  have hgb := zws_get (fk := gFk) (cO := cO) (ad := ad) hidb
  rw [zE_arr ha rfl] at hg
  rw [zE_arr hb1 rfl] at hgb
  have hset : (zws gFk cO ad M).set (b1 - 2) (ad b1, .inl (cO 2, (zsh M b1).2, .inl (va_cpy (zI M a) (zI M b1) sp.toNatClampNeg dp.toNatClampNeg n.toNatClampNeg))) = zws gFk cO ad (zcI M a sp.toNatClampNeg b1 dp.toNatClampNeg n.toNatClampNeg) := by
    have e2 : zE gFk cO ad (zcI M a sp.toNatClampNeg b1 dp.toNatClampNeg n.toNatClampNeg) b1 = .inl (cO 2, (zsh M b1).2, .inl (va_cpy (zI M a) (zI M b1) sp.toNatClampNeg dp.toNatClampNeg n.toNatClampNeg)) := by
      rw [zE_arr (M := zcI M a sp.toNatClampNeg b1 dp.toNatClampNeg n.toNatClampNeg) hb1 rfl]
      have e3 : zI (zcI M a sp.toNatClampNeg b1 dp.toNatClampNeg n.toNatClampNeg) b1 = va_cpy (zI M a) (zI M b1) sp.toNatClampNeg dp.toNatClampNeg n.toNatClampNeg := by
        funext q
        simp [zI, zcI, va_cpy]
      unfold zar
      rw [e3]
      rfl
    rw [← e2]
    refine zws_upd hidb rfl fun y hy => zE_same rfl (fun q => ?_) (fun q => ?_) (fun q => rfl)
    · simp [zI, zcI, hy]
    · simp [zL, zcI, hy]
  simp only [zmt, Bool.and_eq_true, decide_eq_true_eq] at hm
  obtain ⟨hnx, hm⟩ := hm
  rw [hpc]
  show W p l e R s m args below meth c H locs (zn M - n0) (zs M - s0) Q (F0 m pc ls [.int n, .int dp, zV ad (.ref b1), .int sp, zV ad (.ref a)])
  rw [zV_ref hids.1, zV_ref hidb.1]
  split at hm
  · obtain ⟨⟨⟨⟨rfl, w1⟩, w2⟩, w3⟩, w4⟩ : (((_ ∧ _) ∧ _) ∧ _) ∧ _ := by simpa only [Bool.and_eq_true, decide_eq_true_eq] using hm
    refine va_copyi hx hb (hml.trans h.2.2.2.2.2.2.1.1.symm) hown (hts _ (zwd_in w1)) (hts _ (zwd_in w2)) (hts _ (zwd_in w3)) (hts _ (zwd_in w4)) hK h.1 h.2.1 h.2.2.1 (a - 2) (b1 - 2) 0 0 (ty := .int) hg hgb rfl rfl rfl h1 h2 h3 h4 h5 (fun _ _ => rfl) hfr (by
      show 0 + (nativeFrameWords "java/lang/System" "arraycopy" 5 + 11) ≤ R.locals
      have : nativeFrameWords "java/lang/System" "arraycopy" 5 = 7 := by decide
      omega) hdec fun H1 locs1 hP1 hD1 hS1 => ?_
    have hP1 : va_P D gCl ((zws gFk cO ad M).set (b1 - 2) (ad b1, .inl (cO 2, (zsh M b1).2, .inl (va_cpy (zI M a) (zI M b1) sp.toNatClampNeg dp.toNatClampNeg n.toNatClampNeg)))) H1 := hP1
    have hD1 : va_D A ((zws gFk cO ad M).set (b1 - 2) (ad b1, .inl (cO 2, (zsh M b1).2, .inl (va_cpy (zI M a) (zI M b1) sp.toNatClampNeg dp.toNatClampNeg n.toNatClampNeg)))) := hD1
    rw [hset] at hP1 hD1
    have a1 := nx ad ls H1 locs1 ⟨hP1, hD1, hS1, h.2.2.2.1, zscr_cI h.2.2.2.2.1 hidb.1, h.2.2.2.2.2.1, h.2.2.2.2.2.2.1, fun v hv => absurd hv List.not_mem_nil, h.2.2.2.2.2.2.2.2⟩
    rw [hnx] at a1
    exact a1
  · cases hm
theorem zs_copyL (F : zfx p R s m args meth c D cO A b L xs k) (hpc : zat (gPc k) i = some pc) (hdec : decode (gMe k).2.1 pc = .ok (o, len)) {a b1 : Nat} {sp dp n : Int32} (hm : zmt (gMe k).1 (gMe k).2.2.1 (gPc k) i pc o len .daload = true) (ha : (zsh M a).1 = 3) (hb1 : (zsh M b1).1 = 3) (h1 : ¬ sp < 0) (h2 : ¬ dp < 0) (h3 : ¬ n < 0) (h4 : sp.toNatClampNeg + n.toNatClampNeg ≤ (zsh M a).2) (h5 : dp.toNatClampNeg + n.toNatClampNeg ≤ (zsh M b1).2) (nx : zGo p l e R s m args below meth c Q D cO A b L xs ad0 n0 s0 k (i + 1) lv [] (zcL M a sp.toNatClampNeg b1 dp.toNatClampNeg n.toNatClampNeg)) : zGo p l e R s m args below meth c Q D cO A b L xs ad0 n0 s0 k i lv [.int n, .int dp, .ref b1, .int sp, .ref a] M := by
  intro ad ls H locs h
  obtain ⟨hx, hb, hml, hown, hts, hnest, hover, hr, hlocks, hname, hK, hX, hbl, hbA, hA, hfr, hlo⟩ := F
  have hids := zin_ids h.2.2.2.1 (a := a) (by omega)
  have hidb := zin_ids h.2.2.2.1 (a := b1) (by omega)
  have hg := zws_get (fk := gFk) (cO := cO) (ad := ad) hids
  have hgb := zws_get (fk := gFk) (cO := cO) (ad := ad) hidb
  rw [zE_arr ha rfl] at hg
  rw [zE_arr hb1 rfl] at hgb
  have hset : (zws gFk cO ad M).set (b1 - 2) (ad b1, .inl (cO 3, (zsh M b1).2, .inr (.inl (va_cpy (zL M a) (zL M b1) sp.toNatClampNeg dp.toNatClampNeg n.toNatClampNeg)))) = zws gFk cO ad (zcL M a sp.toNatClampNeg b1 dp.toNatClampNeg n.toNatClampNeg) := by
    have e2 : zE gFk cO ad (zcL M a sp.toNatClampNeg b1 dp.toNatClampNeg n.toNatClampNeg) b1 = .inl (cO 3, (zsh M b1).2, .inr (.inl (va_cpy (zL M a) (zL M b1) sp.toNatClampNeg dp.toNatClampNeg n.toNatClampNeg))) := by
      rw [zE_arr (M := zcL M a sp.toNatClampNeg b1 dp.toNatClampNeg n.toNatClampNeg) hb1 rfl]
      have e3 : zL (zcL M a sp.toNatClampNeg b1 dp.toNatClampNeg n.toNatClampNeg) b1 = va_cpy (zL M a) (zL M b1) sp.toNatClampNeg dp.toNatClampNeg n.toNatClampNeg := by
        funext q
        simp [zL, zcL, va_cpy]
      unfold zar
      rw [e3]
      rfl
    rw [← e2]
    refine zws_upd hidb rfl fun y hy => zE_same rfl (fun q => ?_) (fun q => ?_) (fun q => rfl)
    · simp [zI, zcL, hy]
    · simp [zL, zcL, hy]
  simp only [zmt, Bool.and_eq_true, decide_eq_true_eq] at hm
  obtain ⟨hnx, hm⟩ := hm
  rw [hpc]
  show W p l e R s m args below meth c H locs (zn M - n0) (zs M - s0) Q (F0 m pc ls [.int n, .int dp, zV ad (.ref b1), .int sp, zV ad (.ref a)])
  rw [zV_ref hids.1, zV_ref hidb.1]
  split at hm
  · obtain ⟨⟨⟨⟨rfl, w1⟩, w2⟩, w3⟩, w4⟩ : (((_ ∧ _) ∧ _) ∧ _) ∧ _ := by simpa only [Bool.and_eq_true, decide_eq_true_eq] using hm
    refine va_copyl hx hb (hml.trans h.2.2.2.2.2.2.1.1.symm) hown (hts _ (zwd_in w1)) (hts _ (zwd_in w2)) (hts _ (zwd_in w3)) (hts _ (zwd_in w4)) hK h.1 h.2.1 h.2.2.1 (a - 2) (b1 - 2) 1 1 (ty := .long) hg hgb rfl rfl rfl h1 h2 h3 h4 h5 (fun _ _ => rfl) hfr (by
      show 0 + (nativeFrameWords "java/lang/System" "arraycopy" 5 + 11) ≤ R.locals
      have : nativeFrameWords "java/lang/System" "arraycopy" 5 = 7 := by decide
      omega) hdec fun H1 locs1 hP1 hD1 hS1 => ?_
    have hP1 : va_P D gCl ((zws gFk cO ad M).set (b1 - 2) (ad b1, .inl (cO 3, (zsh M b1).2, .inr (.inl (va_cpy (zL M a) (zL M b1) sp.toNatClampNeg dp.toNatClampNeg n.toNatClampNeg))))) H1 := hP1
    have hD1 : va_D A ((zws gFk cO ad M).set (b1 - 2) (ad b1, .inl (cO 3, (zsh M b1).2, .inr (.inl (va_cpy (zL M a) (zL M b1) sp.toNatClampNeg dp.toNatClampNeg n.toNatClampNeg))))) := hD1
    rw [hset] at hP1 hD1
    have a1 := nx ad ls H1 locs1 ⟨hP1, hD1, hS1, h.2.2.2.1, h.2.2.2.2.1, h.2.2.2.2.2.1, h.2.2.2.2.2.2.1, fun v hv => absurd hv List.not_mem_nil, h.2.2.2.2.2.2.2.2⟩
    rw [hnx] at a1
    exact a1
  · cases hm
theorem zs_min (F : zfx p R s m args meth c D cO A b L xs k) (hpc : zat (gPc k) i = some pc) (hdec : decode (gMe k).2.1 pc = .ok (o, len)) {x y : Int32} (hm : zmt (gMe k).1 (gMe k).2.2.1 (gPc k) i pc o len .dadd = true) (hrm : zn M - n0 ≤ R.cells ∧ zs M - s0 ≤ R.slots) (nx : zGo p l e R s m args below meth c Q D cO A b L xs ad0 n0 s0 k (i + 1) lv [.int (if y < x then y else x)] M) : zGo p l e R s m args below meth c Q D cO A b L xs ad0 n0 s0 k i lv [.int y, .int x] M := by
  intro ad ls H locs h
  obtain ⟨hx, hb, hml, hown, hts, hnest, hover, hr, hlocks, hname, hK, hX, hbl, hbA, hA, hfr, hlo⟩ := F
  have a1 := nx ad ls H locs (zrl_st h (fun v hv => by rw [List.mem_singleton] at hv; subst hv; exact trivial))
  simp only [zmt, Bool.and_eq_true, decide_eq_true_eq] at hm
  obtain ⟨hnx, hm⟩ := hm
  rw [hnx] at a1
  rw [hpc]
  split at hm
  · obtain ⟨⟨⟨⟨rfl, w1⟩, w2⟩, w3⟩, w4⟩ : (((_ ∧ _) ∧ _) ∧ _) ∧ _ := by simpa only [Bool.and_eq_true, decide_eq_true_eq] using hm
    exact va_mmin hx hb (hml.trans h.2.2.2.2.2.2.1.1.symm) hown (hts _ (zwd_in w1)) (hts _ (zwd_in w2)) (hts _ (zwd_in w3)) (hts _ (zwd_in w4)) hfr (by show 0 + 13 ≤ R.locals; omega) hrm.1 hrm.2 hdec a1
  · cases hm
theorem zs_objInit (F : zfx p R s m args meth c D cO A b L xs k) (hpc : zat (gPc k) i = some pc) (hdec : decode (gMe k).2.1 pc = .ok (o, len)) {a : Nat} (hm : zmt (gMe k).1 (gMe k).2.2.1 (gPc k) i pc o len .nop = true) (ha : ¬ a = 0) (nx : zGo p l e R s m args below meth c Q D cO A b L xs ad0 n0 s0 k (i + 1) lv [] M) : zGo p l e R s m args below meth c Q D cO A b L xs ad0 n0 s0 k i lv [.ref a] M := by
  intro ad ls H locs h
  obtain ⟨hx, hb, hml, hown, hts, hnest, hover, hr, hlocks, hname, hK, hX, hbl, hbA, hA, hfr, hlo⟩ := F
  have a1 := nx ad ls H locs (zrl_st h (fun v hv => absurd hv List.not_mem_nil))
  simp only [zmt, Bool.and_eq_true, decide_eq_true_eq] at hm
  obtain ⟨hnx, hm⟩ := hm
  rw [hnx] at a1
  rw [hpc]
  have hv : zV ad (.ref a) = .ref (ad a) := by
    show va_rf (zro ad a) = _
    unfold zro
    rw [if_neg ha]
    rfl
  show W p l e R s m args below meth c H locs (zn M - n0) (zs M - s0) Q (F0 m pc ls [zV ad (.ref a)])
  rw [hv]
  split at hm
  · obtain ⟨⟨⟨rfl, w1⟩, w2⟩, w3⟩ : ((_ ∧ _) ∧ _) ∧ _ := by simpa only [Bool.and_eq_true, decide_eq_true_eq] using hm
    exact W.objInit hx hb hown (hts _ (zwd_in w1)) (hts _ (zwd_in w2)) (hts _ (zwd_in w3)) rfl (h.2.2.2.2.2.2.1.1.trans hml.symm) rfl hdec hfr (by show 2 * 0 + 0 + 12 ≤ R.locals; omega) a1
  · cases hm
end ZA
end
section
/-! makings and switches (by wip/whole/gennew.py) -/
theorem zlv_ad {ad ad' : Nat → Nat} {ls : Array Slot} {nL n : Nat} {lv : zLv} (h : zlv ad ls nL lv) (hv : ∀ j v, zat lv j = some (some v) → zval n v) (ha : ∀ x, x < n → ad' x = ad x) : zlv ad' ls nL lv := ⟨h.1, h.2.1, fun j v hj => by rw [zV_ad ha (hv j v hj)]; exact h.2.2 j v hj⟩
theorem zval_up {n n' : Nat} (hn : n ≤ n') {v : Value} (h : zval n v) : zval n' v := by
  cases v with
  | ref x => exact Nat.lt_of_lt_of_le h hn
  | _ => exact trivial
def zad (ad : Nat → Nat) (n q : Nat) : Nat → Nat := fun x => if x = n then q else ad x
theorem zad_old {ad : Nat → Nat} {n q : Nat} : ∀ x, x < n → zad ad n q x = ad x := fun x hx => by unfold zad; rw [if_neg (Nat.ne_of_lt hx)]
theorem zad_new {ad : Nat → Nat} {n q : Nat} : zad ad n q n = q := by unfold zad; rw [if_pos rfl]
theorem zsh_al {M : zM} {sh : Nat × Nat} {wd : Nat} : zsh (zal M sh wd) (zn M) = sh := by simp [zsh, zal, zn]
theorem zI_al {M : zM} {sh : Nat × Nat} {wd : Nat} : zI (zal M sh wd) (zn M) = fun _ => 0 := by funext j; simp [zI, zal, zn]
theorem zL_al {M : zM} {sh : Nat × Nat} {wd : Nat} : zL (zal M sh wd) (zn M) = fun _ => 0 := by funext j; simp [zL, zal, zn]
theorem zR_al {M : zM} {sh : Nat × Nat} {wd j : Nat} : zR (zal M sh wd) (zn M) j = 0 := by simp [zR, zal, zn]
/-- the picture behind a making -/
theorem zrl_al {s : State} {D : va_G} {cO : Nat → ClassId} {A : Nat → Prop} {b L : Nat} {xs : Nat → Int32} {nL : Nat} {ad0 : Nat → Nat} {n0 s0 : Nat} {ad : Nat → Nat} {ls : Array Slot} {H : Heap} {locs : List Loc} {lv : zLv} {st r : List Value} {M : zM} {sh : Nat × Nat} {wd q : Nat} {H1 : Heap} (h : zrl s D cO A b L xs nL ad0 n0 s0 ad ls H locs lv st M) (hr : ∀ v ∈ r, v ∈ st)
    (hP : va_P D gCl (zws gFk cO ad M ++ [(q, zE gFk cO (zad ad (zn M) q) (zal M sh wd) (zn M))]) H1) (hD : va_D A (zws gFk cO ad M ++ [(q, zE gFk cO (zad ad (zn M) q) (zal M sh wd) (zn M))])) (hS : va_S A s.heap H1 locs) : zrl s D cO A b L xs nL ad0 n0 s0 (zad ad (zn M) q) ls H1 locs lv (.ref (zn M) :: r) (zal M sh wd) ∧ r.map (zV ad) = r.map (zV (zad ad (zn M) q)) := by
  obtain ⟨h1, h2, h3, h4, h5, h6, h7, h8, h9, h10, h11, h12⟩ := h
  have hz := zws_al (fk := gFk) (cO := cO) (sh := sh) (w := wd) h4 (zad_old (ad := ad) (n := zn M) (q := q)) zad_new
  have hn : zn (zal M sh wd) = zn M + 1 := rfl
  have hs : zs (zal M sh wd) = zs M + wd := rfl
  rw [← hz] at hP hD
  have h2n := h4.1
  refine ⟨⟨hP, hD, hS, zinv_al h4, zscr_al h5 h4, ?_, zlv_ad h7 h9 zad_old, fun v hv => ?_, fun j v hj => zval_up (by rw [hn]; omega) (h9 j v hj), fun x hx => ?_, by rw [hn]; omega, by rw [hs]; omega⟩, (zVs_ad zad_old r fun v hv => h8 v (hr v hv)).symm⟩
  · rw [zad_old 1 (by omega)]; exact h6
  · rcases List.mem_cons.mp hv with rfl | hv
    · show zn M < zn (zal M sh wd); rw [hn]; omega
    · exact zval_up (by rw [hn]; omega) (h8 v (hr v hv))
  · rw [zad_old x (by omega)]; exact h10 x hx
section ZN
variable {p : Program} {l : Launch} {e : Env} {R : Room} {s : State} {m : MethodId} {args : Array Value} {below : List Frame} {meth : Method} {c : Code} {Q : State → Prop} {D : va_G} {cO : Nat → ClassId} {A : Nat → Prop} {b L : Nat} {xs : Nat → Int32} {ad0 : Nat → Nat} {n0 s0 k : Nat} {i pc len : Nat} {lv : zLv} {r : List Value} {M : zM} {o : Instr}
theorem zs_new (F : zfx p R s m args meth c D cO A b L xs k) (hpc : zat (gPc k) i = some pc) (hdec : decode (gMe k).2.1 pc = .ok (o, len)) {x : Nat} (hm : zmt (gMe k).1 (gMe k).2.2.1 (gPc k) i pc o len (.new x) = true) (hrm : zn (zal M (10 + x / 100, 0) (x % 100)) - n0 ≤ R.cells ∧ zs (zal M (10 + x / 100, 0) (x % 100)) - s0 ≤ R.slots) (nx : zGo p l e R s m args below meth c Q D cO A b L xs ad0 n0 s0 k (i + 1) lv (.ref (zn M) :: r) (zal M (10 + x / 100, 0) (x % 100))) : zGo p l e R s m args below meth c Q D cO A b L xs ad0 n0 s0 k i lv r M := by
  intro ad ls H locs h
  obtain ⟨hx, hb, hml, hown, hts, hnest, hover, hr, hlocks, hname, hK, hX, hbl, hbA, hA, hfr, hlo⟩ := F
  have hn : zn (zal M (10 + x / 100, 0) (x % 100)) = zn M + 1 := rfl
  have hs : zs (zal M (10 + x / 100, 0) (x % 100)) = zs M + x % 100 := rfl
  have hge := h.2.2.2.2.2.2.2.2.2.2
  rw [hn, hs] at hrm
  simp only [zmt, Bool.and_eq_true, decide_eq_true_eq] at hm
  obtain ⟨hnx, hm⟩ := hm
  rw [hpc]
  split at hm
  · obtain ⟨rfl, hm2⟩ : _ ∧ _ := by simpa only [Bool.and_eq_true, decide_eq_true_eq] using hm
    split at hm2
    · rename_i q hq
      obtain ⟨⟨⟨⟨⟨e1, e2⟩, w1⟩, w2⟩, w3⟩, hks⟩ : ((((_ ∧ _) ∧ _) ∧ _) ∧ _) ∧ _ := by simpa only [Bool.and_eq_true, decide_eq_true_eq] using hm2
      have hC := gcl_ok _ _ hq
      have hE : ∀ q0, zE gFk cO (zad ad (zn M) q0) (zal M (10 + x / 100, 0) (x % 100)) (zn M) = .inr (x / 100, zfs gFk ad (zal M (10 + x / 100, 0) (x % 100)) (zn M) (x / 100)) := by
        intro q0
        rw [zE_obj (by rw [zsh_al])]
        congr 2
        unfold zfs
        apply List.map_congr_left
        intro j hj
        rw [zR_al]
        rfl
      refine va_new (C := q.1) (T := q.2.1) (N := q.2.2) (fs := zfs gFk ad (zal M (10 + x / 100, 0) (x % 100)) (zn M) (x / 100)) hx hb hts hC.1 (gTy (x / 100)) hC.2.1 hown (hts _ (zwd_in w1)) (by rw [e1]; exact hts _ (zwd_in w2)) (hts _ (zwd_in w3)) hK h.1 h.2.1 h.2.2.1 hA hq (fun j hj => ?_) (by omega) (by rw [e1]; omega) hdec fun q0 H1 hP1 hD1 hS1 => ?_
      · have hj' : j < (gFk (x / 100)).length := by rw [e2, ← e1]; exact hj
        have ht := List.all_eq_true.mp hks j (List.mem_range.mpr (by rw [← e1]; exact hj))
        unfold vp_V
        rw [List.getD_eq_getElem?_getD, zfs_get hj', zR_al, zI_al]
        revert ht
        generalize (gFk (x / 100)).getD j 0 = kd
        generalize gTy (x / 100) j = t
        intro ht
        unfold ztk at ht
        split at ht
        · rfl
        · rfl
        · rfl
        · rfl
        · cases ht
      · rw [← hE q0] at hP1 hD1
        obtain ⟨a1, a2⟩ := zrl_al (r := r) h (fun v hv => hv) hP1 hD1 hS1
        have a3 := nx _ ls H1 locs a1
        rw [hnx, hn, hs, List.map_cons, ← a2, zV_ref h.2.2.2.1.1, zad_new] at a3
        exact W.cs (by omega) (by rw [e1]; omega) a3
    · cases hm2
  · cases hm
theorem zs_newI (F : zfx p R s m args meth c D cO A b L xs k) (hpc : zat (gPc k) i = some pc) (hdec : decode (gMe k).2.1 pc = .ok (o, len)) {n : Int32} (hm : zmt (gMe k).1 (gMe k).2.2.1 (gPc k) i pc o len (.newarray .int) = true) (hn0 : ¬ n < 0) (hn1 : n.toNatClampNeg ≤ 100000) (hrm : zn (zal M (2, n.toNatClampNeg) n.toNatClampNeg) - n0 ≤ R.cells ∧ zs (zal M (2, n.toNatClampNeg) n.toNatClampNeg) - s0 ≤ R.slots) (nx : zGo p l e R s m args below meth c Q D cO A b L xs ad0 n0 s0 k (i + 1) lv (.ref (zn M) :: r) (zal M (2, n.toNatClampNeg) n.toNatClampNeg)) : zGo p l e R s m args below meth c Q D cO A b L xs ad0 n0 s0 k i lv (.int n :: r) M := by
  intro ad ls H locs h
  obtain ⟨hx, hb, hml, hown, hts, hnest, hover, hr, hlocks, hname, hK, hX, hbl, hbA, hA, hfr, hlo⟩ := F
  obtain ⟨M1, hM1⟩ : ∃ M1, M1 = zal M (2, n.toNatClampNeg) n.toNatClampNeg := ⟨_, rfl⟩
  have hn : zn M1 = zn M + 1 := by rw [hM1]; rfl
  have hs : zs M1 = zs M + n.toNatClampNeg := by rw [hM1]; rfl
  have hge := h.2.2.2.2.2.2.2.2.2.2
  rw [← hM1, hn, hs] at hrm
  rw [← hM1] at nx
  simp only [zmt, Bool.and_eq_true, decide_eq_true_eq] at hm
  obtain ⟨⟨⟨hnx, rfl⟩, rfl⟩, w1⟩ := hm
  rw [hpc]
  have hE : ∀ q0, zE gFk cO (zad ad (zn M) q0) M1 (zn M) = .inl (cO 2, n.toNatClampNeg, .inl (zI M1 (zn M))) := by
    intro q0
    rw [zE_arr (kd := 2) (by rw [hM1, zsh_al]) rfl]
    unfold zar
    rw [hM1, zsh_al]
    rfl
  refine va_newa (ty := .int) (a0 := (n.toNatClampNeg, .inl (zI M1 (zn M)))) hx hb (hts _ (zwd_in w1)) rfl hK h.1 h.2.1 h.2.2.1 hA (fun cA => ?_) hn0 rfl (by show n.toNatClampNeg * 4 ≤ _; omega) (by omega) (by omega) hdec fun q0 cA H1 hK1 hP1 hD1 hS1 => ?_
  · rw [hM1, zI_al]
    rfl
  · have hcA : cA = cO 2 := by
      have b1 : va_RA s cA .int := (hK1.2 5 (cA, .int) rfl).2
      have b2 : va_RA s (cO 2) .int := (hK.2 0 (cO 2, .int) rfl).2
      exact Option.some.inj (b1.symm.trans b2)
    rw [hcA, ← hE q0, hM1] at hP1 hD1
    obtain ⟨a1, a2⟩ := zrl_al (r := r) h (fun v hv => List.mem_cons_of_mem _ hv) hP1 hD1 hS1
    rw [← hM1] at a1
    have a3 := nx _ ls H1 locs a1
    rw [hnx, hn, hs, List.map_cons, ← a2, zV_ref h.2.2.2.1.1, zad_new] at a3
    exact W.cs (by omega) (by omega) a3
theorem zs_newL (F : zfx p R s m args meth c D cO A b L xs k) (hpc : zat (gPc k) i = some pc) (hdec : decode (gMe k).2.1 pc = .ok (o, len)) {n : Int32} (hm : zmt (gMe k).1 (gMe k).2.2.1 (gPc k) i pc o len (.newarray .long) = true) (hn0 : ¬ n < 0) (hn1 : n.toNatClampNeg ≤ 100000) (hrm : zn (zal M (3, n.toNatClampNeg) n.toNatClampNeg) - n0 ≤ R.cells ∧ zs (zal M (3, n.toNatClampNeg) n.toNatClampNeg) - s0 ≤ R.slots) (nx : zGo p l e R s m args below meth c Q D cO A b L xs ad0 n0 s0 k (i + 1) lv (.ref (zn M) :: r) (zal M (3, n.toNatClampNeg) n.toNatClampNeg)) : zGo p l e R s m args below meth c Q D cO A b L xs ad0 n0 s0 k i lv (.int n :: r) M := by
  intro ad ls H locs h
  obtain ⟨hx, hb, hml, hown, hts, hnest, hover, hr, hlocks, hname, hK, hX, hbl, hbA, hA, hfr, hlo⟩ := F
  obtain ⟨M1, hM1⟩ : ∃ M1, M1 = zal M (3, n.toNatClampNeg) n.toNatClampNeg := ⟨_, rfl⟩
  have hn : zn M1 = zn M + 1 := by rw [hM1]; rfl
  have hs : zs M1 = zs M + n.toNatClampNeg := by rw [hM1]; rfl
  have hge := h.2.2.2.2.2.2.2.2.2.2
  rw [← hM1, hn, hs] at hrm
  rw [← hM1] at nx
  simp only [zmt, Bool.and_eq_true, decide_eq_true_eq] at hm
  obtain ⟨⟨⟨hnx, rfl⟩, rfl⟩, w1⟩ := hm
  rw [hpc]
  have hE : ∀ q0, zE gFk cO (zad ad (zn M) q0) M1 (zn M) = .inl (cO 3, n.toNatClampNeg, .inr (.inl (zL M1 (zn M)))) := by
    intro q0
    rw [zE_arr (kd := 3) (by rw [hM1, zsh_al]) rfl]
    unfold zar
    rw [hM1, zsh_al]
    rfl
  refine va_newa (ty := .long) (a0 := (n.toNatClampNeg, .inr (.inl (zL M1 (zn M))))) hx hb (hts _ (zwd_in w1)) rfl hK h.1 h.2.1 h.2.2.1 hA (fun cA => ?_) hn0 rfl (by show n.toNatClampNeg * 8 ≤ _; omega) (by omega) (by omega) hdec fun q0 cA H1 hK1 hP1 hD1 hS1 => ?_
  · rw [hM1, zL_al]
    rfl
  · have hcA : cA = cO 3 := by
      have b1 : va_RA s cA .long := (hK1.2 5 (cA, .long) rfl).2
      have b2 : va_RA s (cO 3) .long := (hK.2 1 (cO 3, .long) rfl).2
      exact Option.some.inj (b1.symm.trans b2)
    rw [hcA, ← hE q0, hM1] at hP1 hD1
    obtain ⟨a1, a2⟩ := zrl_al (r := r) h (fun v hv => List.mem_cons_of_mem _ hv) hP1 hD1 hS1
    rw [← hM1] at a1
    have a3 := nx _ ls H1 locs a1
    rw [hnx, hn, hs, List.map_cons, ← a2, zV_ref h.2.2.2.1.1, zad_new] at a3
    exact W.cs (by omega) (by omega) a3
theorem zs_newZ (F : zfx p R s m args meth c D cO A b L xs k) (hpc : zat (gPc k) i = some pc) (hdec : decode (gMe k).2.1 pc = .ok (o, len)) {n : Int32} (hm : zmt (gMe k).1 (gMe k).2.2.1 (gPc k) i pc o len (.newarray .boolean) = true) (hn0 : ¬ n < 0) (hn1 : n.toNatClampNeg ≤ 100000) (hrm : zn (zal M (4, n.toNatClampNeg) n.toNatClampNeg) - n0 ≤ R.cells ∧ zs (zal M (4, n.toNatClampNeg) n.toNatClampNeg) - s0 ≤ R.slots) (nx : zGo p l e R s m args below meth c Q D cO A b L xs ad0 n0 s0 k (i + 1) lv (.ref (zn M) :: r) (zal M (4, n.toNatClampNeg) n.toNatClampNeg)) : zGo p l e R s m args below meth c Q D cO A b L xs ad0 n0 s0 k i lv (.int n :: r) M := by
  intro ad ls H locs h
  obtain ⟨hx, hb, hml, hown, hts, hnest, hover, hr, hlocks, hname, hK, hX, hbl, hbA, hA, hfr, hlo⟩ := F
  obtain ⟨M1, hM1⟩ : ∃ M1, M1 = zal M (4, n.toNatClampNeg) n.toNatClampNeg := ⟨_, rfl⟩
  have hn : zn M1 = zn M + 1 := by rw [hM1]; rfl
  have hs : zs M1 = zs M + n.toNatClampNeg := by rw [hM1]; rfl
  have hge := h.2.2.2.2.2.2.2.2.2.2
  rw [← hM1, hn, hs] at hrm
  rw [← hM1] at nx
  simp only [zmt, Bool.and_eq_true, decide_eq_true_eq] at hm
  obtain ⟨⟨⟨hnx, rfl⟩, rfl⟩, w1⟩ := hm
  rw [hpc]
  have hE : ∀ q0, zE gFk cO (zad ad (zn M) q0) M1 (zn M) = .inl (cO 4, n.toNatClampNeg, .inl (zI M1 (zn M))) := by
    intro q0
    rw [zE_arr (kd := 4) (by rw [hM1, zsh_al]) rfl]
    unfold zar
    rw [hM1, zsh_al]
    rfl
  refine va_newa (ty := .boolean) (a0 := (n.toNatClampNeg, .inl (zI M1 (zn M)))) hx hb (hts _ (zwd_in w1)) rfl hK h.1 h.2.1 h.2.2.1 hA (fun cA => ?_) hn0 rfl (by show n.toNatClampNeg * 1 ≤ _; omega) (by omega) (by omega) hdec fun q0 cA H1 hK1 hP1 hD1 hS1 => ?_
  · rw [hM1, zI_al]
    rfl
  · have hcA : cA = cO 4 := by
      have b1 : va_RA s cA .boolean := (hK1.2 5 (cA, .boolean) rfl).2
      have b2 : va_RA s (cO 4) .boolean := (hK.2 2 (cO 4, .boolean) rfl).2
      exact Option.some.inj (b1.symm.trans b2)
    rw [hcA, ← hE q0, hM1] at hP1 hD1
    obtain ⟨a1, a2⟩ := zrl_al (r := r) h (fun v hv => List.mem_cons_of_mem _ hv) hP1 hD1 hS1
    rw [← hM1] at a1
    have a3 := nx _ ls H1 locs a1
    rw [hnx, hn, hs, List.map_cons, ← a2, zV_ref h.2.2.2.1.1, zad_new] at a3
    exact W.cs (by omega) (by omega) a3
theorem zs_newA (F : zfx p R s m args meth c D cO A b L xs k) (hpc : zat (gPc k) i = some pc) (hdec : decode (gMe k).2.1 pc = .ok (o, len)) {n : Int32} {kd : Nat} (hm : zmt (gMe k).1 (gMe k).2.2.1 (gPc k) i pc o len (.anewarray kd) = true) (hn0 : ¬ n < 0) (hn1 : n.toNatClampNeg ≤ 100000) (hrm : zn (zal M (5 + kd % 2, n.toNatClampNeg) n.toNatClampNeg) - n0 ≤ R.cells ∧ zs (zal M (5 + kd % 2, n.toNatClampNeg) n.toNatClampNeg) - s0 ≤ R.slots) (nx : zGo p l e R s m args below meth c Q D cO A b L xs ad0 n0 s0 k (i + 1) lv (.ref (zn M) :: r) (zal M (5 + kd % 2, n.toNatClampNeg) n.toNatClampNeg)) : zGo p l e R s m args below meth c Q D cO A b L xs ad0 n0 s0 k i lv (.int n :: r) M := by
  intro ad ls H locs h
  obtain ⟨hx, hb, hml, hown, hts, hnest, hover, hr, hlocks, hname, hK, hX, hbl, hbA, hA, hfr, hlo⟩ := F
  obtain ⟨M1, hM1⟩ : ∃ M1, M1 = zal M (5 + kd % 2, n.toNatClampNeg) n.toNatClampNeg := ⟨_, rfl⟩
  have hn : zn M1 = zn M + 1 := by rw [hM1]; rfl
  have hs : zs M1 = zs M + n.toNatClampNeg := by rw [hM1]; rfl
  have hge := h.2.2.2.2.2.2.2.2.2.2
  rw [← hM1, hn, hs] at hrm
  rw [← hM1] at nx
  simp only [zmt, Bool.and_eq_true, decide_eq_true_eq] at hm
  obtain ⟨hnx, hm⟩ := hm
  rw [hpc]
  split at hm
  · obtain ⟨⟨rfl, w1⟩, w2⟩ : (_ ∧ _) ∧ _ := by simpa only [Bool.and_eq_true, decide_eq_true_eq] using hm
    have w2' : Cond.arrayOver (.object (gEl (kd % 2))) ∈ lw_tbl := by simpa only [gNB, decide_eq_true_eq] using w2
    have hE : ∀ q0, zE gFk cO (zad ad (zn M) q0) M1 (zn M) = .inl (cO (5 + kd % 2), n.toNatClampNeg, .inr (.inr (.inr (.inr (fun _ => none))))) := by
      intro q0
      rcases Nat.mod_two_eq_zero_or_one kd with hk | hk
      · rw [hk] at hM1 ⊢
        rw [zE_arr (kd := 5) (by rw [hM1, zsh_al]) rfl]
        unfold zar
        rw [hM1, zsh_al]
        simp only [zR_al]
        rfl
      · rw [hk] at hM1 ⊢
        rw [zE_arr (kd := 6) (by rw [hM1, zsh_al]) rfl]
        unfold zar
        rw [hM1, zsh_al]
        simp only [zR_al]
        rfl
    refine va_newq hx hb hown (hts _ (zwd_in w1)) (hover _ w2') hK h.1 h.2.1 h.2.2.1 hA hn0 rfl (by omega) (by omega) (by omega) hdec fun q0 cA H1 hK1 hP1 hD1 hS1 => ?_
    have hcA : cA = cO (5 + kd % 2) := by
      have b1 : va_RA s cA (.object (gEl (kd % 2))) := (hK1.2 5 (cA, .object (gEl (kd % 2))) rfl).2
      have b2 : va_RA s (cO (5 + kd % 2)) (.object (gEl (kd % 2))) := by
        rcases Nat.mod_two_eq_zero_or_one kd with hk | hk
        · rw [hk]; exact (hK.2 3 (cO 5, .object (gEl 0)) rfl).2
        · rw [hk]; exact (hK.2 4 (cO 6, .object (gEl 1)) rfl).2
      obtain ⟨_, _, -, -, -, f1⟩ := b1
      obtain ⟨_, _, -, -, -, f2⟩ := b2
      exact Option.some.inj (f1.symm.trans f2)
    rw [hcA, ← hE q0, hM1] at hP1 hD1
    obtain ⟨a1, a2⟩ := zrl_al (r := r) h (fun v hv => List.mem_cons_of_mem _ hv) hP1 hD1 hS1
    rw [← hM1] at a1
    have a3 := nx _ ls H1 locs a1
    rw [hnx, hn, hs, List.map_cons, ← a2, zV_ref h.2.2.2.1.1, zad_new] at a3
    exact W.cs (by omega) (by omega) a3
  · cases hm
end ZN
theorem zsw_in {x : Int32} {lv : zLv} {r : List Value} {M : zM} {o : zO} : ∀ (ts : List Int) (v : Int) (j : Nat) (t : Int), ts[j]? = some t → x.toInt = v + j → zpick (zsw x lv r M v ts) o = .inl (t.toNat, lv, r, M)
  | [], _, _, _, h, _ => by simp at h
  | a :: ts, v, 0, t, h, hx => by
    have ha : a = t := by simpa using h
    subst ha
    show @ite zO (x.toInt = v) (Classical.propDecidable _) _ _ = _
    rw [if_pos (by omega)]
  | a :: ts, v, j + 1, t, h, hx => by
    show @ite zO (x.toInt = v) (Classical.propDecidable _) _ _ = _
    rw [if_neg (by omega)]
    exact zsw_in ts (v + 1) j t (by simpa using h) (by omega)
theorem zsw_out {x : Int32} {lv : zLv} {r : List Value} {M : zM} {o : zO} : ∀ (ts : List Int) (v : Int), (x.toInt < v ∨ v + ts.length ≤ x.toInt) → zpick (zsw x lv r M v ts) o = o
  | [], _, _ => rfl
  | a :: ts, v, h => by
    show @ite zO (x.toInt = v) (Classical.propDecidable _) _ _ = _
    rw [List.length_cons] at h
    rw [if_neg (by omega)]
    exact zsw_out ts (v + 1) (by omega)
section ZT
variable {p : Program} {l : Launch} {e : Env} {R : Room} {s : State} {m : MethodId} {args : Array Value} {below : List Frame} {meth : Method} {c : Code} {Q : State → Prop} {D : va_G} {cO : Nat → ClassId} {A : Nat → Prop} {b L : Nat} {xs : Nat → Int32} {ad0 : Nat → Nat} {n0 s0 k : Nat} {i pc len : Nat} {lv : zLv} {r : List Value} {M : zM} {o : Instr}
theorem zs_tsw (F : zfx p R s m args meth c D cO A b L xs k) (hpc : zat (gPc k) i = some pc) (hdec : decode (gMe k).2.1 pc = .ok (o, len)) {x : Int32} {d lo hi : Int} {ts : Array Int} (hm : zmt (gMe k).1 (gMe k).2.2.1 (gPc k) i pc o len (.tableswitch d lo hi ts) = true) {i1 : Nat} {lv1 : zLv} {st1 : List Value} {M1 : zM} (hq : zpick (zsw x lv r M lo ts.toList) (.inl (d.toNat, lv, r, M)) = .inl (i1, lv1, st1, M1)) (nx : zGo p l e R s m args below meth c Q D cO A b L xs ad0 n0 s0 k i1 lv1 st1 M1) : zGo p l e R s m args below meth c Q D cO A b L xs ad0 n0 s0 k i lv (.int x :: r) M := by
  intro ad ls H locs h
  obtain ⟨hx, hb, hml, hown, hts, hnest, hover, hr, hlocks, hname, hK, hX, hbl, hbA, hA, hfr, hlo⟩ := F
  have h' := zrl_st (st' := r) h (fun v hv => h.2.2.2.2.2.2.2.1 v (List.mem_cons_of_mem _ hv))
  simp only [zmt] at hm
  rw [hpc]
  split at hm
  · obtain ⟨⟨⟨⟨⟨rfl, rfl⟩, t0⟩, e1⟩, e2⟩, e3⟩ : ((((_ ∧ _) ∧ _) ∧ _) ∧ _) ∧ _ := by simpa only [Bool.and_eq_true, decide_eq_true_eq] using hm
    rename_i d1 lo1 hi1 offs
    by_cases hout : x.toInt < lo1 ∨ hi1 < x.toInt
    · rw [zsw_out _ _ (by omega)] at hq
      obtain ⟨rfl, rfl, rfl, rfl⟩ : _ ∧ _ ∧ _ ∧ _ := by simpa using hq
      obtain ⟨tgt, b1, b2⟩ := ztg_at t0
      have a1 := nx ad ls H locs h'
      rw [b1] at a1
      exact lv_tableOut hx hb hdec hout b2 a1
    · have hj : (x.toInt - lo1).toNat < ts.toList.length := by omega
      obtain ⟨t1, g1⟩ : ∃ t1, ts.toList[(x.toInt - lo1).toNat]? = some t1 := ⟨_, List.getElem?_eq_getElem hj⟩
      obtain ⟨t2, g2⟩ : ∃ t2, offs.toList[(x.toInt - lo1).toNat]? = some t2 := ⟨_, List.getElem?_eq_getElem (by rw [e1]; exact hj)⟩
      rw [zsw_in _ _ _ _ g1 (by omega)] at hq
      cases hq
      have hz := List.all_eq_true.mp e3 (t2, t1) (by
        refine List.mem_of_getElem? (i := (x.toInt - lo1).toNat) ?_
        rw [List.getElem?_zip_eq_some]
        exact ⟨g2, g1⟩)
      obtain ⟨tgt, b1, b2⟩ := ztg_at hz
      have a1 := nx ad ls H locs h'
      rw [show zat (gPc k) t1.toNat = some tgt from b1] at a1
      exact lv_tableIn hx hb hdec (fun q => hout (Or.inl q)) (fun q => hout (Or.inr q)) (by rw [← Array.getElem?_toList]; exact g2) b2 a1
  · cases hm
end ZT
end
section
/-! all steps that go on, in one (by wip/whole/genall.py) -/
theorem zti_inv {st : List Value} {f : Int32 → List Value → zRes} {q : List Prop × List (Prop × zO) × zO} (h : zti st f = some q) : ∃ x r, st = .int x :: r ∧ f x r = some q := by
  unfold zti at h
  split at h
  · exact ⟨_, _, rfl, h⟩
  · cases h
theorem ztii_inv {st : List Value} {f : Int32 → Int32 → List Value → zRes} {q : List Prop × List (Prop × zO) × zO} (h : ztii st f = some q) : ∃ x y r, st = .int y :: .int x :: r ∧ f x y r = some q := by
  unfold ztii at h
  split at h
  · exact ⟨_, _, _, rfl, h⟩
  · cases h
theorem ztl_inv {st : List Value} {f : Int64 → List Value → zRes} {q : List Prop × List (Prop × zO) × zO} (h : ztl st f = some q) : ∃ x r, st = .long x :: r ∧ f x r = some q := by
  unfold ztl at h
  split at h
  · exact ⟨_, _, rfl, h⟩
  · cases h
theorem ztll_inv {st : List Value} {f : Int64 → Int64 → List Value → zRes} {q : List Prop × List (Prop × zO) × zO} (h : ztll st f = some q) : ∃ x y r, st = .long y :: .long x :: r ∧ f x y r = some q := by
  unfold ztll at h
  split at h
  · exact ⟨_, _, _, rfl, h⟩
  · cases h
theorem ztli_inv {st : List Value} {f : Int64 → Int32 → List Value → zRes} {q : List Prop × List (Prop × zO) × zO} (h : ztli st f = some q) : ∃ x y r, st = .int y :: .long x :: r ∧ f x y r = some q := by
  unfold ztli at h
  split at h
  · exact ⟨_, _, _, rfl, h⟩
  · cases h
theorem ztr_inv {st : List Value} {f : Nat → List Value → zRes} {q : List Prop × List (Prop × zO) × zO} (h : ztr st f = some q) : ∃ x r, st = .ref x :: r ∧ f x r = some q := by
  unfold ztr at h
  split at h
  · exact ⟨_, _, rfl, h⟩
  · cases h
theorem ztri_inv {st : List Value} {f : Nat → Int32 → List Value → zRes} {q : List Prop × List (Prop × zO) × zO} (h : ztri st f = some q) : ∃ x y r, st = .int y :: .ref x :: r ∧ f x y r = some q := by
  unfold ztri at h
  split at h
  · exact ⟨_, _, _, rfl, h⟩
  · cases h
theorem ztrii_inv {st : List Value} {f : Nat → Int32 → Int32 → List Value → zRes} {q : List Prop × List (Prop × zO) × zO} (h : ztrii st f = some q) : ∃ x y z r, st = .int z :: .int y :: .ref x :: r ∧ f x y z r = some q := by
  unfold ztrii at h
  split at h
  · exact ⟨_, _, _, _, rfl, h⟩
  · cases h
theorem ztril_inv {st : List Value} {f : Nat → Int32 → Int64 → List Value → zRes} {q : List Prop × List (Prop × zO) × zO} (h : ztril st f = some q) : ∃ x y z r, st = .long z :: .int y :: .ref x :: r ∧ f x y z r = some q := by
  unfold ztril at h
  split at h
  · exact ⟨_, _, _, _, rfl, h⟩
  · cases h
theorem ztrir_inv {st : List Value} {f : Nat → Int32 → Nat → List Value → zRes} {q : List Prop × List (Prop × zO) × zO} (h : ztrir st f = some q) : ∃ x y z r, st = .ref z :: .int y :: .ref x :: r ∧ f x y z r = some q := by
  unfold ztrir at h
  split at h
  · exact ⟨_, _, _, _, rfl, h⟩
  · cases h
theorem ztrr_inv {st : List Value} {f : Nat → Nat → List Value → zRes} {q : List Prop × List (Prop × zO) × zO} (h : ztrr st f = some q) : ∃ x y r, st = .ref y :: .ref x :: r ∧ f x y r = some q := by
  unfold ztrr at h
  split at h
  · exact ⟨_, _, _, rfl, h⟩
  · cases h
theorem ztcp_inv {st : List Value} {f : Nat → Int32 → Nat → Int32 → Int32 → zRes} {q : List Prop × List (Prop × zO) × zO} (h : ztcp st f = some q) : ∃ x sp y dp n, st = [.int n, .int dp, .ref y, .int sp, .ref x] ∧ f x sp y dp n = some q := by
  unfold ztcp at h
  split at h
  · exact ⟨_, _, _, _, _, rfl, h⟩
  · cases h
theorem ztii0_inv {st : List Value} {f : Int32 → Int32 → zRes} {q : List Prop × List (Prop × zO) × zO} (h : ztii0 st f = some q) : ∃ x y, st = [.int y, .int x] ∧ f x y = some q := by
  unfold ztii0 at h
  split at h
  · exact ⟨_, _, rfl, h⟩
  · cases h
theorem ztr0_inv {st : List Value} {f : Nat → zRes} {q : List Prop × List (Prop × zO) × zO} (h : ztr0 st f = some q) : ∃ x, st = [.ref x] ∧ f x = some q := by
  unfold ztr0 at h
  split at h
  · exact ⟨_, rfl, h⟩
  · cases h
theorem zcall_no {x : Nat} {ob : Bool} {i : Nat} {lv : zLv} {st : List Value} {M : zM} {cs : List Prop} {ch : List (Prop × zO)} {q : zO} (h : zcall x ob i lv st M = some (cs, ch, q)) : ∃ w, zpick ch q = .inr (.inr w) := by
  unfold zcall at h
  split at h
  · cases h
  · revert h
    cases Nat.ble _ 8
    · intro h; cases h
    · cases ob
      · intro h; cases h; exact ⟨_, rfl⟩
      · intro h
        dsimp only [cond] at h
        split at h
        · cases h; exact ⟨_, rfl⟩
        · cases h
theorem zretq_no {rk : Nat} {st : List Value} {M : zM} {cs : List Prop} {ch : List (Prop × zO)} {q : zO} (h : zretq rk st M = some (cs, ch, q)) : zpick ch q = .inr (.inl (st, M)) := by
  unfold zretq at h
  split at h
  · revert h
    cases rk == 0
    · intro h; cases h
    · intro h; cases h; rfl
  · revert h
    cases rk == 1
    · cases rk == 2
      · intro h; cases h
      · intro h; cases h; rfl
    · intro h; cases h; rfl
  · revert h
    cases rk == 3
    · intro h; cases h
    · intro h; cases h; rfl
  · revert h
    cases rk == 4
    · intro h; cases h
    · intro h; cases h; rfl
  · cases h
section ZALL
variable {p : Program} {l : Launch} {e : Env} {R : Room} {s : State} {m : MethodId} {args : Array Value} {below : List Frame} {meth : Method} {c : Code} {Q : State → Prop} {D : va_G} {cO : Nat → ClassId} {A : Nat → Prop} {b L : Nat} {xs : Nat → Int32} {ad0 : Nat → Nat} {n0 s0 k : Nat} {i pc len : Nat} {lv : zLv} {st : List Value} {M : zM} {o : Instr}
set_option maxHeartbeats 4000000 in
theorem zs_all (F : zfx p R s m args meth c D cO A b L xs k) (hpc : zat (gPc k) i = some pc) (hdec : decode (gMe k).2.1 pc = .ok (o, len)) {rk : Nat} {ins : Instr} (hm : zmt (gMe k).1 (gMe k).2.2.1 (gPc k) i pc o len ins = true) {cs : List Prop} {ch : List (Prop × zO)} {q : zO} (hst : zstep rk ins i lv st M = some (cs, ch, q)) (hcs : ∀ c ∈ cs, c) {i1 : Nat} {lv1 : zLv} {st1 : List Value} {M1 : zM} (hq : zpick ch q = .inl (i1, lv1, st1, M1)) (hrm : zn M1 - n0 ≤ R.cells ∧ zs M1 - s0 ≤ R.slots) (nx : zGo p l e R s m args below meth c Q D cO A b L xs ad0 n0 s0 k i1 lv1 st1 M1) : zGo p l e R s m args below meth c Q D cO A b L xs ad0 n0 s0 k i lv st M := by
  cases ins with
  | iadd =>
    obtain ⟨x, y, r, rfl, h2⟩ := ztii_inv (show ztii st _ = some _ from hst)
    cases h2
    cases hq
    obtain ⟨⟨hnx, rfl⟩, rfl⟩ : (_ ∧ _) ∧ _ := by simpa only [zmt, Bool.and_eq_true, decide_eq_true_eq] using hm
    exact zs_iadd F hpc hdec hnx nx
  | isub =>
    obtain ⟨x, y, r, rfl, h2⟩ := ztii_inv (show ztii st _ = some _ from hst)
    cases h2
    cases hq
    obtain ⟨⟨hnx, rfl⟩, rfl⟩ : (_ ∧ _) ∧ _ := by simpa only [zmt, Bool.and_eq_true, decide_eq_true_eq] using hm
    exact zs_isub F hpc hdec hnx nx
  | imul =>
    obtain ⟨x, y, r, rfl, h2⟩ := ztii_inv (show ztii st _ = some _ from hst)
    cases h2
    cases hq
    obtain ⟨⟨hnx, rfl⟩, rfl⟩ : (_ ∧ _) ∧ _ := by simpa only [zmt, Bool.and_eq_true, decide_eq_true_eq] using hm
    exact zs_imul F hpc hdec hnx nx
  | iand =>
    obtain ⟨x, y, r, rfl, h2⟩ := ztii_inv (show ztii st _ = some _ from hst)
    cases h2
    cases hq
    obtain ⟨⟨hnx, rfl⟩, rfl⟩ : (_ ∧ _) ∧ _ := by simpa only [zmt, Bool.and_eq_true, decide_eq_true_eq] using hm
    exact zs_iand F hpc hdec hnx nx
  | ior =>
    obtain ⟨x, y, r, rfl, h2⟩ := ztii_inv (show ztii st _ = some _ from hst)
    cases h2
    cases hq
    obtain ⟨⟨hnx, rfl⟩, rfl⟩ : (_ ∧ _) ∧ _ := by simpa only [zmt, Bool.and_eq_true, decide_eq_true_eq] using hm
    exact zs_ior F hpc hdec hnx nx
  | ishl =>
    obtain ⟨x, y, r, rfl, h2⟩ := ztii_inv (show ztii st _ = some _ from hst)
    cases h2
    cases hq
    obtain ⟨⟨hnx, rfl⟩, rfl⟩ : (_ ∧ _) ∧ _ := by simpa only [zmt, Bool.and_eq_true, decide_eq_true_eq] using hm
    exact zs_ishl F hpc hdec hnx nx
  | ishr =>
    obtain ⟨x, y, r, rfl, h2⟩ := ztii_inv (show ztii st _ = some _ from hst)
    cases h2
    cases hq
    obtain ⟨⟨hnx, rfl⟩, rfl⟩ : (_ ∧ _) ∧ _ := by simpa only [zmt, Bool.and_eq_true, decide_eq_true_eq] using hm
    exact zs_ishr F hpc hdec hnx nx
  | iushr =>
    obtain ⟨x, y, r, rfl, h2⟩ := ztii_inv (show ztii st _ = some _ from hst)
    cases h2
    cases hq
    obtain ⟨⟨hnx, rfl⟩, rfl⟩ : (_ ∧ _) ∧ _ := by simpa only [zmt, Bool.and_eq_true, decide_eq_true_eq] using hm
    exact zs_iushr F hpc hdec hnx nx
  | ineg =>
    obtain ⟨x, r, rfl, h2⟩ := zti_inv (show zti st _ = some _ from hst)
    cases h2
    cases hq
    obtain ⟨⟨hnx, rfl⟩, rfl⟩ : (_ ∧ _) ∧ _ := by simpa only [zmt, Bool.and_eq_true, decide_eq_true_eq] using hm
    exact zs_ineg F hpc hdec hnx nx
  | ladd =>
    obtain ⟨x, y, r, rfl, h2⟩ := ztll_inv (show ztll st _ = some _ from hst)
    cases h2
    cases hq
    obtain ⟨⟨hnx, rfl⟩, rfl⟩ : (_ ∧ _) ∧ _ := by simpa only [zmt, Bool.and_eq_true, decide_eq_true_eq] using hm
    exact zs_ladd F hpc hdec hnx nx
  | lsub =>
    obtain ⟨x, y, r, rfl, h2⟩ := ztll_inv (show ztll st _ = some _ from hst)
    cases h2
    cases hq
    obtain ⟨⟨hnx, rfl⟩, rfl⟩ : (_ ∧ _) ∧ _ := by simpa only [zmt, Bool.and_eq_true, decide_eq_true_eq] using hm
    exact zs_lsub F hpc hdec hnx nx
  | lmul =>
    obtain ⟨x, y, r, rfl, h2⟩ := ztll_inv (show ztll st _ = some _ from hst)
    cases h2
    cases hq
    obtain ⟨⟨hnx, rfl⟩, rfl⟩ : (_ ∧ _) ∧ _ := by simpa only [zmt, Bool.and_eq_true, decide_eq_true_eq] using hm
    exact zs_lmul F hpc hdec hnx nx
  | lor =>
    obtain ⟨x, y, r, rfl, h2⟩ := ztll_inv (show ztll st _ = some _ from hst)
    cases h2
    cases hq
    obtain ⟨⟨hnx, rfl⟩, rfl⟩ : (_ ∧ _) ∧ _ := by simpa only [zmt, Bool.and_eq_true, decide_eq_true_eq] using hm
    exact zs_lor F hpc hdec hnx nx
  | land =>
    obtain ⟨x, y, r, rfl, h2⟩ := ztll_inv (show ztll st _ = some _ from hst)
    cases h2
    cases hq
    obtain ⟨⟨hnx, rfl⟩, rfl⟩ : (_ ∧ _) ∧ _ := by simpa only [zmt, Bool.and_eq_true, decide_eq_true_eq] using hm
    exact zs_land F hpc hdec hnx nx
  | ldiv =>
    obtain ⟨x, y, r, rfl, h2⟩ := ztll_inv (show ztll st _ = some _ from hst)
    cases h2
    cases hq
    obtain ⟨⟨hnx, rfl⟩, rfl⟩ : (_ ∧ _) ∧ _ := by simpa only [zmt, Bool.and_eq_true, decide_eq_true_eq] using hm
    exact zs_ldiv F hpc hdec hnx (hcs _ List.mem_cons_self) nx
  | lrem =>
    obtain ⟨x, y, r, rfl, h2⟩ := ztll_inv (show ztll st _ = some _ from hst)
    cases h2
    cases hq
    obtain ⟨⟨hnx, rfl⟩, rfl⟩ : (_ ∧ _) ∧ _ := by simpa only [zmt, Bool.and_eq_true, decide_eq_true_eq] using hm
    exact zs_lrem F hpc hdec hnx (hcs _ List.mem_cons_self) nx
  | lneg =>
    obtain ⟨x, r, rfl, h2⟩ := ztl_inv (show ztl st _ = some _ from hst)
    cases h2
    cases hq
    obtain ⟨⟨hnx, rfl⟩, rfl⟩ : (_ ∧ _) ∧ _ := by simpa only [zmt, Bool.and_eq_true, decide_eq_true_eq] using hm
    exact zs_lneg F hpc hdec hnx nx
  | lshl =>
    obtain ⟨x, y, r, rfl, h2⟩ := ztli_inv (show ztli st _ = some _ from hst)
    cases h2
    cases hq
    obtain ⟨⟨hnx, rfl⟩, rfl⟩ : (_ ∧ _) ∧ _ := by simpa only [zmt, Bool.and_eq_true, decide_eq_true_eq] using hm
    exact zs_lshl F hpc hdec hnx nx
  | lshr =>
    obtain ⟨x, y, r, rfl, h2⟩ := ztli_inv (show ztli st _ = some _ from hst)
    cases h2
    cases hq
    obtain ⟨⟨hnx, rfl⟩, rfl⟩ : (_ ∧ _) ∧ _ := by simpa only [zmt, Bool.and_eq_true, decide_eq_true_eq] using hm
    exact zs_lshr F hpc hdec hnx nx
  | i2l =>
    obtain ⟨x, r, rfl, h2⟩ := zti_inv (show zti st _ = some _ from hst)
    cases h2
    cases hq
    obtain ⟨⟨hnx, rfl⟩, rfl⟩ : (_ ∧ _) ∧ _ := by simpa only [zmt, Bool.and_eq_true, decide_eq_true_eq] using hm
    exact zs_i2l F hpc hdec hnx nx
  | l2i =>
    obtain ⟨x, r, rfl, h2⟩ := ztl_inv (show ztl st _ = some _ from hst)
    cases h2
    cases hq
    obtain ⟨⟨hnx, rfl⟩, rfl⟩ : (_ ∧ _) ∧ _ := by simpa only [zmt, Bool.and_eq_true, decide_eq_true_eq] using hm
    exact zs_l2i F hpc hdec hnx nx
  | lcmp =>
    obtain ⟨x, y, r, rfl, h2⟩ := ztll_inv (show ztll st _ = some _ from hst)
    cases h2
    cases hq
    obtain ⟨⟨hnx, rfl⟩, rfl⟩ : (_ ∧ _) ∧ _ := by simpa only [zmt, Bool.and_eq_true, decide_eq_true_eq] using hm
    exact zs_lcmp F hpc hdec hnx nx
  | dup2 =>
    obtain ⟨x, y, r, rfl, h2⟩ := ztri_inv (show ztri st _ = some _ from hst)
    cases h2
    cases hq
    obtain ⟨⟨hnx, rfl⟩, rfl⟩ : (_ ∧ _) ∧ _ := by simpa only [zmt, Bool.and_eq_true, decide_eq_true_eq] using hm
    exact zs_dup2 F hpc hdec hnx nx
  | iaload =>
    obtain ⟨x, y, r, rfl, h2⟩ := ztri_inv (show ztri st _ = some _ from hst)
    cases h2
    cases hq
    obtain ⟨⟨hnx, rfl⟩, rfl⟩ : (_ ∧ _) ∧ _ := by simpa only [zmt, Bool.and_eq_true, decide_eq_true_eq] using hm
    exact zs_iaload F hpc hdec hnx (hcs _ List.mem_cons_self) (hcs _ (List.mem_cons_of_mem _ List.mem_cons_self)) nx
  | laload =>
    obtain ⟨x, y, r, rfl, h2⟩ := ztri_inv (show ztri st _ = some _ from hst)
    cases h2
    cases hq
    obtain ⟨⟨hnx, rfl⟩, rfl⟩ : (_ ∧ _) ∧ _ := by simpa only [zmt, Bool.and_eq_true, decide_eq_true_eq] using hm
    exact zs_laload F hpc hdec hnx (hcs _ List.mem_cons_self) (hcs _ (List.mem_cons_of_mem _ List.mem_cons_self)) nx
  | baload =>
    obtain ⟨x, y, r, rfl, h2⟩ := ztri_inv (show ztri st _ = some _ from hst)
    cases h2
    cases hq
    obtain ⟨⟨hnx, rfl⟩, rfl⟩ : (_ ∧ _) ∧ _ := by simpa only [zmt, Bool.and_eq_true, decide_eq_true_eq] using hm
    exact zs_baload F hpc hdec hnx (hcs _ List.mem_cons_self) (hcs _ (List.mem_cons_of_mem _ List.mem_cons_self)) nx
  | iastore =>
    obtain ⟨x, y, z, r, rfl, h2⟩ := ztrii_inv (show ztrii st _ = some _ from hst)
    cases h2
    cases hq
    obtain ⟨⟨hnx, rfl⟩, rfl⟩ : (_ ∧ _) ∧ _ := by simpa only [zmt, Bool.and_eq_true, decide_eq_true_eq] using hm
    exact zs_iastore F hpc hdec hnx (hcs _ List.mem_cons_self) (hcs _ (List.mem_cons_of_mem _ List.mem_cons_self)) nx
  | bastore =>
    obtain ⟨x, y, z, r, rfl, h2⟩ := ztrii_inv (show ztrii st _ = some _ from hst)
    cases h2
    cases hq
    obtain ⟨⟨hnx, rfl⟩, rfl⟩ : (_ ∧ _) ∧ _ := by simpa only [zmt, Bool.and_eq_true, decide_eq_true_eq] using hm
    exact zs_bastore F hpc hdec hnx (hcs _ (List.mem_cons_of_mem _ (List.mem_cons_of_mem _ List.mem_cons_self))) (hcs _ List.mem_cons_self) (hcs _ (List.mem_cons_of_mem _ List.mem_cons_self)) nx
  | lastore =>
    obtain ⟨x, y, z, r, rfl, h2⟩ := ztril_inv (show ztril st _ = some _ from hst)
    cases h2
    cases hq
    obtain ⟨⟨hnx, rfl⟩, rfl⟩ : (_ ∧ _) ∧ _ := by simpa only [zmt, Bool.and_eq_true, decide_eq_true_eq] using hm
    exact zs_lastore F hpc hdec hnx (hcs _ List.mem_cons_self) (hcs _ (List.mem_cons_of_mem _ List.mem_cons_self)) nx
  | dup =>
    obtain ⟨⟨hnx, rfl⟩, rfl⟩ : (_ ∧ _) ∧ _ := by simpa only [zmt, Bool.and_eq_true, decide_eq_true_eq] using hm
    simp only [zstep] at hst
    split at hst
    · cases hst; cases hq; exact zs_dupI F hpc hdec hnx nx
    · cases hst; cases hq; exact zs_dupR F hpc hdec hnx nx
    · cases hst
  | pop =>
    obtain ⟨⟨hnx, rfl⟩, rfl⟩ : (_ ∧ _) ∧ _ := by simpa only [zmt, Bool.and_eq_true, decide_eq_true_eq] using hm
    simp only [zstep] at hst
    split at hst
    · cases hst; cases hq; exact zs_pop F hpc hdec hnx nx
    · cases hst
  | iconst n => cases hst; cases hq; exact zs_iconst F hpc hdec hm nx
  | jsr_w n => cases hst; cases hq; exact zs_lconst F hpc hdec hm nx
  | iload j =>
    simp only [zstep] at hst
    split at hst
    · rename_i hj; cases hst; cases hq; exact zs_iload F hpc hdec hm hj nx
    · cases hst
  | lload j =>
    simp only [zstep] at hst
    split at hst
    · rename_i hj; cases hst; cases hq; exact zs_lload F hpc hdec hm hj nx
    · cases hst
  | aload j =>
    simp only [zstep] at hst
    split at hst
    · rename_i hj; cases hst; cases hq; exact zs_aload F hpc hdec hm hj nx
    · cases hst
  | iinc j n =>
    simp only [zstep] at hst
    split at hst
    · rename_i hj; cases hst; cases hq; exact zs_iinc F hpc hdec hm hj nx
    · cases hst
  | istore j =>
    obtain ⟨x, r, rfl, h2⟩ := zti_inv (show zti st _ = some _ from hst)
    cases h2; cases hq; exact zs_istore F hpc hdec hm nx
  | lstore j =>
    obtain ⟨x, r, rfl, h2⟩ := ztl_inv (show ztl st _ = some _ from hst)
    cases h2; cases hq; exact zs_lstore F hpc hdec hm nx
  | astore j =>
    obtain ⟨x, r, rfl, h2⟩ := ztr_inv (show ztr st _ = some _ from hst)
    cases h2; cases hq; exact zs_astore F hpc hdec hm nx
  | goto t => cases hst; cases hq; exact zs_goto F hpc hdec hm nx
  | ifCond cc t =>
    cases cc with
    | eq =>
      obtain ⟨x, r, rfl, h2⟩ := zti_inv (show zti st _ = some _ from hst)
      cases h2
      have hq : @ite zO (x = 0) (Classical.propDecidable _) _ _ = _ := hq
      by_cases hc : x = 0
      · rw [if_pos hc] at hq
        cases hq
        exact zs_if_eq F hpc hdec hm (fun _ => nx) (fun z => absurd hc z)
      · rw [if_neg hc] at hq
        cases hq
        exact zs_if_eq F hpc hdec hm (fun z => absurd z hc) (fun _ => nx)
    | ne =>
      obtain ⟨x, r, rfl, h2⟩ := zti_inv (show zti st _ = some _ from hst)
      cases h2
      have hq : @ite zO (¬ x = 0) (Classical.propDecidable _) _ _ = _ := hq
      by_cases hc : ¬ x = 0
      · rw [if_pos hc] at hq
        cases hq
        exact zs_if_ne F hpc hdec hm (fun _ => nx) (fun z => absurd hc z)
      · rw [if_neg hc] at hq
        cases hq
        exact zs_if_ne F hpc hdec hm (fun z => absurd z hc) (fun _ => nx)
    | lt =>
      obtain ⟨x, r, rfl, h2⟩ := zti_inv (show zti st _ = some _ from hst)
      cases h2
      have hq : @ite zO (x < 0) (Classical.propDecidable _) _ _ = _ := hq
      by_cases hc : x < 0
      · rw [if_pos hc] at hq
        cases hq
        exact zs_if_lt F hpc hdec hm (fun _ => nx) (fun z => absurd hc z)
      · rw [if_neg hc] at hq
        cases hq
        exact zs_if_lt F hpc hdec hm (fun z => absurd z hc) (fun _ => nx)
    | ge =>
      obtain ⟨x, r, rfl, h2⟩ := zti_inv (show zti st _ = some _ from hst)
      cases h2
      have hq : @ite zO (0 ≤ x) (Classical.propDecidable _) _ _ = _ := hq
      by_cases hc : 0 ≤ x
      · rw [if_pos hc] at hq
        cases hq
        exact zs_if_ge F hpc hdec hm (fun _ => nx) (fun z => absurd hc z)
      · rw [if_neg hc] at hq
        cases hq
        exact zs_if_ge F hpc hdec hm (fun z => absurd z hc) (fun _ => nx)
    | gt =>
      obtain ⟨x, r, rfl, h2⟩ := zti_inv (show zti st _ = some _ from hst)
      cases h2
      have hq : @ite zO (0 < x) (Classical.propDecidable _) _ _ = _ := hq
      by_cases hc : 0 < x
      · rw [if_pos hc] at hq
        cases hq
        exact zs_if_gt F hpc hdec hm (fun _ => nx) (fun z => absurd hc z)
      · rw [if_neg hc] at hq
        cases hq
        exact zs_if_gt F hpc hdec hm (fun z => absurd z hc) (fun _ => nx)
    | le =>
      obtain ⟨x, r, rfl, h2⟩ := zti_inv (show zti st _ = some _ from hst)
      cases h2
      have hq : @ite zO (x ≤ 0) (Classical.propDecidable _) _ _ = _ := hq
      by_cases hc : x ≤ 0
      · rw [if_pos hc] at hq
        cases hq
        exact zs_if_le F hpc hdec hm (fun _ => nx) (fun z => absurd hc z)
      · rw [if_neg hc] at hq
        cases hq
        exact zs_if_le F hpc hdec hm (fun z => absurd z hc) (fun _ => nx)
  | if_icmp cc t =>
    cases cc with
    | eq =>
      obtain ⟨x, y, r, rfl, h2⟩ := ztii_inv (show ztii st _ = some _ from hst)
      cases h2
      have hq : @ite zO (x = y) (Classical.propDecidable _) _ _ = _ := hq
      by_cases hc : x = y
      · rw [if_pos hc] at hq
        cases hq
        exact zs_icmp_eq F hpc hdec hm (fun _ => nx) (fun z => absurd hc z)
      · rw [if_neg hc] at hq
        cases hq
        exact zs_icmp_eq F hpc hdec hm (fun z => absurd z hc) (fun _ => nx)
    | ne =>
      obtain ⟨x, y, r, rfl, h2⟩ := ztii_inv (show ztii st _ = some _ from hst)
      cases h2
      have hq : @ite zO (¬ x = y) (Classical.propDecidable _) _ _ = _ := hq
      by_cases hc : ¬ x = y
      · rw [if_pos hc] at hq
        cases hq
        exact zs_icmp_ne F hpc hdec hm (fun _ => nx) (fun z => absurd hc z)
      · rw [if_neg hc] at hq
        cases hq
        exact zs_icmp_ne F hpc hdec hm (fun z => absurd z hc) (fun _ => nx)
    | lt =>
      obtain ⟨x, y, r, rfl, h2⟩ := ztii_inv (show ztii st _ = some _ from hst)
      cases h2
      have hq : @ite zO (x < y) (Classical.propDecidable _) _ _ = _ := hq
      by_cases hc : x < y
      · rw [if_pos hc] at hq
        cases hq
        exact zs_icmp_lt F hpc hdec hm (fun _ => nx) (fun z => absurd hc z)
      · rw [if_neg hc] at hq
        cases hq
        exact zs_icmp_lt F hpc hdec hm (fun z => absurd z hc) (fun _ => nx)
    | ge =>
      obtain ⟨x, y, r, rfl, h2⟩ := ztii_inv (show ztii st _ = some _ from hst)
      cases h2
      have hq : @ite zO (y ≤ x) (Classical.propDecidable _) _ _ = _ := hq
      by_cases hc : y ≤ x
      · rw [if_pos hc] at hq
        cases hq
        exact zs_icmp_ge F hpc hdec hm (fun _ => nx) (fun z => absurd hc z)
      · rw [if_neg hc] at hq
        cases hq
        exact zs_icmp_ge F hpc hdec hm (fun z => absurd z hc) (fun _ => nx)
    | gt =>
      obtain ⟨x, y, r, rfl, h2⟩ := ztii_inv (show ztii st _ = some _ from hst)
      cases h2
      have hq : @ite zO (y < x) (Classical.propDecidable _) _ _ = _ := hq
      by_cases hc : y < x
      · rw [if_pos hc] at hq
        cases hq
        exact zs_icmp_gt F hpc hdec hm (fun _ => nx) (fun z => absurd hc z)
      · rw [if_neg hc] at hq
        cases hq
        exact zs_icmp_gt F hpc hdec hm (fun z => absurd z hc) (fun _ => nx)
    | le =>
      obtain ⟨x, y, r, rfl, h2⟩ := ztii_inv (show ztii st _ = some _ from hst)
      cases h2
      have hq : @ite zO (x ≤ y) (Classical.propDecidable _) _ _ = _ := hq
      by_cases hc : x ≤ y
      · rw [if_pos hc] at hq
        cases hq
        exact zs_icmp_le F hpc hdec hm (fun _ => nx) (fun z => absurd hc z)
      · rw [if_neg hc] at hq
        cases hq
        exact zs_icmp_le F hpc hdec hm (fun z => absurd z hc) (fun _ => nx)
  | tableswitch d lo hi ts =>
    obtain ⟨x, r, rfl, h2⟩ := zti_inv (show zti st _ = some _ from hst)
    cases h2
    exact zs_tsw F hpc hdec hm hq nx
  | getfield x =>
    obtain ⟨a, r, rfl, h2⟩ := ztr_inv (show ztr st _ = some _ from hst)
    cases h2; cases hq
    exact zs_getfield F hpc hdec hm (hcs _ List.mem_cons_self) nx
  | putfield x =>
    simp only [zstep] at hst
    cases h2 : x % 10 == 2
    · rw [h2] at hst
      dsimp only [cond] at hst
      split at hst
      · rename_i v a r
        cases hst; cases hq
        cases h1 : x % 10 == 1
        · rw [h1] at hcs
          exact zs_putI F hpc hdec hm h2 (fun z => absurd (h1.symm.trans z) (by decide)) (hcs _ List.mem_cons_self) nx
        · rw [h1] at hcs
          exact zs_putI F hpc hdec hm h2 (fun _ => hcs _ (List.mem_cons_of_mem _ List.mem_cons_self)) (hcs _ List.mem_cons_self) nx
      · cases hst
    · rw [h2] at hst
      obtain ⟨a, v, r, rfl, h3⟩ := ztrr_inv (show ztrr st _ = some _ from hst)
      cases h3; cases hq
      exact zs_putR F hpc hdec hm h2 (hcs _ List.mem_cons_self) nx
  | saload =>
    obtain ⟨x, y, r, rfl, h2⟩ := ztri_inv (show ztri st _ = some _ from hst)
    cases h2; cases hq
    obtain ⟨⟨hnx, rfl⟩, rfl⟩ : (_ ∧ _) ∧ _ := by simpa only [zmt, Bool.and_eq_true, decide_eq_true_eq] using hm
    have h1 : x = 1 := hcs _ List.mem_cons_self
    subst h1
    exact zs_saload F hpc hdec hnx (hcs _ (List.mem_cons_of_mem _ List.mem_cons_self)) nx
  | arraylength =>
    obtain ⟨x, r, rfl, h2⟩ := ztr_inv (show ztr st _ = some _ from hst)
    cases h2; cases hq
    obtain ⟨⟨hnx, rfl⟩, rfl⟩ : (_ ∧ _) ∧ _ := by simpa only [zmt, Bool.and_eq_true, decide_eq_true_eq] using hm
    have h1 : x = 1 := hcs _ List.mem_cons_self
    subst h1
    exact zs_alen F hpc hdec hnx nx
  | ret kd =>
    obtain ⟨x, y, r, rfl, h2⟩ := ztri_inv (show ztri st _ = some _ from hst)
    cases h2; cases hq
    obtain ⟨⟨hnx, rfl⟩, rfl⟩ : (_ ∧ _) ∧ _ := by simpa only [zmt, Bool.and_eq_true, decide_eq_true_eq] using hm
    exact zs_aaload F hpc hdec hnx (hcs _ List.mem_cons_self) (hcs _ (List.mem_cons_of_mem _ List.mem_cons_self)) nx
  | putstatic x =>
    obtain ⟨a, j, v, r, rfl, h2⟩ := ztrir_inv (show ztrir st _ = some _ from hst)
    cases h2; cases hq
    exact zs_aastore F hpc hdec hm (hcs _ List.mem_cons_self) (hcs _ (List.mem_cons_of_mem _ List.mem_cons_self)) (hcs _ (List.mem_cons_of_mem _ (List.mem_cons_of_mem _ List.mem_cons_self))) nx
  | faload =>
    obtain ⟨x, sp, y, dp, n, rfl, h2⟩ := ztcp_inv (show ztcp st _ = some _ from hst)
    cases h2; cases hq
    exact zs_copyI F hpc hdec hm (hcs _ List.mem_cons_self) (hcs _ (List.mem_cons_of_mem _ List.mem_cons_self)) (hcs _ (List.mem_cons_of_mem _ (List.mem_cons_of_mem _ List.mem_cons_self))) (hcs _ (List.mem_cons_of_mem _ (List.mem_cons_of_mem _ (List.mem_cons_of_mem _ List.mem_cons_self)))) (hcs _ (List.mem_cons_of_mem _ (List.mem_cons_of_mem _ (List.mem_cons_of_mem _ (List.mem_cons_of_mem _ List.mem_cons_self))))) (hcs _ (List.mem_cons_of_mem _ (List.mem_cons_of_mem _ (List.mem_cons_of_mem _ (List.mem_cons_of_mem _ (List.mem_cons_of_mem _ List.mem_cons_self)))))) (hcs _ (List.mem_cons_of_mem _ (List.mem_cons_of_mem _ (List.mem_cons_of_mem _ (List.mem_cons_of_mem _ (List.mem_cons_of_mem _ (List.mem_cons_of_mem _ List.mem_cons_self))))))) nx
  | daload =>
    obtain ⟨x, sp, y, dp, n, rfl, h2⟩ := ztcp_inv (show ztcp st _ = some _ from hst)
    cases h2; cases hq
    exact zs_copyL F hpc hdec hm (hcs _ List.mem_cons_self) (hcs _ (List.mem_cons_of_mem _ List.mem_cons_self)) (hcs _ (List.mem_cons_of_mem _ (List.mem_cons_of_mem _ List.mem_cons_self))) (hcs _ (List.mem_cons_of_mem _ (List.mem_cons_of_mem _ (List.mem_cons_of_mem _ List.mem_cons_self)))) (hcs _ (List.mem_cons_of_mem _ (List.mem_cons_of_mem _ (List.mem_cons_of_mem _ (List.mem_cons_of_mem _ List.mem_cons_self))))) (hcs _ (List.mem_cons_of_mem _ (List.mem_cons_of_mem _ (List.mem_cons_of_mem _ (List.mem_cons_of_mem _ (List.mem_cons_of_mem _ List.mem_cons_self)))))) (hcs _ (List.mem_cons_of_mem _ (List.mem_cons_of_mem _ (List.mem_cons_of_mem _ (List.mem_cons_of_mem _ (List.mem_cons_of_mem _ (List.mem_cons_of_mem _ List.mem_cons_self))))))) nx
  | dadd =>
    obtain ⟨x, y, rfl, h2⟩ := ztii0_inv (show ztii0 st _ = some _ from hst)
    cases h2; cases hq
    exact zs_min F hpc hdec hm hrm nx
  | nop =>
    obtain ⟨x, rfl, h2⟩ := ztr0_inv (show ztr0 st _ = some _ from hst)
    cases h2; cases hq
    exact zs_objInit F hpc hdec hm (hcs _ List.mem_cons_self) nx
  | new x => cases hst; cases hq; exact zs_new F hpc hdec hm hrm nx
  | newarray t =>
    cases t with
    | int =>
      obtain ⟨n, r, rfl, h2⟩ := zti_inv (show zti st _ = some _ from hst)
      cases h2; cases hq
      exact zs_newI F hpc hdec hm (hcs _ List.mem_cons_self) (hcs _ (List.mem_cons_of_mem _ List.mem_cons_self)) hrm nx
    | long =>
      obtain ⟨n, r, rfl, h2⟩ := zti_inv (show zti st _ = some _ from hst)
      cases h2; cases hq
      exact zs_newL F hpc hdec hm (hcs _ List.mem_cons_self) (hcs _ (List.mem_cons_of_mem _ List.mem_cons_self)) hrm nx
    | boolean =>
      obtain ⟨n, r, rfl, h2⟩ := zti_inv (show zti st _ = some _ from hst)
      cases h2; cases hq
      exact zs_newZ F hpc hdec hm (hcs _ List.mem_cons_self) (hcs _ (List.mem_cons_of_mem _ List.mem_cons_self)) hrm nx
    | _ => cases (show (none : zRes) = some _ from hst)
  | anewarray kd =>
    obtain ⟨n, r, rfl, h2⟩ := zti_inv (show zti st _ = some _ from hst)
    cases h2; cases hq
    exact zs_newA F hpc hdec hm (hcs _ List.mem_cons_self) (hcs _ (List.mem_cons_of_mem _ List.mem_cons_self)) hrm nx
  | invokestatic x =>
    obtain ⟨w, hw⟩ := zcall_no (show zcall x false i lv st M = some _ from hst)
    rw [hw] at hq
    cases hq
  | invokevirtual x =>
    obtain ⟨w, hw⟩ := zcall_no (show zcall x true i lv st M = some _ from hst)
    rw [hw] at hq
    cases hq
  | invokespecial x =>
    obtain ⟨w, hw⟩ := zcall_no (show zcall x true i lv st M = some _ from hst)
    rw [hw] at hq
    cases hq
  | ireturn =>
    simp only [zstep] at hst
    split at hst
    · rw [zretq_no hst] at hq
      cases hq
    · cases hst
  | lreturn =>
    simp only [zstep] at hst
    split at hst
    · rw [zretq_no hst] at hq
      cases hq
    · cases hst
  | areturn =>
    simp only [zstep] at hst
    split at hst
    · rw [zretq_no hst] at hq
      cases hq
    · cases hst
  | return_ =>
    simp only [zstep] at hst
    split at hst
    · rw [zretq_no hst] at hq
      cases hq
    · cases hst
  | _ => cases (show (none : zRes) = some _ from hst)
end ZALL
end
section
/-! which steps end a method, which call -/
def znr (r : zRes) : Prop := match r with
  | none => True
  | some (_, ch, o) => (∀ w, o ≠ .inr (.inl w)) ∧ ∀ q ∈ ch, ∀ w, q.2 ≠ .inr (.inl w)
theorem znr_nx {i : Nat} {lv : zLv} {st : List Value} {M : zM} : znr (znx i lv st M) := ⟨fun _ h => (by cases h), fun _ h => by cases h⟩
theorem znr_cs {cs : List Prop} {i : Nat} {lv : zLv} {st : List Value} {M : zM} : znr (zcs cs i lv st M) := ⟨fun _ h => (by cases h), fun _ h => by cases h⟩
theorem znr_br {c : Prop} {t i : Nat} {lv : zLv} {st : List Value} {M : zM} : znr (zbr c t i lv st M) := ⟨fun _ h => (by cases h), fun q h => by
  rw [List.mem_singleton] at h
  subst h
  intro w hw
  cases hw⟩
theorem zsw_nr {x : Int32} {lv : zLv} {r : List Value} {M : zM} : ∀ (ts : List Int) (v : Int) (q : Prop × zO), q ∈ zsw x lv r M v ts → ∀ w, q.2 ≠ .inr (.inl w)
  | [], _, _, h => by cases h
  | t :: ts, v, q, h => by
    rcases List.mem_cons.mp h with rfl | h
    · intro w hw; cases hw
    · exact zsw_nr ts (v + 1) q h
theorem znr_call {x : Nat} {ob : Bool} {i : Nat} {lv : zLv} {st : List Value} {M : zM} : znr (zcall x ob i lv st M) := by
  unfold zcall
  split
  · trivial
  · cases Nat.ble _ 8
    · trivial
    · cases ob
      · exact ⟨fun _ h => (by cases h), fun _ h => by cases h⟩
      · dsimp only [cond]
        split
        · exact ⟨fun _ h => (by cases h), fun _ h => by cases h⟩
        · trivial
theorem znr_pick {cs : List Prop} {ch : List (Prop × zO)} {o : zO} (h : znr (some (cs, ch, o))) (w : List Value × zM) : zpick ch o ≠ .inr (.inl w) := by
  rcases zpick_mem ch o with e | ⟨q, hq, e⟩
  · rw [e]; exact h.1 w
  · rw [e]; exact h.2 q hq w
theorem znr_ti {st : List Value} {f : Int32 → List Value → zRes} (h : ∀ a0 a1, znr (f a0 a1)) : znr (zti st f) := by
  unfold zti; split
  · exact h _ _
  · trivial
theorem znr_tii {st : List Value} {f : Int32 → Int32 → List Value → zRes} (h : ∀ a0 a1 a2, znr (f a0 a1 a2)) : znr (ztii st f) := by
  unfold ztii; split
  · exact h _ _ _
  · trivial
theorem znr_tl {st : List Value} {f : Int64 → List Value → zRes} (h : ∀ a0 a1, znr (f a0 a1)) : znr (ztl st f) := by
  unfold ztl; split
  · exact h _ _
  · trivial
theorem znr_tll {st : List Value} {f : Int64 → Int64 → List Value → zRes} (h : ∀ a0 a1 a2, znr (f a0 a1 a2)) : znr (ztll st f) := by
  unfold ztll; split
  · exact h _ _ _
  · trivial
theorem znr_tli {st : List Value} {f : Int64 → Int32 → List Value → zRes} (h : ∀ a0 a1 a2, znr (f a0 a1 a2)) : znr (ztli st f) := by
  unfold ztli; split
  · exact h _ _ _
  · trivial
theorem znr_tr {st : List Value} {f : Nat → List Value → zRes} (h : ∀ a0 a1, znr (f a0 a1)) : znr (ztr st f) := by
  unfold ztr; split
  · exact h _ _
  · trivial
theorem znr_tri {st : List Value} {f : Nat → Int32 → List Value → zRes} (h : ∀ a0 a1 a2, znr (f a0 a1 a2)) : znr (ztri st f) := by
  unfold ztri; split
  · exact h _ _ _
  · trivial
theorem znr_trii {st : List Value} {f : Nat → Int32 → Int32 → List Value → zRes} (h : ∀ a0 a1 a2 a3, znr (f a0 a1 a2 a3)) : znr (ztrii st f) := by
  unfold ztrii; split
  · exact h _ _ _ _
  · trivial
theorem znr_tril {st : List Value} {f : Nat → Int32 → Int64 → List Value → zRes} (h : ∀ a0 a1 a2 a3, znr (f a0 a1 a2 a3)) : znr (ztril st f) := by
  unfold ztril; split
  · exact h _ _ _ _
  · trivial
theorem znr_trir {st : List Value} {f : Nat → Int32 → Nat → List Value → zRes} (h : ∀ a0 a1 a2 a3, znr (f a0 a1 a2 a3)) : znr (ztrir st f) := by
  unfold ztrir; split
  · exact h _ _ _ _
  · trivial
theorem znr_trr {st : List Value} {f : Nat → Nat → List Value → zRes} (h : ∀ a0 a1 a2, znr (f a0 a1 a2)) : znr (ztrr st f) := by
  unfold ztrr; split
  · exact h _ _ _
  · trivial
theorem znr_tcp {st : List Value} {f : Nat → Int32 → Nat → Int32 → Int32 → zRes} (h : ∀ a0 a1 a2 a3 a4, znr (f a0 a1 a2 a3 a4)) : znr (ztcp st f) := by
  unfold ztcp; split
  · exact h _ _ _ _ _
  · trivial
theorem znr_tii0 {st : List Value} {f : Int32 → Int32 → zRes} (h : ∀ a0 a1, znr (f a0 a1)) : znr (ztii0 st f) := by
  unfold ztii0; split
  · exact h _ _
  · trivial
theorem znr_tr0 {st : List Value} {f : Nat → zRes} (h : ∀ a0, znr (f a0)) : znr (ztr0 st f) := by
  unfold ztr0; split
  · exact h _
  · trivial
set_option maxHeartbeats 4000000 in
theorem znr_step (rk : Nat) (ins : Instr) (i : Nat) (lv : zLv) (st : List Value) (M : zM) (h1 : ins ≠ .ireturn) (h2 : ins ≠ .lreturn) (h3 : ins ≠ .areturn) (h4 : ins ≠ .return_) : znr (zstep rk ins i lv st M) := by
  unfold zstep
  split
  all_goals first
    | exact trivial
    | exact znr_nx
    | exact znr_ti fun _ _ => znr_nx
    | exact znr_ti fun _ _ => znr_cs
    | exact znr_tii fun _ _ _ => znr_nx
    | exact znr_tii fun _ _ _ => znr_cs
    | exact znr_tl fun _ _ => znr_nx
    | exact znr_tl fun _ _ => znr_cs
    | exact znr_tll fun _ _ _ => znr_nx
    | exact znr_tll fun _ _ _ => znr_cs
    | exact znr_tli fun _ _ _ => znr_nx
    | exact znr_tli fun _ _ _ => znr_cs
    | exact znr_tr fun _ _ => znr_nx
    | exact znr_tr fun _ _ => znr_cs
    | exact znr_tri fun _ _ _ => znr_nx
    | exact znr_tri fun _ _ _ => znr_cs
    | exact znr_trii fun _ _ _ _ => znr_nx
    | exact znr_trii fun _ _ _ _ => znr_cs
    | exact znr_tril fun _ _ _ _ => znr_nx
    | exact znr_tril fun _ _ _ _ => znr_cs
    | exact znr_trir fun _ _ _ _ => znr_nx
    | exact znr_trir fun _ _ _ _ => znr_cs
    | exact znr_trr fun _ _ _ => znr_nx
    | exact znr_trr fun _ _ _ => znr_cs
    | exact znr_tcp fun _ _ _ _ _ => znr_nx
    | exact znr_tcp fun _ _ _ _ _ => znr_cs
    | exact znr_tii0 fun _ _ => znr_nx
    | exact znr_tii0 fun _ _ => znr_cs
    | exact znr_tr0 fun _ => znr_nx
    | exact znr_tr0 fun _ => znr_cs
    | exact znr_ti fun _ _ => znr_br
    | exact znr_tii fun _ _ _ => znr_br
    | exact znr_call
    | exact absurd rfl h1
    | exact absurd rfl h2
    | exact absurd rfl h3
    | exact absurd rfl h4
    | exact znr_ti fun _ _ => ⟨fun _ h => (by cases h), fun q hq => zsw_nr _ _ q hq⟩
    | (split
       · exact znr_nx
       · exact trivial)
    | (split
       · exact znr_nx
       · exact znr_nx
       · exact trivial)
    | skip
  all_goals
    cases h : (_ % 10 == 2)
    · dsimp only [cond]
      split
      · exact znr_cs
      · exact trivial
    · exact znr_trr fun _ _ _ => znr_cs
theorem zs_noret {rk : Nat} {ins : Instr} {i : Nat} {lv : zLv} {st : List Value} {M : zM} {cs : List Prop} {ch : List (Prop × zO)} {q : zO} (hst : zstep rk ins i lv st M = some (cs, ch, q)) (h1 : ¬ ins = .ireturn) (h2 : ¬ ins = .lreturn) (h3 : ¬ ins = .areturn) (h4 : ¬ ins = .return_) {w : List Value × zM} : zpick ch q ≠ .inr (.inl w) := by
  have h := znr_step rk ins i lv st M h1 h2 h3 h4
  rw [hst] at h
  exact znr_pick h w
/-! ends, calls, whole methods -/
def zQc (D : va_G) (cO : Nat → ClassId) (A : Nat → Prop) (b L : Nat) (xs : Nat → Int32) (ad0 : Nat → Nat) (n0 : Nat) (r0 : List Value) (Mf : zM) : Array Value → State → Outcome → State → Prop := fun _ st oc t =>
  (∃ ad' : Nat → Nat, (∀ x, x < n0 → ad' x = ad0 x) ∧ oc = .returned ((r0.map (zV ad')).head?) ∧ va_P D gCl (zws gFk cO ad' Mf) t.heap ∧ va_D A (zws gFk cO ad' Mf) ∧ zinv Mf ∧ zscr L xs Mf ∧ ad' 1 = b ∧ ∀ v ∈ r0, zval (zn Mf) v) ∧ va_F A st t
section ZR
variable {p : Program} {l : Launch} {e : Env} {R : Room} {s : State} {m : MethodId} {args : Array Value} {below : List Frame} {meth : Method} {c : Code} {D : va_G} {cO : Nat → ClassId} {A : Nat → Prop} {b L : Nat} {xs : Nat → Int32} {ad0 : Nat → Nat} {n0 s0 k : Nat} {i pc len : Nat} {lv : zLv} {st : List Value} {M : zM} {o : Instr}
theorem zs_ret (F : zfx p R s m args meth c D cO A b L xs k) (hpc : zat (gPc k) i = some pc) (hdec : decode (gMe k).2.1 pc = .ok (o, len)) {ins : Instr} (hm : zmt (gMe k).1 (gMe k).2.2.1 (gPc k) i pc o len ins = true) {cs : List Prop} {ch : List (Prop × zO)} {q : zO} (hst : zstep (zrk (gMe k).2.2.2) ins i lv st M = some (cs, ch, q)) (hcs : ∀ c ∈ cs, c) {r0 : List Value} {Mf : zM} (hq : zpick ch q = .inr (.inl (r0, Mf))) : zGo p l e R s m args below meth c (MQ below (zQc D cO A b L xs ad0 n0 r0 Mf) args s (zn Mf - n0) (zs Mf - s0) A) D cO A b L xs ad0 n0 s0 k i lv st M := by
  have hg := zgr_step (zrk (gMe k).2.2.2) ins i lv st M
  intro ad ls H locs h
  obtain ⟨hx, hb, hml, hown, hts, hnest, hover, hr, hlocks, hname, hK, hX, hbl, hbA, hA, hfr, hlo⟩ := F
  have fin : ∀ (r : List Value), (∀ v ∈ r, v ∈ st) → ∀ t : State, t.heap = H → s.WarmedH t.vm → zQc D cO A b L xs ad0 n0 r M args s (.returned ((r.map (zV ad)).head?)) t := fun r hr t ht _ =>
    ⟨⟨ad, h.2.2.2.2.2.2.2.2.2.1, rfl, by rw [ht]; exact h.1, h.2.1, h.2.2.2.1, h.2.2.2.2.1, h.2.2.2.2.2.1, fun v hv => h.2.2.2.2.2.2.2.1 v (hr v hv)⟩, h.2.2.1.F ht⟩
  have hrt := hr
  rw [hpc]
  have base : (∃ v : Int32, ins = .ireturn ∧ st = [.int v]) ∨ (∃ v : Int64, ins = .lreturn ∧ st = [.long v]) ∨ (∃ v : Nat, ins = .areturn ∧ st = [.ref v]) ∨ (ins = .return_ ∧ st = []) ∨ False := by
    by_cases h1 : ins = .ireturn
    · subst h1
      simp only [zstep] at hst
      split at hst
      · exact Or.inl ⟨_, rfl, rfl⟩
      · cases hst
    · by_cases h2 : ins = .lreturn
      · subst h2
        simp only [zstep] at hst
        split at hst
        · exact Or.inr (Or.inl ⟨_, rfl, rfl⟩)
        · cases hst
      · by_cases h3 : ins = .areturn
        · subst h3
          simp only [zstep] at hst
          split at hst
          · exact Or.inr (Or.inr (Or.inl ⟨_, rfl, rfl⟩))
          · cases hst
        · by_cases h4 : ins = .return_
          · subst h4
            simp only [zstep] at hst
            split at hst
            · exact Or.inr (Or.inr (Or.inr (Or.inl ⟨rfl, rfl⟩)))
            · cases hst
          · exact absurd hq (zs_noret hst h1 h2 h3 h4)
  rcases base with ⟨v, rfl, rfl⟩ | ⟨v, rfl, rfl⟩ | ⟨v, rfl, rfl⟩ | ⟨rfl, rfl⟩ | hF
  · obtain ⟨rfl, rfl⟩ : _ ∧ _ := by simpa only [zmt, Bool.and_eq_true, decide_eq_true_eq] using hm
    have hst : zretq (zrk (gMe k).2.2.2) [.int v] M = some (cs, ch, q) := hst
    rw [zretq_no hst] at hq
    cases hq
    unfold zretq at hst
    dsimp only at hst
    cases hrk : (gMe k).2.2.2 with
    | none => rw [hrk] at hst; cases hst
    | some t =>
      cases t with
      | int => rw [hrk] at hrt; exact W.iret hx hb hrt (fin [.int v] (fun _ h => h)) h.2.2.1.2.2 hdec
      | boolean =>
        rw [hrk] at hst hrt
        cases hst
        have hz : zb v := hcs _ List.mem_cons_self
        exact W.zret (ty := .boolean) hx hb hrt (by rcases hz with rfl | rfl <;> decide) (fin [.int v] (fun _ h => h)) h.2.2.1.2.2 hdec
      | _ => rw [hrk] at hst; cases hst
  · obtain ⟨rfl, rfl⟩ : _ ∧ _ := by simpa only [zmt, Bool.and_eq_true, decide_eq_true_eq] using hm
    have hst : zretq (zrk (gMe k).2.2.2) [.long v] M = some (cs, ch, q) := hst
    rw [zretq_no hst] at hq
    cases hq
    unfold zretq at hst
    dsimp only at hst
    cases hrk : (gMe k).2.2.2 with
    | none => rw [hrk] at hst; cases hst
    | some t =>
      cases t with
      | long => rw [hrk] at hrt; exact W.lret hx hb hrt (fin [.long v] (fun _ h => h)) h.2.2.1.2.2 hdec
      | _ => rw [hrk] at hst; cases hst
  · obtain ⟨rfl, rfl⟩ : _ ∧ _ := by simpa only [zmt, Bool.and_eq_true, decide_eq_true_eq] using hm
    have hst : zretq (zrk (gMe k).2.2.2) [.ref v] M = some (cs, ch, q) := hst
    rw [zretq_no hst] at hq
    cases hq
    unfold zretq at hst
    dsimp only at hst
    have hv : zV ad (.ref v) = .null ∨ ∃ a, zV ad (.ref v) = .ref a := by
      show va_rf (zro ad v) = .null ∨ ∃ a, va_rf (zro ad v) = .ref a
      cases zro ad v
      · exact Or.inl rfl
      · exact Or.inr ⟨_, rfl⟩
    cases hrk : (gMe k).2.2.2 with
    | none => rw [hrk] at hst; cases hst
    | some t =>
      cases t with
      | object nm => rw [hrk] at hrt; exact W.aret (v := zV ad (.ref v)) hx hb hrt (Or.inl ⟨_, rfl⟩) hv (fin [.ref v] (fun _ h => h)) h.2.2.1.2.2 hdec
      | array nm => rw [hrk] at hrt; exact W.aret (v := zV ad (.ref v)) hx hb hrt (Or.inr ⟨_, rfl⟩) hv (fin [.ref v] (fun _ h => h)) h.2.2.1.2.2 hdec
      | _ => rw [hrk] at hst; cases hst
  · obtain ⟨rfl, rfl⟩ : _ ∧ _ := by simpa only [zmt, Bool.and_eq_true, decide_eq_true_eq] using hm
    have hst : zretq (zrk (gMe k).2.2.2) [] M = some (cs, ch, q) := hst
    rw [zretq_no hst] at hq
    cases hq
    unfold zretq at hst
    dsimp only at hst
    cases hrk : (gMe k).2.2.2 with
    | none => rw [hrk] at hrt; exact W.vret hx hb hrt (fin [] (fun _ h => h)) h.2.2.1.2.2 hdec
    | some t => cases t <;> (rw [hrk] at hst; cases hst)
  · exact hF.elim
end ZR
end
section
def znc (r : zRes) : Prop := match r with
  | none => True
  | some (_, ch, o) => (∀ w, o ≠ .inr (.inr w)) ∧ ∀ q ∈ ch, ∀ w, q.2 ≠ .inr (.inr w)
theorem znc_nx {i : Nat} {lv : zLv} {st : List Value} {M : zM} : znc (znx i lv st M) := ⟨fun _ h => (by cases h), fun _ h => by cases h⟩
theorem znc_cs {cs : List Prop} {i : Nat} {lv : zLv} {st : List Value} {M : zM} : znc (zcs cs i lv st M) := ⟨fun _ h => (by cases h), fun _ h => by cases h⟩
theorem znc_br {c : Prop} {t i : Nat} {lv : zLv} {st : List Value} {M : zM} : znc (zbr c t i lv st M) := ⟨fun _ h => (by cases h), fun q h => by
  rw [List.mem_singleton] at h
  subst h
  intro w hw
  cases hw⟩
theorem zsw_nc {x : Int32} {lv : zLv} {r : List Value} {M : zM} : ∀ (ts : List Int) (v : Int) (q : Prop × zO), q ∈ zsw x lv r M v ts → ∀ w, q.2 ≠ .inr (.inr w)
  | [], _, _, h => by cases h
  | t :: ts, v, q, h => by
    rcases List.mem_cons.mp h with rfl | h
    · intro w hw; cases hw
    · exact zsw_nc ts (v + 1) q h
theorem znc_retq {rk : Nat} {st : List Value} {M : zM} : znc (zretq rk st M) := by
  cases h : zretq rk st M with
  | none => trivial
  | some q =>
    obtain ⟨cs, ch, o⟩ := q
    unfold zretq at h
    split at h
    · revert h
      cases rk == 0
      · intro h; cases h
      · intro h; cases h; exact ⟨fun _ h => (by cases h), fun _ h => by cases h⟩
    · revert h
      cases rk == 1
      · cases rk == 2
        · intro h; cases h
        · intro h; cases h; exact ⟨fun _ h => (by cases h), fun _ h => by cases h⟩
      · intro h; cases h; exact ⟨fun _ h => (by cases h), fun _ h => by cases h⟩
    · revert h
      cases rk == 3
      · intro h; cases h
      · intro h; cases h; exact ⟨fun _ h => (by cases h), fun _ h => by cases h⟩
    · revert h
      cases rk == 4
      · intro h; cases h
      · intro h; cases h; exact ⟨fun _ h => (by cases h), fun _ h => by cases h⟩
    · cases h
theorem znc_pick {cs : List Prop} {ch : List (Prop × zO)} {o : zO} (h : znc (some (cs, ch, o))) (w : Nat × Nat × List Value × Nat × zLv × List Value × zM) : zpick ch o ≠ .inr (.inr w) := by
  rcases zpick_mem ch o with e | ⟨q, hq, e⟩
  · rw [e]; exact h.1 w
  · rw [e]; exact h.2 q hq w
theorem znc_ti {st : List Value} {f : Int32 → List Value → zRes} (h : ∀ a0 a1, znc (f a0 a1)) : znc (zti st f) := by
  unfold zti; split
  · exact h _ _
  · trivial
theorem znc_tii {st : List Value} {f : Int32 → Int32 → List Value → zRes} (h : ∀ a0 a1 a2, znc (f a0 a1 a2)) : znc (ztii st f) := by
  unfold ztii; split
  · exact h _ _ _
  · trivial
theorem znc_tl {st : List Value} {f : Int64 → List Value → zRes} (h : ∀ a0 a1, znc (f a0 a1)) : znc (ztl st f) := by
  unfold ztl; split
  · exact h _ _
  · trivial
theorem znc_tll {st : List Value} {f : Int64 → Int64 → List Value → zRes} (h : ∀ a0 a1 a2, znc (f a0 a1 a2)) : znc (ztll st f) := by
  unfold ztll; split
  · exact h _ _ _
  · trivial
theorem znc_tli {st : List Value} {f : Int64 → Int32 → List Value → zRes} (h : ∀ a0 a1 a2, znc (f a0 a1 a2)) : znc (ztli st f) := by
  unfold ztli; split
  · exact h _ _ _
  · trivial
theorem znc_tr {st : List Value} {f : Nat → List Value → zRes} (h : ∀ a0 a1, znc (f a0 a1)) : znc (ztr st f) := by
  unfold ztr; split
  · exact h _ _
  · trivial
theorem znc_tri {st : List Value} {f : Nat → Int32 → List Value → zRes} (h : ∀ a0 a1 a2, znc (f a0 a1 a2)) : znc (ztri st f) := by
  unfold ztri; split
  · exact h _ _ _
  · trivial
theorem znc_trii {st : List Value} {f : Nat → Int32 → Int32 → List Value → zRes} (h : ∀ a0 a1 a2 a3, znc (f a0 a1 a2 a3)) : znc (ztrii st f) := by
  unfold ztrii; split
  · exact h _ _ _ _
  · trivial
theorem znc_tril {st : List Value} {f : Nat → Int32 → Int64 → List Value → zRes} (h : ∀ a0 a1 a2 a3, znc (f a0 a1 a2 a3)) : znc (ztril st f) := by
  unfold ztril; split
  · exact h _ _ _ _
  · trivial
theorem znc_trir {st : List Value} {f : Nat → Int32 → Nat → List Value → zRes} (h : ∀ a0 a1 a2 a3, znc (f a0 a1 a2 a3)) : znc (ztrir st f) := by
  unfold ztrir; split
  · exact h _ _ _ _
  · trivial
theorem znc_trr {st : List Value} {f : Nat → Nat → List Value → zRes} (h : ∀ a0 a1 a2, znc (f a0 a1 a2)) : znc (ztrr st f) := by
  unfold ztrr; split
  · exact h _ _ _
  · trivial
theorem znc_tcp {st : List Value} {f : Nat → Int32 → Nat → Int32 → Int32 → zRes} (h : ∀ a0 a1 a2 a3 a4, znc (f a0 a1 a2 a3 a4)) : znc (ztcp st f) := by
  unfold ztcp; split
  · exact h _ _ _ _ _
  · trivial
theorem znc_tii0 {st : List Value} {f : Int32 → Int32 → zRes} (h : ∀ a0 a1, znc (f a0 a1)) : znc (ztii0 st f) := by
  unfold ztii0; split
  · exact h _ _
  · trivial
theorem znc_tr0 {st : List Value} {f : Nat → zRes} (h : ∀ a0, znc (f a0)) : znc (ztr0 st f) := by
  unfold ztr0; split
  · exact h _
  · trivial
set_option maxHeartbeats 4000000 in
theorem znc_step (rk : Nat) (ins : Instr) (i : Nat) (lv : zLv) (st : List Value) (M : zM) (h1 : ∀ x, ins ≠ .invokestatic x) (h2 : ∀ x, ins ≠ .invokevirtual x) (h3 : ∀ x, ins ≠ .invokespecial x) : znc (zstep rk ins i lv st M) := by
  unfold zstep
  split
  all_goals first
    | exact trivial
    | exact znc_nx
    | exact znc_ti fun _ _ => znc_nx
    | exact znc_ti fun _ _ => znc_cs
    | exact znc_tii fun _ _ _ => znc_nx
    | exact znc_tii fun _ _ _ => znc_cs
    | exact znc_tl fun _ _ => znc_nx
    | exact znc_tl fun _ _ => znc_cs
    | exact znc_tll fun _ _ _ => znc_nx
    | exact znc_tll fun _ _ _ => znc_cs
    | exact znc_tli fun _ _ _ => znc_nx
    | exact znc_tli fun _ _ _ => znc_cs
    | exact znc_tr fun _ _ => znc_nx
    | exact znc_tr fun _ _ => znc_cs
    | exact znc_tri fun _ _ _ => znc_nx
    | exact znc_tri fun _ _ _ => znc_cs
    | exact znc_trii fun _ _ _ _ => znc_nx
    | exact znc_trii fun _ _ _ _ => znc_cs
    | exact znc_tril fun _ _ _ _ => znc_nx
    | exact znc_tril fun _ _ _ _ => znc_cs
    | exact znc_trir fun _ _ _ _ => znc_nx
    | exact znc_trir fun _ _ _ _ => znc_cs
    | exact znc_trr fun _ _ _ => znc_nx
    | exact znc_trr fun _ _ _ => znc_cs
    | exact znc_tcp fun _ _ _ _ _ => znc_nx
    | exact znc_tcp fun _ _ _ _ _ => znc_cs
    | exact znc_tii0 fun _ _ => znc_nx
    | exact znc_tii0 fun _ _ => znc_cs
    | exact znc_tr0 fun _ => znc_nx
    | exact znc_tr0 fun _ => znc_cs
    | exact znc_ti fun _ _ => znc_br
    | exact znc_tii fun _ _ _ => znc_br
    | exact absurd rfl (h1 _)
    | exact absurd rfl (h2 _)
    | exact absurd rfl (h3 _)
    | (split
       · exact znc_retq
       · exact trivial)
    | exact znc_ti fun _ _ => ⟨fun _ h => (by cases h), fun q hq => zsw_nc _ _ q hq⟩
    | (split
       · exact znc_nx
       · exact trivial)
    | (split
       · exact znc_nx
       · exact znc_nx
       · exact trivial)
    | skip
  all_goals
    cases h : (_ % 10 == 2)
    · dsimp only [cond]
      split
      · exact znc_cs
      · exact trivial
    · exact znc_trr fun _ _ _ => znc_cs
theorem zs_nocall {rk : Nat} {ins : Instr} {i : Nat} {lv : zLv} {st : List Value} {M : zM} {cs : List Prop} {ch : List (Prop × zO)} {q : zO} (hst : zstep rk ins i lv st M = some (cs, ch, q)) (h1 : ∀ x, ins ≠ .invokestatic x) (h2 : ∀ x, ins ≠ .invokevirtual x) (h3 : ∀ x, ins ≠ .invokespecial x) {w : Nat × Nat × List Value × Nat × zLv × List Value × zM} : zpick ch q ≠ .inr (.inr w) := by
  have h := znc_step rk ins i lv st M h1 h2 h3
  rw [hst] at h
  exact znc_pick h w
theorem zck_max {m : Nat} (h : m < gMeL.length) : (gMe m).2.2.1 ≤ 13 := by
  have h1 := zck m h
  simp only [zckm, Bool.and_eq_true, decide_eq_true_eq] at h1
  exact h1.1.1.1.1.2
/-! calls: the callee's contract gives the caller's step -/
theorem zcbn_in {own : String} {idx x : Nat} (h : zcbn own idx x = true) : Cond.methodLinkNest own idx (gMe (x / 10000)).1 gHs ∈ lw_tbl := by simpa only [zcbn, gNB, decide_eq_true_eq] using h
theorem zpop_at : ∀ (n : Nat) (acc st as r : List Value), zpop n acc st = some (as, r) → ∃ pre, as = pre ++ acc ∧ pre.length = n ∧ st = pre.reverse ++ r
  | 0, acc, st, as, r, h => by cases h; exact ⟨[], rfl, rfl, rfl⟩
  | n + 1, acc, [], as, r, h => by cases h
  | n + 1, acc, v :: st, as, r, h => by
    obtain ⟨pre, h1, h2, h3⟩ := zpop_at n (v :: acc) st as r h
    exact ⟨pre ++ [v], by rw [h1]; simp, by simp [h2], by rw [h3]; simp⟩
theorem zcat_eq {ad : Nat → Nat} : ∀ (r : List Value), ((r.map (zV ad)).map fun v => v.category).sum = zcat r
  | [] => rfl
  | v :: r => by
    rw [List.map_cons, List.map_cons, List.sum_cons, zV_cat, zcat_eq r]
    cases v <;> simp [zcat, Value.category] <;> omega
theorem gTB_good : ∀ w ∈ gTB, w ∈ gTB ∧ ((w.onTables && w.keeps) = true ∨ ∃ ty, w = .arrayClass ty) := fun w hw => ⟨hw, good_of_word (List.mem_filter.mp hw).2⟩
def zws0 (k : Nat) : List Cond := .code (gMe k).1 (gMe k).2.1 (gMe k).2.2.1 (gMe k).2.2.2 :: gTB
def zlo (d : Nat) : Nat := 8 + 32 * d
def zrm (d mc ms : Nat) : Room := { frames := d, cells := mc, slots := ms, locals := zlo d }
/-- what a method's start holds -/
def zPre (D : va_G) (cO : Nat → ClassId) (b L : Nat) (xs : Nat → Int32) (ad : Nat → Nat) (M : zM) (sz : Nat) (U : State) : Prop :=
  U.heap.size = sz ∧ va_P D gCl (zws gFk cO ad M) U.heap ∧ va_K D gCl (zTys cO) U ∧ va_D (fun _ => True) (zws gFk cO ad M) ∧ va_X b L xs U U.heap ∧ b < sz ∧ (∀ (j : Nat) (q : Nat × va_E), (zws gFk cO ad M)[j]? = some q → q.1 ≠ b) ∧ (∀ o i y h, Cond.methodLinkNest o i y h ∈ lw_tbl → va_Nw (.methodLinkNest o i y h) U) ∧ ∀ C, Cond.arrayOver (.object C) ∈ lw_tbl → va_AO C U
theorem zPre_blind {D : va_G} {cO : Nat → ClassId} {b L : Nat} {xs : Nat → Int32} {ad : Nat → Nat} {M : zM} {sz : Nat} {as : List Value} : FrameBlind (va_Pc as (zPre D cO b L xs ad M sz)) := by
  intro a U g mk h
  obtain ⟨h0, h1, h2, h3, h4, h5, h6, h7, h8, h9⟩ := h
  exact ⟨h0, h1, h2, va_K.moved (u := U) (U := U.calling g mk a) (Vm.Alike.refl U.vm) h3, h4, va_X.moved (u := U) (U := U.calling g mk a) (Vm.Alike.refl U.vm) h5, h6, h7, fun o i y h hm => va_Nw.same rfl rfl (h8 o i y h hm), fun C hm => va_AO.moved (u := U) (U := U.calling g mk a) (Vm.Alike.refl U.vm) (h9 C hm)⟩
/-- a method's contract, from what its run is in the small machine -/
def zMet (d : Nat) (xs : Nat → Int32) (L : Nat) : Prop := ∀ (mn : Nat) (as : List Value) (M : zM) (r : List Value) (Mf : zM), zCl gTb d mn as M (fun r' M' => r' = r ∧ M' = Mf) → mn < gMeL.length → zinv M → zscr L xs M → (∀ v ∈ as, zval (zn M) v) → ∀ (l : Launch) (D : va_G) (cO : Nat → ClassId) (ad : Nat → Nat) (b sz : Nat), ad 1 = b → Met l (gMe mn).1 (zws0 mn) (zrm d (zn Mf - zn M) (zs Mf - zs M)) (va_Pc (as.map (zV ad)) (zPre D cO b L xs ad M sz)) (zQc D cO (va_A (zws gFk cO ad M) sz) b L xs ad (zn M) r Mf) (zn Mf - zn M) (zs Mf - zs M) (va_A (zws gFk cO ad M) sz)
section ZC
variable {p : Program} {l : Launch} {e : Env} {R : Room} {s : State} {m : MethodId} {args : Array Value} {below : List Frame} {meth : Method} {c : Code} {Q : State → Prop} {D : va_G} {cO : Nat → ClassId} {A : Nat → Prop} {b L : Nat} {xs : Nat → Int32} {ad0 : Nat → Nat} {n0 s0 k : Nat} {i pc len : Nat} {lv : zLv} {st : List Value} {M : zM} {o : Instr}
theorem zcall_go {H : Heap} {locs : List Loc} {cells slots mc ms : Nat} {ls : Array Slot} {st0 rest : List Value} {Qa : State → Outcome → State → Prop} {free : Addr → Prop} (hr : va_Run p l e R s m args below meth c H locs cells slots mc ms (F0 m pc ls st0) rest Qa free) (hS : ∀ l ∈ locs, A l.base) (hf : ∀ q, free q → A q)
    (kk : ∀ (v : Option Value) (st₀ t : State) (locs1 : List Loc), st₀.heap = H → Qa st₀ (.returned v) t → (∀ l ∈ locs1, A l.base) → W p l e R s m args below meth c t.heap locs1 (cells + mc) (slots + ms) Q (F0 m (pc + 3) ls (v.toList ++ rest))) : W p l e R s m args below meth c H locs cells slots Q (F0 m pc ls st0) := by
  intro T hT X
  obtain ⟨v, st₀, t, T', Lc, h0, X', hL, e1, e2, hq, hst⟩ := hr T hT X
  obtain ⟨t2, a1, b1⟩ := kk v st₀ t (locs ++ Lc) h0 hq (fun q hq => by
      rcases List.mem_append.mp hq with h | h
      · exact hS q h
      · exact hf _ (hL q h)) T' e1 X'
  exact ⟨t2, hst t2 a1, b1⟩
theorem zs_call (F : zfx p R s m args meth c D cO A b L xs k) (hpc : zat (gPc k) i = some pc) (hdec : decode (gMe k).2.1 pc = .ok (o, len)) {rk : Nat} {ins : Instr} (hm : zmt (gMe k).1 (gMe k).2.2.1 (gPc k) i pc o len ins = true) {cs : List Prop} {ch : List (Prop × zO)} {q : zO} (hst : zstep rk ins i lv st M = some (cs, ch, q)) (hcs : ∀ c ∈ cs, c) {m1 rk1 i1 : Nat} {as : List Value} {lv1 : zLv} {r : List Value} {M0 : zM} (hq : zpick ch q = .inr (.inr (m1, rk1, as, i1, lv1, r, M0)))
    {d : Nat} (hR : d + 1 ≤ R.frames ∧ zlo (d + 1) ≤ R.locals) (hMt : zMet d xs L) {r1 : List Value} {M1 : zM} (hC : zCl gTb d m1 as M0 (fun r' M' => r' = r1 ∧ M' = M1)) (hr1 : zrv rk1 r1 fun _ => True) (hle : zn M ≤ zn M1 ∧ zs M ≤ zs M1) (hrm : zn M1 - n0 ≤ R.cells ∧ zs M1 - s0 ≤ R.slots) (nx : zGo p l e R s m args below meth c Q D cO A b L xs ad0 n0 s0 k i1 lv1 (r1 ++ r) M1) : zGo p l e R s m args below meth c Q D cO A b L xs ad0 n0 s0 k i lv st M := by
  intro ad ls H locs h
  obtain ⟨hx, hb, hml, hown, hts, hnest, hover, hr, hlocks, hname, hK, hX, hbl, hbA, hA, hfr, hlo⟩ := F
  -- the callee's own part of the heap
  have hA1 : ∀ q, va_A (zws gFk cO ad M) H.size q → A q := fun q hq => by
    rcases hq with ⟨j, e, hj⟩ | hq
    · exact h.2.1.2 j (q, e) hj
    · exact hA q (Nat.le_trans h.2.2.1.1 hq)
  have hpre : ∀ (As : List Value) (U : State), U.heap = H → s.WarmedH U.vm → va_Pc As (zPre D cO b L xs ad M H.size) As.toArray U := fun As U hU hW => by
    refine ⟨rfl, by rw [hU], by rw [hU]; exact h.1, va_K.moved hW.alike hK, h.2.1.weaken (fun _ _ _ _ => trivial), ?_, Nat.lt_of_lt_of_le hbl h.2.2.1.1, fun j q hj => fun e => hbA (by rw [← e]; exact h.2.1.2 j q hj), fun o i y h hm => va_Nw.warmM hW (hnest o i y h hm), fun C hm => va_AO.moved hW.alike (hover C hm)⟩
    rw [hU]
    exact va_X.moved hW.alike (hX.kept (h.2.2.1.2.1 b hbl hbA))
  have hv1 : (r1.length ≤ 1) := by
    unfold zrv at hr1
    split at hr1
    · obtain ⟨e, -⟩ := hr1; rw [e]; exact Nat.zero_le _
    · obtain ⟨x, e, -⟩ := hr1; rw [e]; exact Nat.le_refl _
    · obtain ⟨x, e, -⟩ := hr1; rw [e]; exact Nat.le_refl _
    · obtain ⟨x, e, -⟩ := hr1; rw [e]; exact Nat.le_refl _
    · obtain ⟨x, e, -⟩ := hr1; rw [e]; exact Nat.le_refl _
  have hge := h.2.2.2.2.2.2.2.2.2.2
  -- behind the call
  have after : ∀ (hM0 : M0 = M) (hlv : lv1 = lv) (hrs : ∀ v ∈ r, v ∈ st) (hnx : zat (gPc k) i1 = some (pc + 3)) (aa : Array Value) (v : Option Value) (st₀ t : State) (locs1 : List Loc), st₀.heap = H → zQc D cO (va_A (zws gFk cO ad M) H.size) b L xs ad (zn M) r1 M1 aa st₀ (.returned v) t → (∀ l ∈ locs1, A l.base) → W p l e R s m args below meth c t.heap locs1 (zn M - n0 + (zn M1 - zn M)) (zs M - s0 + (zs M1 - zs M)) Q (F0 m (pc + 3) ls (v.toList ++ r.map (zV ad))) := by
    intro hM0 hlv hrs hnx aa v st₀ t locs1 h0 hq hl1
    subst hM0 hlv
    obtain ⟨⟨ad', g1, g2, g3, g4, g5, g6, g7, g8⟩, g9, g10⟩ := hq
    cases g2
    rw [h0] at g9 g10
    have e1 : ((r1.map (zV ad')).head?).toList = r1.map (zV ad') := by
      cases r1 with
      | nil => rfl
      | cons a r2 =>
        cases r2 with
        | nil => rfl
        | cons a2 r3 => simp at hv1
    have e2 : r.map (zV ad) = r.map (zV ad') := (zVs_ad g1 r fun v hv => h.2.2.2.2.2.2.2.1 v (hrs v hv)).symm
    rw [e1, e2, ← List.map_append]
    have a1 := nx ad' ls t.heap locs1 ⟨g3, g4.weaken (fun _ q _ hq => hA1 q.1 hq), ⟨Nat.le_trans h.2.2.1.1 g9, fun q q1 q2 => (g10 q (Nat.lt_of_lt_of_le q1 h.2.2.1.1) (fun z => q2 (hA1 q z))).trans (h.2.2.1.2.1 q q1 q2), hl1⟩, g5, g6, g7, zlv_ad h.2.2.2.2.2.2.1 h.2.2.2.2.2.2.2.2.1 g1, fun v hv => by
        rcases List.mem_append.mp hv with hv | hv
        · exact g8 v hv
        · exact zval_up hle.1 (h.2.2.2.2.2.2.2.1 v (hrs v hv)), fun j v hj => zval_up hle.1 (h.2.2.2.2.2.2.2.2.1 j v hj), fun x hx => (g1 x (Nat.lt_of_lt_of_le hx hge.1)).trans (h.2.2.2.2.2.2.2.2.2.1 x hx), Nat.le_trans hge.1 hle.1, Nat.le_trans hge.2 hle.2⟩
    rw [hnx] at a1
    exact W.cs (by omega) (by omega) a1
  have mkGood : ∀ (m2 : Nat), zwd (.code (gMe m2).1 (gMe m2).2.1 (gMe m2).2.2.1 (gMe m2).2.2.2) = true → GoodIn gTB (zws0 m2) := fun m2 hw w hw2 => by
    rcases List.mem_cons.mp hw2 with rfl | hw2
    · exact gTB_good _ (zwd_in hw)
    · exact gTB_good w hw2
  have hroom : ∀ (m2 : Nat), (gMe m2).2.2.1 ≤ 13 → (zrm d (zn M1 - zn M) (zs M1 - zs M)).frames + 1 ≤ R.frames ∧ 8 + ((gMe m2).2.2.1 + 11) + (zrm d (zn M1 - zn M) (zs M1 - zs M)).locals ≤ R.locals := fun m2 hm2 => by
    show d + 1 ≤ R.frames ∧ 8 + ((gMe m2).2.2.1 + 11) + zlo d ≤ R.locals
    have h1 := hR.1
    have h2 := hR.2
    unfold zlo at h2 ⊢
    omega
  rw [hpc]
  cases ins with
  | invokestatic x =>
    have hst : zcall x false i lv st M = some (cs, ch, q) := hst
    unfold zcall at hst
    split at hst
    · cases hst
    · rename_i as' r' hp
      cases hbl8 : Nat.ble (zcat r') 8
      · rw [hbl8] at hst; cases hst
      · rw [hbl8] at hst
        cases hst
        cases hq
        obtain ⟨pre, p1, p2, p3⟩ := zpop_at _ _ _ _ _ hp
        rw [List.append_nil] at p1
        subst p1
        simp only [zmt, Bool.and_eq_true, decide_eq_true_eq] at hm
        obtain ⟨hnx, hm⟩ := hm
        split at hm
        · obtain ⟨⟨⟨rfl, w0⟩, w1⟩, w2⟩ : ((_ ∧ _) ∧ _) ∧ _ := by simpa only [Bool.and_eq_true, decide_eq_true_eq] using hm
          simp only [zcb, Bool.and_eq_true, decide_eq_true_eq] at w0
          obtain ⟨⟨⟨⟨⟨⟨⟨z1, z2⟩, z3⟩, z4⟩, z5⟩, z6⟩, z7⟩, z8⟩ := w0
          have hmax : (gMe (x / 10000)).2.2.1 ≤ 13 := zck_max z7
          have hM := hMt (x / 10000) _ M r1 M1 hC z7 h.2.2.2.1 h.2.2.2.2.1 (fun v hv => h.2.2.2.2.2.2.2.1 v (by rw [p3]; exact List.mem_append_left _ (List.mem_reverse.mpr hv))) l D cO ad b H.size h.2.2.2.2.2.1
          have hstk : st.map (zV ad) = (List.map (zV ad) as).reverse ++ r.map (zV ad) := by rw [p3, List.map_append, List.map_reverse]
          rw [hstk]
          have hn1 : (List.map (zV ad) as).length = x / 1000 % 10 := by rw [List.length_map, p2]
          rcases (Bool.or_eq_true _ _).mp w2 with w2 | w2
          · exact zcall_go (va_runS ⟨hx, hb, hml, hown, hts⟩ hM ⟨callB_of (x / 1000 % 10) hts (mkGood _ z6) rfl rfl rfl (hts _ (zwd_in z5)) (hts _ (zwd_in w2)) ⟨z2, z3, z1⟩ (hroom _ hmax), hts _ (zwd_in w1)⟩ ⟨zPre_blind, hpre _⟩ rfl hn1 h.2.2.2.2.2.2.1.1 rfl (lv_room (by rw [zcat_eq]; exact Nat.le_of_ble_eq_true hbl8)) hdec ⟨by omega, by omega⟩) h.2.2.1.2.2 hA1 (after rfl rfl (fun v hv => by rw [p3]; exact List.mem_append_right _ hv) hnx _)
          · have w3 := zcbn_in w2
            exact zcall_go (va_runSN ⟨hx, hb, hml, hown, hts⟩ hM ⟨va_cnB (x / 1000 % 10) hts (mkGood _ z6) rfl rfl rfl (hnest _ _ _ _ w3) (hts _ (zwd_in z5)) ⟨z2, z3, z1⟩ (hroom _ hmax), hts _ (zwd_in w1), trivial⟩ ⟨zPre_blind, hpre _⟩ rfl hn1 h.2.2.2.2.2.2.1.1 rfl (lv_room (by rw [zcat_eq]; exact Nat.le_of_ble_eq_true hbl8)) hdec ⟨by omega, by omega⟩) h.2.2.1.2.2 hA1 (after rfl rfl (fun v hv => by rw [p3]; exact List.mem_append_right _ hv) hnx _)
        · cases hm
  | invokevirtual x =>
    have hst : zcall x true i lv st M = some (cs, ch, q) := hst
    unfold zcall at hst
    split at hst
    · cases hst
    · rename_i as' r' hp
      cases hbl8 : Nat.ble (zcat r') 8
      · rw [hbl8] at hst; cases hst
      · rw [hbl8] at hst
        dsimp only [cond] at hst
        split at hst
        · rename_i a as2
          cases hst
          cases hq
          obtain ⟨pre, p1, p2, p3⟩ := zpop_at _ _ _ _ _ hp
          rw [List.append_nil] at p1
          subst p1
          have hsh : (zsh M a).1 = 10 + x % 100 := hcs _ List.mem_cons_self
          have hids := zin_ids h.2.2.2.1 (a := a) (by omega)
          have hg := zws_get (fk := gFk) (cO := cO) (ad := ad) hids
          rw [zE_obj hsh] at hg
          simp only [zmt, Bool.and_eq_true, decide_eq_true_eq] at hm
          obtain ⟨hnx, hm⟩ := hm
          split at hm
          · obtain ⟨⟨⟨⟨⟨⟨rfl, w0⟩, w1⟩, w2⟩, w3⟩, w4⟩, w5⟩ : (((((_ ∧ _) ∧ _) ∧ _) ∧ _) ∧ _) ∧ _ := by simpa only [Bool.and_eq_true, decide_eq_true_eq] using hm
            simp only [zcb, Bool.and_eq_true, decide_eq_true_eq] at w0
            obtain ⟨⟨⟨⟨⟨⟨⟨z1, z2⟩, z3⟩, z4⟩, z5⟩, z6⟩, z7⟩, z8⟩ := w0
            split at w5
            · rename_i rc hrc
              have hcl : rc.1 = (gMe (x / 10000)).1.cls := by simpa only [decide_eq_true_eq] using w5
              have hmax : (gMe (x / 10000)).2.2.1 ≤ 13 := zck_max z7
              have hM := hMt (x / 10000) _ M r1 M1 hC z7 h.2.2.2.1 h.2.2.2.2.1 (fun v hv => h.2.2.2.2.2.2.2.1 v (by rw [p3]; exact List.mem_append_left _ (List.mem_reverse.mpr hv))) l D cO ad b H.size h.2.2.2.2.2.1
              have hM' : Met l (gMe (x / 10000)).1 (zws0 (x / 10000)) (zrm d (zn M1 - zn M) (zs M1 - zs M)) (va_Pc (.ref (ad a) :: as2.map (zV ad)) (zPre D cO b L xs ad M H.size)) (zQc D cO (va_A (zws gFk cO ad M) H.size) b L xs ad (zn M) r1 M1) (zn M1 - zn M) (zs M1 - zs M) (va_A (zws gFk cO ad M) H.size) := by
                rw [List.map_cons, zV_ref hids.1] at hM
                exact hM
              have hstk : st.map (zV ad) = (List.map (zV ad) as2).reverse ++ .ref (ad a) :: r.map (zV ad) := by rw [p3, List.map_append, List.map_reverse, List.map_cons, zV_ref hids.1, List.reverse_cons, List.append_assoc]; rfl
              rw [hstk]
              have hn1 : (List.map (zV ad) as2).length = x / 1000 % 10 - 1 := by
                rw [List.length_map]
                rw [List.length_cons] at p2
                omega
              exact zcall_go (va_runV (C := (gMe (x / 10000)).1.cls) ⟨hx, hb, hml, hown, hts⟩ hM' ⟨callB_of (x / 1000 % 10 - 1) hts (mkGood _ z6) rfl rfl rfl (hts _ (zwd_in z5)) (hts _ (zwd_in w4)) ⟨z2, z3, z1⟩ (hroom _ hmax), hts _ (zwd_in w2), hts _ (zwd_in w3)⟩ ⟨zPre_blind, by rw [← hcl]; exact va_recv hK h.1 hrc hg, hpre _⟩ rfl hn1 h.2.2.2.2.2.2.1.1 rfl (lv_room (by rw [zcat_eq]; exact Nat.le_of_ble_eq_true hbl8)) hdec ⟨by omega, by omega⟩) h.2.2.1.2.2 hA1 (after rfl rfl (fun v hv => by rw [p3]; exact List.mem_append_right _ hv) hnx _)
            · cases w5
          · cases hm
        · cases hst
  | invokespecial x =>
    have hst : zcall x true i lv st M = some (cs, ch, q) := hst
    unfold zcall at hst
    split at hst
    · cases hst
    · rename_i as' r' hp
      cases hbl8 : Nat.ble (zcat r') 8
      · rw [hbl8] at hst; cases hst
      · rw [hbl8] at hst
        dsimp only [cond] at hst
        split at hst
        · rename_i a as2
          cases hst
          cases hq
          obtain ⟨pre, p1, p2, p3⟩ := zpop_at _ _ _ _ _ hp
          rw [List.append_nil] at p1
          subst p1
          have hsh : (zsh M a).1 = 10 + x % 100 := hcs _ List.mem_cons_self
          have hids := zin_ids h.2.2.2.1 (a := a) (by omega)
          simp only [zmt, Bool.and_eq_true, decide_eq_true_eq] at hm
          obtain ⟨hnx, hm⟩ := hm
          split at hm
          · obtain ⟨⟨⟨⟨⟨⟨rfl, w0⟩, w1⟩, w2⟩, w3⟩, w4⟩, w5⟩ : (((((_ ∧ _) ∧ _) ∧ _) ∧ _) ∧ _) ∧ _ := by simpa only [Bool.and_eq_true, decide_eq_true_eq] using hm
            simp only [zcb, Bool.and_eq_true, decide_eq_true_eq] at w0
            obtain ⟨⟨⟨⟨⟨⟨⟨z1, z2⟩, z3⟩, z4⟩, z5⟩, z6⟩, z7⟩, z8⟩ := w0
            have hmax : (gMe (x / 10000)).2.2.1 ≤ 13 := zck_max z7
            have hM := hMt (x / 10000) _ M r1 M1 hC z7 h.2.2.2.1 h.2.2.2.2.1 (fun v hv => h.2.2.2.2.2.2.2.1 v (by rw [p3]; exact List.mem_append_left _ (List.mem_reverse.mpr hv))) l D cO ad b H.size h.2.2.2.2.2.1
            have hM' : Met l (gMe (x / 10000)).1 (zws0 (x / 10000)) (zrm d (zn M1 - zn M) (zs M1 - zs M)) (va_Pc (.ref (ad a) :: as2.map (zV ad)) (zPre D cO b L xs ad M H.size)) (zQc D cO (va_A (zws gFk cO ad M) H.size) b L xs ad (zn M) r1 M1) (zn M1 - zn M) (zs M1 - zs M) (va_A (zws gFk cO ad M) H.size) := by
              rw [List.map_cons, zV_ref hids.1] at hM
              exact hM
            have hstk : st.map (zV ad) = (List.map (zV ad) as2).reverse ++ .ref (ad a) :: r.map (zV ad) := by rw [p3, List.map_append, List.map_reverse, List.map_cons, zV_ref hids.1, List.reverse_cons, List.append_assoc]; rfl
            rw [hstk]
            have hn1 : (List.map (zV ad) as2).length = x / 1000 % 10 - 1 := by
              rw [List.length_map]
              rw [List.length_cons] at p2
              omega
            have hw : zws0 (x / 10000) = Cond.code (gMe (x / 10000)).1 (gMe (x / 10000)).2.1 (gMe (x / 10000)).2.2.1 none :: gTB := by unfold zws0; rw [w3]
            rcases (Bool.or_eq_true _ _).mp w5 with w5 | w5
            · exact zcall_go (va_runI ⟨hx, hb, hml, hown, hts⟩ hM' ⟨callB_of (x / 1000 % 10 - 1) hts (mkGood _ z6) hw rfl rfl (hts _ (zwd_in z5)) (hts _ (zwd_in w5)) ⟨z2, z3, z1⟩ (hroom _ hmax), w2, hts _ (zwd_in w4)⟩ ⟨zPre_blind, hpre _⟩ rfl hn1 h.2.2.2.2.2.2.1.1 rfl (lv_room (by rw [zcat_eq]; exact Nat.le_of_ble_eq_true hbl8)) hdec ⟨by omega, by omega⟩) h.2.2.1.2.2 hA1 (after rfl rfl (fun v hv => by rw [p3]; exact List.mem_append_right _ hv) hnx _)
            · have w6 := zcbn_in w5
              exact zcall_go (va_runIN ⟨hx, hb, hml, hown, hts⟩ hM' ⟨va_cnB (x / 1000 % 10 - 1) hts (mkGood _ z6) hw rfl rfl (hnest _ _ _ _ w6) (hts _ (zwd_in z5)) ⟨z2, z3, z1⟩ (hroom _ hmax), w2, hts _ (zwd_in w4)⟩ ⟨zPre_blind, hpre _⟩ rfl hn1 h.2.2.2.2.2.2.1.1 rfl (lv_room (by rw [zcat_eq]; exact Nat.le_of_ble_eq_true hbl8)) hdec ⟨by omega, by omega⟩) h.2.2.1.2.2 hA1 (after rfl rfl (fun v hv => by rw [p3]; exact List.mem_append_right _ hv) hnx _)
          · cases hm
        · cases hst
  | _ => exact absurd hq (zs_nocall hst (fun _ h => by cases h) (fun _ h => by cases h) (fun _ h => by cases h))
end ZC
end
section
/-! a run in the small machine is a run of the method -/
theorem zckl_at {y : MethodName} {bytes : ByteArray} {nL : Nat} {pcs : List Nat} : ∀ (l : List Instr) (ps : List Nat) (i0 j : Nat) (ins : Instr), zckl y bytes nL pcs i0 l ps = true → zat l j = some ins → ∃ pc o len, zat ps j = some pc ∧ decode bytes pc = .ok (o, len) ∧ zmt y nL pcs (i0 + j) pc o len ins = true
  | [], _, _, _, _, _, h => by cases h
  | _ :: _, [], _, _, _, h, _ => by cases h
  | mi :: l, pc :: ps, i0, 0, ins, h, hj => by
    cases hj
    have h := ((Bool.and_eq_true _ _).mp h).1
    split at h
    · rename_i o len hd
      exact ⟨pc, o, len, rfl, hd, h⟩
    · cases h
  | mi :: l, pc :: ps, i0, j + 1, ins, h, hj => by
    obtain ⟨pc', o, len, h1, h2, h3⟩ := zckl_at l ps (i0 + 1) j ins ((Bool.and_eq_true _ _).mp h).2 hj
    exact ⟨pc', o, len, h1, h2, by rw [show i0 + (j + 1) = i0 + 1 + j by omega]; exact h3⟩
theorem zck_all {k : Nat} (h : k < gMeL.length) : (gTb k).2.1 = zrk (gMe k).2.2.2 ∧ (gTb k).2.2 = (gMe k).2.2.1 ∧ plainName (gMe k).1.cls = true ∧ zat (gPc k) 0 = some 0 ∧ zckl (gMe k).1 (gMe k).2.1 (gMe k).2.2.1 (gPc k) 0 (gTb k).1 (gPc k) = true := by
  have h1 := zck k h
  simp only [zckm, Bool.and_eq_true, decide_eq_true_eq] at h1
  exact ⟨h1.1.1.1.1.1.1, h1.1.1.1.1.1.2, h1.1.1.1.2, h1.1.1.2, h1.2⟩
section ZB
variable {p : Program} {l : Launch} {e : Env} {R : Room} {s : State} {m : MethodId} {args : Array Value} {below : List Frame} {meth : Method} {c : Code} {Q : State → Prop} {D : va_G} {cO : Nat → ClassId} {A : Nat → Prop} {b L : Nat} {xs : Nat → Int32} {ad0 : Nat → Nat} {n0 s0 k : Nat}
theorem zbody (F : zfx p R s m args meth c D cO A b L xs k) (hk : k < gMeL.length) {d : Nat} (hR : d + 1 ≤ R.frames ∧ zlo (d + 1) ≤ R.locals) (hMt : zMet d xs L) {r0 : List Value} {Mf : zM} (hrm : zn Mf - n0 ≤ R.cells ∧ zs Mf - s0 ≤ R.slots)
    (hret : ∀ (i pc len : Nat) (lv : zLv) (st : List Value) (M : zM) (o ins : Instr) (cs : List Prop) (ch : List (Prop × zO)) (q : zO), zat (gPc k) i = some pc → decode (gMe k).2.1 pc = .ok (o, len) → zmt (gMe k).1 (gMe k).2.2.1 (gPc k) i pc o len ins = true → zstep (zrk (gMe k).2.2.2) ins i lv st M = some (cs, ch, q) → (∀ c ∈ cs, c) → zpick ch q = .inr (.inl (r0, Mf)) → zGo p l e R s m args below meth c Q D cO A b L xs ad0 n0 s0 k i lv st M) :
    ∀ (f i : Nat) (lv : zLv) (st : List Value) (M : zM), zwp (zCl gTb d) (gTb k).2.1 (gTb k).1 (fun _ => false) (fun _ _ _ _ => False) (fun r' M' => r' = r0 ∧ M' = Mf) f i lv st M → zGo p l e R s m args below meth c Q D cO A b L xs ad0 n0 s0 k i lv st M
  | 0, _, _, _, _, a => a.elim
  | f + 1, i, lv, st, M, a => by
    have hck := zck_all hk
    have hgood := zCl_good gTb d
    have a : zgo (gTb k).2.1 (gTb k).1 i lv st M (zout (zCl gTb d) (fun i lv st M => zwp (zCl gTb d) (gTb k).2.1 (gTb k).1 (fun _ => false) (fun _ _ _ _ => False) (fun r' M' => r' = r0 ∧ M' = Mf) f i lv st M) (fun r' M' => r' = r0 ∧ M' = Mf)) := a
    unfold zgo at a
    split at a
    · exact a.elim
    · rename_i ins hins
      obtain ⟨pc, o, len, hpc, hdec, hm⟩ := zckl_at _ _ 0 i ins hck.2.2.2.2 hins
      rw [Nat.zero_add] at hm
      rw [hck.1] at a
      have hgr := zgr_step (zrk (gMe k).2.2.2) ins i lv st M
      cases hst : zstep (zrk (gMe k).2.2.2) ins i lv st M with
      | none => rw [hst] at a; exact a.elim
      | some w =>
        obtain ⟨cs, ch, q⟩ := w
        rw [hst] at a hgr
        obtain ⟨hcs, a⟩ := zcj_iff.mp a
        have a := zch_iff.mp a
        have hp : zn M ≤ zn (zOM (zpick ch q)) ∧ zs M ≤ zs (zOM (zpick ch q)) := by
          rcases zpick_mem ch q with h | ⟨q', hq', h⟩
          · rw [h]; exact hgr.1
          · rw [h]; exact hgr.2 q' hq'
        cases hq : zpick ch q with
        | inl w =>
          obtain ⟨i1, lv1, st1, M1⟩ := w
          rw [hq] at a
          have a : zwp (zCl gTb d) (zrk (gMe k).2.2.2) (gTb k).1 (fun _ => false) (fun _ _ _ _ => False) (fun r' M' => r' = r0 ∧ M' = Mf) f i1 lv1 st1 M1 := a
          obtain ⟨_, _, ⟨rfl, rfl⟩, d1, d2, -⟩ := zwp_det hgood f _ _ _ _ a
          rw [← hck.1] at a
          exact zs_all F hpc hdec hm hst hcs hq ⟨by omega, by omega⟩ (zbody F hk hR hMt hrm hret f i1 lv1 st1 M1 a)
        | inr w =>
          cases w with
          | inl w =>
            obtain ⟨r, M'⟩ := w
            rw [hq] at a
            obtain ⟨rfl, rfl⟩ : r = r0 ∧ M' = Mf := a
            exact hret i pc len lv st M o ins cs ch q hpc hdec hm hst hcs hq
          | inr w =>
            obtain ⟨m1, rk1, as, i1, lv1, r, M0⟩ := w
            rw [hq] at a hp
            obtain ⟨r1, M1, b0, e1, e2, hC⟩ := hgood.2 _ _ _ _ a
            obtain ⟨b1, b2⟩ := zrv_iff.mp b0
            obtain ⟨_, _, ⟨rfl, rfl⟩, d1, d2, -⟩ := zwp_det hgood f _ _ _ _ b2
            rw [← hck.1] at b2
            exact zs_call F hpc hdec hm hst hcs hq hR hMt hC b1 ⟨Nat.le_trans hp.1 e1, Nat.le_trans hp.2 e2⟩ ⟨by omega, by omega⟩ (zbody F hk hR hMt hrm hret f i1 lv1 (r1 ++ r) M1 b2)
end ZB
theorem zarg_at {ad : Nat → Nat} : ∀ (as : List Value) (k j : Nat) (v : Value), zat (zarg as) j = some (some v) → (k + j, zV ad v) ∈ lv_args k (as.map (zV ad))
  | [], _, _, _, h => by cases h
  | a :: as, k, j, v, h => by
    have hc : (zV ad a).category = a.category := zV_cat a
    show (k + j, zV ad v) ∈ (k, zV ad a) :: lv_args (if (zV ad a).category = 2 then k + 2 else k + 1) (as.map (zV ad))
    rw [hc]
    have one : ∀ (_ : zarg (a :: as) = some a :: zarg as) (_ : a.category = 1), (k + j, zV ad v) ∈ (k, zV ad a) :: lv_args (if a.category = 2 then k + 2 else k + 1) (as.map (zV ad)) := by
      intro e1 e2
      rw [e1] at h
      rw [e2]
      cases j with
      | zero => cases h; exact List.mem_cons_self
      | succ j =>
        refine List.mem_cons_of_mem _ ?_
        have := zarg_at (ad := ad) as (k + 1) j v h
        rw [show k + (j + 1) = k + 1 + j by omega]
        exact this
    have two : ∀ (_ : zarg (a :: as) = some a :: none :: zarg as) (_ : a.category = 2), (k + j, zV ad v) ∈ (k, zV ad a) :: lv_args (if a.category = 2 then k + 2 else k + 1) (as.map (zV ad)) := by
      intro e1 e2
      rw [e1] at h
      rw [e2]
      cases j with
      | zero => cases h; exact List.mem_cons_self
      | succ j =>
        cases j with
        | zero => cases h
        | succ j =>
          refine List.mem_cons_of_mem _ ?_
          have := zarg_at (ad := ad) as (k + 2) j v h
          rw [show k + (j + 1 + 1) = k + 2 + j by omega]
          exact this
    cases a with
    | long x => exact two rfl rfl
    | double x => exact two rfl rfl
    | int x => exact one rfl rfl
    | float x => exact one rfl rfl
    | null => exact one rfl rfl
    | ref x => exact one rfl rfl
    | retAddr x => exact one rfl rfl
theorem zarg_val {n : Nat} : ∀ (as : List Value) (j : Nat) (v : Value), (∀ v ∈ as, zval n v) → zat (zarg as) j = some (some v) → zval n v := by
  intro as j v h hj
  have h1 := zarg_at (ad := fun x => x) as 0 j v hj
  cases v with
  | ref x =>
    have key : ∀ (as : List Value) (j : Nat), zat (zarg as) j = some (some (.ref x)) → (.ref x) ∈ as := by
      intro as
      induction as with
      | nil => intro j h; cases h
      | cons a as ih =>
        intro j h
        cases a with
        | long y =>
          match j, h with
          | j + 2, h => exact List.mem_cons_of_mem _ (ih j h)
        | double y =>
          match j, h with
          | j + 2, h => exact List.mem_cons_of_mem _ (ih j h)
        | ref y =>
          match j, h with
          | 0, h => cases h; exact List.mem_cons_self
          | j + 1, h => exact List.mem_cons_of_mem _ (ih j h)
        | int y =>
          match j, h with
          | j + 1, h => exact List.mem_cons_of_mem _ (ih j h)
        | float y =>
          match j, h with
          | j + 1, h => exact List.mem_cons_of_mem _ (ih j h)
        | null =>
          match j, h with
          | j + 1, h => exact List.mem_cons_of_mem _ (ih j h)
        | retAddr y =>
          match j, h with
          | j + 1, h => exact List.mem_cons_of_mem _ (ih j h)
    exact h _ (key as j hj)
  | _ => exact trivial
theorem zpad_at : ∀ (n : Nat) (l : zLv) (j : Nat) (v : Value), zat (zpad n l) j = some (some v) → zat l j = some (some v)
  | 0, l, j, v, h => h
  | n + 1, [], 0, v, h => by cases h
  | n + 1, [], j + 1, v, h => by
    have := zpad_at n [] j v h
    cases this
  | n + 1, a :: l, 0, v, h => h
  | n + 1, a :: l, j + 1, v, h => zpad_at n l j v h
theorem zarg_len {ad : Nat → Nat} : ∀ (as : List Value), (lg_sl (as.map (zV ad))).length = (zarg as).length
  | [] => rfl
  | a :: as => by
    have ih := zarg_len (ad := ad) as
    unfold lg_sl at ih ⊢
    rw [List.map_cons, List.flatMap_cons, List.length_append, ih, zV_cat]
    cases a <;> simp [Value.category, zarg] <;> omega
theorem zentry {ad : Nat → Nat} {as : List Value} {n : Nat} (h : (zarg as).length ≤ n) : zlv ad (lg_sl (as.map (zV ad)) ++ List.replicate (n - (lg_sl (as.map (zV ad))).length) Slot.unset).toArray n (zpad n (zarg as)) := by
  have h1 := lv_entry (as.map (zV ad)) (n := n) (by rw [zarg_len]; exact h)
  refine ⟨h1.1, h1.2.1, fun j v hj => ?_⟩
  have := zarg_at (ad := ad) as 0 j v (zpad_at n _ j v hj)
  rw [Nat.zero_add] at this
  exact h1.2.2 _ this
theorem zmain (xs : Nat → Int32) (L : Nat) : ∀ d, zMet d xs L
  | 0 => fun _ _ _ _ _ h => h.elim
  | d + 1 => by
    intro mn as M r Mf hC hlt hinv hscr hval l D cO ad b sz hb1
    obtain ⟨hlen, f, hw⟩ := hC
    have hck := zck_all hlt
    refine Met.ofW (cc := (gMe mn).2.1) (maxL := (gMe mn).2.2.1) (ret := (gMe mn).2.2.2) hck.2.2.1 rfl ?_
    intro p e s m args below meth c s₁ B hml hv
    obtain ⟨rfl, hsz, hP, hK, hD0, hX, hbl, hnb, hnest, hover⟩ := hv
    subst hsz
    have hts := atoms_spec (ws := zws0 mn) B.pre
    have hA : ∀ q : Nat, s.heap.size ≤ q → va_A (zws gFk cO ad M) s.heap.size q := fun q h => Or.inr h
    have hbA : ¬ va_A (zws gFk cO ad M) s.heap.size b := by
      rintro (⟨j, e', hj⟩ | h)
      · exact hnb j _ hj rfl
      · omega
    have F : zfx p (zrm (d + 1) (zn Mf - zn M) (zs Mf - zs M)) s m (as.map (zV ad)).toArray meth c D cO (va_A (zws gFk cO ad M) s.heap.size) b L xs mn := ⟨B.exec, B.bytes, hml, findClass_of_methodNamed B.named, fun w hw => hts w (List.mem_cons_of_mem _ hw), hnest, hover, B.returns, B.notSynchronized, fun hi => (name_of_methodNamed B.named B.method).1.trans hi, hK, hX, hbl, hbA, hA, Nat.le_add_left 1 d, by show 40 ≤ 8 + 32 * (d + 1); omega⟩
    rw [hck.2.1] at hw hlen
    have key := zbody (l := l) (e := e) (below := below) (ad0 := ad) (n0 := zn M) (s0 := zs M) (Q := MQ below (zQc D cO (va_A (zws gFk cO ad M) s.heap.size) b L xs ad (zn M) r Mf) (as.map (zV ad)).toArray s (zn Mf - zn M) (zs Mf - zs M) (va_A (zws gFk cO ad M) s.heap.size)) F hlt ⟨Nat.le_refl _, Nat.le_refl _⟩ (zmain xs L d) (r0 := r) (Mf := Mf) ⟨Nat.le_refl _, Nat.le_refl _⟩ (fun i pc len lv st M' o ins cs ch q a1 a2 a3 a4 a5 a6 => zs_ret F a1 a2 a3 a4 a5 a6) f 0 _ [] M hw ad _ s.heap [] ⟨hP, hD0.self, va_S.rf, hinv, hscr, hb1, zentry hlen, fun v hv => absurd hv List.not_mem_nil, fun j v hj => zarg_val as j v hval (zpad_at _ _ j v hj), fun _ _ => rfl, Nat.le_refl _, Nat.le_refl _⟩
    rw [hck.2.2.2.1, Nat.sub_self, Nat.sub_self] at key
    rw [lg_entry_eq]
    exact key
end
section
/-! THE CLAIM OUT OF ONE WALK OF THE LAW'S BODY. Your part is whole_start (and what it stands on); all else here is the same for every law, but numbers. -/
def R_law : String := "IdealProverLaw"
def lw_P (b : Addr) (xs : List Int32) (args : Array Value) (s : State) : Prop := args = #[.ref b] ∧ s.IntsAt b xs ∧ xs.length ≤ 3073 ∧ (Jvm.Cond.and given_1 narrow_1).before args s = true
def lw_Q (_ : Array Value) (s : State) (o : Outcome) (t : State) : Prop := o = .returned (some (.int 1)) ∧ Framed s o t [] 600000 7302250
def lw_Z (below : List Frame) (a : Array Value) (s : State) : State → Prop := fun t => ∃ o, t.status = .running ∧ Ended t below o ∧ lw_Q a s o t
/-- the law's own end, with 1 on the stack, nothing written that was there before, its room as the claim has it -/
theorem lw_ret {p : Program} {l : Launch} {e : Env} {s : State} {m : MethodId} {below : List Frame} {meth : Method} {c : Code} {b : Nat} (hx : p.tables.exec = Jvm.exec) (hb : c.code = code) (hr : meth.sig.returnType = ret) (hlocks : meth.locks = false) {pc : Nat} {H : Heap} {ls : Array Slot} (hdg : decode code pc = .ok (.ireturn, 1)) : W p l e room_1 s m #[Value.ref b] below meth c H [] 600000 7302250 (lw_Z below #[Value.ref b] s) (F0 m pc ls [.int 1]) := by
  intro T hT X
  obtain ⟨fs, hret, hrun, hended, hW, hframe⟩ := X.leave (v := some (.int 1)) (hlocks := hlocks) (fun h => by rw [hr] at h; cases h)
  have hmeth' : T.vm.method? m = some meth := X.method'
  refine ⟨T.setFrames fs, ?_, .returned (some (.int 1)), hrun, hended, rfl, ⟨_, rfl⟩, hW, hframe⟩
  jvm_step X.here [X.here.top, hx, hb, hdg, hmeth', hr, ret, narrow_b1]
  (try refine ⟨rfl, ?_⟩); (try refine ⟨rfl, ?_⟩)
  first | (intro acts; rw [hret _ acts rfl rfl rfl]) | rw [hret _ _ rfl rfl rfl]
  exact Steps.refl _
/-- what holds at the law's entry: the machine, the code, the tables' words (any of lw_tbl by 'hts w (by decide +kernel)'), the script of L ints xs at the cell b, what the Statement gives of the start (any of its parts by flat_of_before) -/
def lw_At (p : Program) (s : State) (m : MethodId) (meth : Method) (c : Code) (b L : Nat) (xs : Nat → Int32) : Prop :=
  p.tables.exec = Jvm.exec ∧ c.code = code ∧ meth.sig.returnType = ret ∧ c.maxLocals = 4 ∧ s.vm.findClass R_law = some m.cls ∧ (∀ w ∈ lw_tbl, w.before #[Value.ref b] s = true) ∧ va_X b L xs s s.heap ∧ b < s.heap.size ∧ meth.locks = false ∧ (Jvm.Cond.and given_1 narrow_1).before #[Value.ref b] s = true
/-! the law, if the small machine runs it well -/
def zM0 (L : Nat) (xs : Nat → Int32) : zM := ((fun a => if a = 1 then (1, L) else (0, 0)), 2, 0, (fun a j => if a = 1 then xs j else 0), (fun _ _ => 0), (fun _ _ => 0))
def zLaw : Prop := ∀ (L : Nat) (xs : Nat → Int32), L ≤ 3073 → zCl gTb 11 nL_law [.ref 1] (zM0 L xs) (fun r M' => r = [.int 1] ∧ zn M' ≤ 600000 ∧ zs M' ≤ 7302250)
theorem gMe_law : gMe nL_law = (yL_law, code, 4, some .boolean) := rfl
theorem g_law_lt : nL_law < gMeL.length := by decide +kernel
theorem g_law_w1 : Cond.arrayClass .int ∈ lw_tbl := by decide +kernel
theorem g_law_w2 : Cond.arrayClass .long ∈ lw_tbl := by decide +kernel
theorem g_law_w3 : Cond.arrayClass .boolean ∈ lw_tbl := by decide +kernel
theorem g_law_w4 : Cond.arrayOver (.object (gEl 0)) ∈ lw_tbl := by decide +kernel
theorem g_law_w5 : Cond.arrayOver (.object (gEl 1)) ∈ lw_tbl := by decide +kernel
theorem g_arr {s : State} {args : Array Value} {ty : FieldType} (h : (Cond.arrayClass ty).before args s = true) (hp : ∀ cA, va_RA s cA ty ↔ s.vm.findClass ("[" ++ ty.toString) = some cA) : ∃ cA : ClassId, ArrOfT s cA ty ∧ va_RA s cA ty := by
  obtain ⟨cA, kA, comp, h1, h2, h3⟩ := Cond.arrayClass_spec h
  exact ⟨cA, fun n z => ⟨fun k h => (by cases h), kA, h2, comp, h3⟩, (hp cA).mpr h1⟩
theorem g_arrO {s : State} {args : Array Value} {C : String} (h : (Cond.arrayOver (.object C)).before args s = true) : ∃ cA : ClassId, ArrOfT s cA (.object C) ∧ va_RA s cA (.object C) := by
  obtain ⟨comp, cA, kA, h1, h2, h3, h4, h5⟩ := Cond.arrayOver_spec h
  exact ⟨cA, fun n z => ⟨fun k h => (by cases h), kA, h3, comp, h4⟩, kA, comp, h3, h4, h1, h5⟩
theorem g_known {s : State} {args : Array Value} (hts : ∀ w ∈ lw_tbl, w.before args s = true) : ∃ (D : va_G), ∀ (k : Nat) (q : vw_C), gCl[k]? = some q → u_Kn s q.1 q.2.1 q.2.2 (D.1 k) (D.2 k) := by
  have h : ∀ (k : Nat), ∃ (w : ClassId × (Nat → Nat)), ∀ (q : vw_C), gCl[k]? = some q → u_Kn s q.1 q.2.1 q.2.2 w.1 w.2 := by
    intro k
    by_cases hk : k < gCl.length
    · have hq : gCl[k]? = some gCl[k] := List.getElem?_eq_getElem hk
      obtain ⟨n, hn⟩ := g_inst k hk
      obtain ⟨cC, iS, hKn⟩ := u_known (C := gCl[k].1) (T := gCl[k].2.1) (N := gCl[k].2.2) (n := n) (fun w hw => hts w hw) (fun w hw => (List.mem_filter.mp ((gcl_ok k _ hq).1 w hw)).1) (hts _ hn)
      exact ⟨(cC, iS), fun q h => by rw [hq] at h; cases h; exact hKn⟩
    · exact ⟨(0, fun _ => 0), fun q h => by rw [List.getElem?_eq_none (by omega)] at h; cases h⟩
  exact ⟨(fun k => (Classical.choose (h k)).1, fun k => (Classical.choose (h k)).2), fun k q hq => Classical.choose_spec (h k) q hq⟩
theorem start_of (hlaw : zLaw) {p : Program} {e : Env} {s : State} {m : MethodId} {below : List Frame} {meth : Method} {c : Code} (l : Launch) {b L : Nat} {xs : Nat → Int32} (hL : L ≤ 3073) (C0 : lw_At p s m meth c b L xs) : W p l e room_1 s m #[Value.ref b] below meth c s.heap [] 0 0 (lw_Z below #[Value.ref b] s) (entryFrame m ([Value.ref b] : List Value).toArray 4) := by
  obtain ⟨hx, hb, hr, hml, hown, hts, hX, hbl, hlocks, hgv⟩ := id C0
  obtain ⟨D, hKn⟩ := g_known hts
  obtain ⟨c2, k2⟩ := g_arr (ty := .int) (hts _ g_law_w1) (fun _ => Iff.rfl)
  obtain ⟨c3, k3⟩ := g_arr (ty := .long) (hts _ g_law_w2) (fun _ => Iff.rfl)
  obtain ⟨c4, k4⟩ := g_arr (ty := .boolean) (hts _ g_law_w3) (fun _ => Iff.rfl)
  obtain ⟨c5, k5⟩ := g_arrO (hts _ g_law_w4)
  obtain ⟨c6, k6⟩ := g_arrO (hts _ g_law_w5)
  obtain ⟨cO, e2, e3, e4, e5, e6⟩ : ∃ cO : Nat → ClassId, cO 2 = c2 ∧ cO 3 = c3 ∧ cO 4 = c4 ∧ cO 5 = c5 ∧ cO 6 = c6 := ⟨fun k => if k = 2 then c2 else if k = 3 then c3 else if k = 4 then c4 else if k = 5 then c5 else c6, rfl, rfl, rfl, rfl, rfl⟩
  have hK : va_K D gCl (zTys cO) s := by
    refine ⟨hKn, fun k q hq => ?_⟩
    unfold zTys at hq
    rw [e2, e3, e4, e5, e6] at hq
    match k, hq with
    | 0, hq => cases hq; exact k2
    | 1, hq => cases hq; exact k3
    | 2, hq => cases hq; exact k4
    | 3, hq => cases hq; exact k5
    | 4, hq => cases hq; exact k6
    | k + 5, hq => simp at hq
  obtain ⟨hlen, hwl⟩ := hlaw L xs hL
  obtain ⟨f, hwl⟩ := hwl
  obtain ⟨r, Mf, ⟨hr1, hc1, hs1⟩, -, -, hw⟩ := zwp_det (zCl_good gTb 10) f _ _ _ _ hwl
  subst hr1
  have hA : ∀ q : Nat, s.heap.size ≤ q → (fun q : Nat => s.heap.size ≤ q) q := fun _ h => h
  have hbA : ¬ (fun q : Nat => s.heap.size ≤ q) b := Nat.not_le.mpr hbl
  have F : zfx p room_1 s m #[Value.ref b] meth c D cO (fun q : Nat => s.heap.size ≤ q) b L xs nL_law := by
    refine ⟨hx, hb, hml, hown, fun w hw => hts w (List.mem_filter.mp hw).1, fun o i y h hm => va_Nw.of rfl (hts _ hm), fun C hm => va_AO.of (hts _ hm), hr, hlocks, fun hi => absurd hi (by decide), hK, hX, hbl, hbA, hA, by decide, by decide⟩
  have hwS : zws gFk cO (fun _ => b) (zM0 L xs) = [] := rfl
  have key := zbody (l := l) (e := e) (below := below) (ad0 := fun _ => b) (n0 := 2) (s0 := 0) (Q := lw_Z below #[Value.ref b] s) F g_law_lt (d := 10) ⟨by decide, by decide⟩ (zmain xs L 10) (r0 := [.int 1]) (Mf := Mf) ⟨by show zn Mf - 2 ≤ 600000; omega, by show zs Mf - 0 ≤ 7302250; omega⟩ (fun i pc len lv st M' o ins cs ch q a1 a2 a3 a4 a5 a6 => ?_) f 0 _ [] (zM0 L xs) hw (fun _ => b) _ s.heap [] ⟨by rw [hwS]; exact fun k q h => by simp at h, by rw [hwS]; exact ⟨fun i j p q h => by simp at h, fun k q h => by simp at h⟩, va_S.rf, ⟨Nat.le_refl _, fun a ha => ?_, fun a k => (show (0 : Nat) < 2 from Nat.zero_lt_two)⟩, ⟨rfl, fun j => rfl⟩, rfl, zentry (ad := fun _ => b) hlen, fun v hv => absurd hv List.not_mem_nil, fun j v hj => zarg_val _ j v (fun v hv => by rw [List.mem_singleton] at hv; subst hv; show 1 < 2; decide) (zpad_at _ _ j v hj), fun _ _ => rfl, Nat.le_refl _, Nat.le_refl _⟩
  · rw [lg_entry_eq]
    exact key
  · intro ad ls H locs h
    by_cases h1 : ins = .ireturn
    · subst h1
      simp only [zstep] at a4
      split at a4
      · rename_i v
        rw [zretq_no a4] at a6
        cases a6
        obtain ⟨rfl, rfl⟩ : _ ∧ _ := by simpa only [zmt, Bool.and_eq_true, decide_eq_true_eq] using a3
        rw [a1]
        refine va_forget (fun q hq => h.2.2.1.2.2 q hq) ?_
        refine W.widen (k := 600000) (n := 7302250) (by omega) (by omega) ?_
        exact lw_ret hx hb hr hlocks a2
      · cases a4
    · by_cases h2 : ins = .lreturn
      · subst h2
        simp only [zstep] at a4
        split at a4
        · rw [zretq_no a4] at a6; cases a6
        · cases a4
      · by_cases h3 : ins = .areturn
        · subst h3
          simp only [zstep] at a4
          split at a4
          · rw [zretq_no a4] at a6; cases a6
          · cases a4
        · by_cases h4 : ins = .return_
          · subst h4
            simp only [zstep] at a4
            split at a4
            · rw [zretq_no a4] at a6; cases a6
            · cases a4
          · exact absurd a6 (zs_noret a4 h1 h2 h3 h4)
  · show (if a = 1 then ((1 : Nat), L) else (0, 0)).1 < 2
    split
    · exact Nat.one_lt_two
    · exact Nat.zero_lt_two
end
