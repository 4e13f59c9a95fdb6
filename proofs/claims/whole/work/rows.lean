section
-- ===== PART A: goes FIRST, ahead of the names: the tables' words, and 'selects' of the private methods out of them =====
/-- a private method of a class that the tables say can be made, by its rows of tables_1 -/
def lw_okq (q : MethodName × Nat) : Prop := (q.1.cls ≠ "java/lang/invoke/MethodHandle" ∧ q.1.cls ≠ "java/lang/invoke/VarHandle") ∧ Cond.instantiable q.1.cls q.2 ∈ tables_1 ∧ Cond.privateMethod q.1 ∈ tables_1 ∧ Cond.instanceMethod q.1 ∈ tables_1
theorem lw_p0 : lw_okq (⟨"HonestGold", "refuseBad", "()I"⟩, 10) := ⟨⟨by decide +kernel, by decide +kernel⟩, List.mem_of_getElem? (i := 21) (by decide +kernel), List.mem_of_getElem? (i := 257) (by decide +kernel), List.mem_of_getElem? (i := 258) (by decide +kernel)⟩
theorem lw_p1 : lw_okq (⟨"HonestGold", "refuseFull", "()I"⟩, 10) := ⟨⟨by decide +kernel, by decide +kernel⟩, List.mem_of_getElem? (i := 21) (by decide +kernel), List.mem_of_getElem? (i := 261) (by decide +kernel), List.mem_of_getElem? (i := 262) (by decide +kernel)⟩
theorem lw_p2 : lw_okq (⟨"HonestGold", "twoOfThem", "(II)Z"⟩, 10) := ⟨⟨by decide +kernel, by decide +kernel⟩, List.mem_of_getElem? (i := 21) (by decide +kernel), List.mem_of_getElem? (i := 277) (by decide +kernel), List.mem_of_getElem? (i := 278) (by decide +kernel)⟩
theorem lw_p3 : lw_okq (⟨"HonestGold$Reader", "step", "()V"⟩, 7) := ⟨⟨by decide +kernel, by decide +kernel⟩, List.mem_of_getElem? (i := 152) (by decide +kernel), List.mem_of_getElem? (i := 323) (by decide +kernel), List.mem_of_getElem? (i := 324) (by decide +kernel)⟩
theorem lw_p4 : lw_okq (⟨"HonestGold$Reader", "runEnd", "(III)I"⟩, 7) := ⟨⟨by decide +kernel, by decide +kernel⟩, List.mem_of_getElem? (i := 152) (by decide +kernel), List.mem_of_getElem? (i := 327) (by decide +kernel), List.mem_of_getElem? (i := 328) (by decide +kernel)⟩
theorem lw_p5 : lw_okq (⟨"HonestGold$Reader", "byteAt", "(I)I"⟩, 7) := ⟨⟨by decide +kernel, by decide +kernel⟩, List.mem_of_getElem? (i := 152) (by decide +kernel), List.mem_of_getElem? (i := 331) (by decide +kernel), List.mem_of_getElem? (i := 332) (by decide +kernel)⟩
theorem lw_p6 : lw_okq (⟨"HonestGold$Reader", "numberBetween", "(II)I"⟩, 7) := ⟨⟨by decide +kernel, by decide +kernel⟩, List.mem_of_getElem? (i := 152) (by decide +kernel), List.mem_of_getElem? (i := 335) (by decide +kernel), List.mem_of_getElem? (i := 336) (by decide +kernel)⟩
theorem lw_p7 : lw_okq (⟨"HonestGold$Reader", "takeGold", "()V"⟩, 7) := ⟨⟨by decide +kernel, by decide +kernel⟩, List.mem_of_getElem? (i := 152) (by decide +kernel), List.mem_of_getElem? (i := 339) (by decide +kernel), List.mem_of_getElem? (i := 340) (by decide +kernel)⟩
theorem lw_p8 : lw_okq (⟨"HonestGold$Reader", "isWord", "(Ljava/lang/String;)Z"⟩, 7) := ⟨⟨by decide +kernel, by decide +kernel⟩, List.mem_of_getElem? (i := 152) (by decide +kernel), List.mem_of_getElem? (i := 344) (by decide +kernel), List.mem_of_getElem? (i := 345) (by decide +kernel)⟩
theorem lw_p9 : lw_okq (⟨"HonestGold$Reader", "failHere", "()V"⟩, 7) := ⟨⟨by decide +kernel, by decide +kernel⟩, List.mem_of_getElem? (i := 152) (by decide +kernel), List.mem_of_getElem? (i := 396) (by decide +kernel), List.mem_of_getElem? (i := 397) (by decide +kernel)⟩
theorem lw_p10 : lw_okq (⟨"HonestGold$Reader", "takeStop", "()V"⟩, 7) := ⟨⟨by decide +kernel, by decide +kernel⟩, List.mem_of_getElem? (i := 152) (by decide +kernel), List.mem_of_getElem? (i := 400) (by decide +kernel), List.mem_of_getElem? (i := 401) (by decide +kernel)⟩
theorem lw_p11 : lw_okq (⟨"HonestGold$Reader", "takeOne", "(LHonestGold$Treasury;)V"⟩, 7) := ⟨⟨by decide +kernel, by decide +kernel⟩, List.mem_of_getElem? (i := 152) (by decide +kernel), List.mem_of_getElem? (i := 406) (by decide +kernel), List.mem_of_getElem? (i := 407) (by decide +kernel)⟩
theorem lw_p12 : lw_okq (⟨"HonestGold$Reader", "takeNumber", "(II)I"⟩, 7) := ⟨⟨by decide +kernel, by decide +kernel⟩, List.mem_of_getElem? (i := 152) (by decide +kernel), List.mem_of_getElem? (i := 410) (by decide +kernel), List.mem_of_getElem? (i := 411) (by decide +kernel)⟩
theorem lw_p13 : lw_okq (⟨"HonestGold$Reader", "takeHands", "(LHonestGold$Treasury;)V"⟩, 7) := ⟨⟨by decide +kernel, by decide +kernel⟩, List.mem_of_getElem? (i := 152) (by decide +kernel), List.mem_of_getElem? (i := 416) (by decide +kernel), List.mem_of_getElem? (i := 417) (by decide +kernel)⟩
theorem lw_p14 : lw_okq (⟨"HonestGold$Reader", "takeLie", "(LHonestGold$Treasury;)V"⟩, 7) := ⟨⟨by decide +kernel, by decide +kernel⟩, List.mem_of_getElem? (i := 152) (by decide +kernel), List.mem_of_getElem? (i := 422) (by decide +kernel), List.mem_of_getElem? (i := 423) (by decide +kernel)⟩
theorem lw_p15 : lw_okq (⟨"HonestGold$Treasury", "honestyBehindLie", "(II)I"⟩, 12) := ⟨⟨by decide +kernel, by decide +kernel⟩, List.mem_of_getElem? (i := 29) (by decide +kernel), List.mem_of_getElem? (i := 430) (by decide +kernel), List.mem_of_getElem? (i := 431) (by decide +kernel)⟩
def lw_privs_1 : List (MethodName × Nat) := [(⟨"HonestGold", "refuseBad", "()I"⟩, 10), (⟨"HonestGold", "refuseFull", "()I"⟩, 10), (⟨"HonestGold", "twoOfThem", "(II)Z"⟩, 10), (⟨"HonestGold$Reader", "step", "()V"⟩, 7), (⟨"HonestGold$Reader", "runEnd", "(III)I"⟩, 7), (⟨"HonestGold$Reader", "byteAt", "(I)I"⟩, 7), (⟨"HonestGold$Reader", "numberBetween", "(II)I"⟩, 7), (⟨"HonestGold$Reader", "takeGold", "()V"⟩, 7), (⟨"HonestGold$Reader", "isWord", "(Ljava/lang/String;)Z"⟩, 7), (⟨"HonestGold$Reader", "failHere", "()V"⟩, 7), (⟨"HonestGold$Reader", "takeStop", "()V"⟩, 7), (⟨"HonestGold$Reader", "takeOne", "(LHonestGold$Treasury;)V"⟩, 7), (⟨"HonestGold$Reader", "takeNumber", "(II)I"⟩, 7), (⟨"HonestGold$Reader", "takeHands", "(LHonestGold$Treasury;)V"⟩, 7), (⟨"HonestGold$Reader", "takeLie", "(LHonestGold$Treasury;)V"⟩, 7), (⟨"HonestGold$Treasury", "honestyBehindLie", "(II)I"⟩, 12)]
theorem lw_r1 : ∀ q ∈ lw_privs_1, lw_okq q := List.forall_mem_cons.mpr ⟨lw_p0, List.forall_mem_cons.mpr ⟨lw_p1, List.forall_mem_cons.mpr ⟨lw_p2, List.forall_mem_cons.mpr ⟨lw_p3, List.forall_mem_cons.mpr ⟨lw_p4, List.forall_mem_cons.mpr ⟨lw_p5, List.forall_mem_cons.mpr ⟨lw_p6, List.forall_mem_cons.mpr ⟨lw_p7, List.forall_mem_cons.mpr ⟨lw_p8, List.forall_mem_cons.mpr ⟨lw_p9, List.forall_mem_cons.mpr ⟨lw_p10, List.forall_mem_cons.mpr ⟨lw_p11, List.forall_mem_cons.mpr ⟨lw_p12, List.forall_mem_cons.mpr ⟨lw_p13, List.forall_mem_cons.mpr ⟨lw_p14, List.forall_mem_cons.mpr ⟨lw_p15, fun _ h => absurd h List.not_mem_nil⟩⟩⟩⟩⟩⟩⟩⟩⟩⟩⟩⟩⟩⟩⟩⟩
theorem lw_p16 : lw_okq (⟨"HonestGold$Treasury", "kindNumbered", "(I)LHonestGold$Plain;"⟩, 12) := ⟨⟨by decide +kernel, by decide +kernel⟩, List.mem_of_getElem? (i := 29) (by decide +kernel), List.mem_of_getElem? (i := 442) (by decide +kernel), List.mem_of_getElem? (i := 443) (by decide +kernel)⟩
theorem lw_p17 : lw_okq (⟨"HonestGold$Past", "placeOf", "(I)I"⟩, 2) := ⟨⟨by decide +kernel, by decide +kernel⟩, List.mem_of_getElem? (i := 101) (by decide +kernel), List.mem_of_getElem? (i := 501) (by decide +kernel), List.mem_of_getElem? (i := 502) (by decide +kernel)⟩
theorem lw_p18 : lw_okq (⟨"HonestGold", "refuseNo", "()I"⟩, 10) := ⟨⟨by decide +kernel, by decide +kernel⟩, List.mem_of_getElem? (i := 21) (by decide +kernel), List.mem_of_getElem? (i := 515) (by decide +kernel), List.mem_of_getElem? (i := 516) (by decide +kernel)⟩
theorem lw_p19 : lw_okq (⟨"HonestGold$Treasury", "honestyAfter", "(II)I"⟩, 12) := ⟨⟨by decide +kernel, by decide +kernel⟩, List.mem_of_getElem? (i := 29) (by decide +kernel), List.mem_of_getElem? (i := 531) (by decide +kernel), List.mem_of_getElem? (i := 532) (by decide +kernel)⟩
theorem lw_p20 : lw_okq (⟨"HonestGold$Ways", "weighEach", "(LHonestGold$Treasury;I)V"⟩, 4) := ⟨⟨by decide +kernel, by decide +kernel⟩, List.mem_of_getElem? (i := 180) (by decide +kernel), List.mem_of_getElem? (i := 649) (by decide +kernel), List.mem_of_getElem? (i := 650) (by decide +kernel)⟩
theorem lw_p21 : lw_okq (⟨"HonestGold$Ways", "heftOf", "(I)I"⟩, 4) := ⟨⟨by decide +kernel, by decide +kernel⟩, List.mem_of_getElem? (i := 180) (by decide +kernel), List.mem_of_getElem? (i := 656) (by decide +kernel), List.mem_of_getElem? (i := 657) (by decide +kernel)⟩
theorem lw_p22 : lw_okq (⟨"HonestGold$Ways", "measure", "(LHonestGold$Treasury;III)I"⟩, 4) := ⟨⟨by decide +kernel, by decide +kernel⟩, List.mem_of_getElem? (i := 180) (by decide +kernel), List.mem_of_getElem? (i := 660) (by decide +kernel), List.mem_of_getElem? (i := 661) (by decide +kernel)⟩
theorem lw_p23 : lw_okq (⟨"HonestGold$Ways", "handsToOneAt", "(LHonestGold$Treasury;II)Z"⟩, 4) := ⟨⟨by decide +kernel, by decide +kernel⟩, List.mem_of_getElem? (i := 180) (by decide +kernel), List.mem_of_getElem? (i := 664) (by decide +kernel), List.mem_of_getElem? (i := 665) (by decide +kernel)⟩
theorem lw_p24 : lw_okq (⟨"HonestGold$Ways", "farOf", "(I)I"⟩, 4) := ⟨⟨by decide +kernel, by decide +kernel⟩, List.mem_of_getElem? (i := 180) (by decide +kernel), List.mem_of_getElem? (i := 669) (by decide +kernel), List.mem_of_getElem? (i := 670) (by decide +kernel)⟩
theorem lw_p25 : lw_okq (⟨"HonestGold$Ways", "nearerHand", "(LHonestGold$Treasury;I)I"⟩, 4) := ⟨⟨by decide +kernel, by decide +kernel⟩, List.mem_of_getElem? (i := 180) (by decide +kernel), List.mem_of_getElem? (i := 677) (by decide +kernel), List.mem_of_getElem? (i := 678) (by decide +kernel)⟩
theorem lw_p26 : lw_okq (⟨"HonestGold$Ways", "weighBags", "(LHonestGold$Treasury;II)V"⟩, 4) := ⟨⟨by decide +kernel, by decide +kernel⟩, List.mem_of_getElem? (i := 180) (by decide +kernel), List.mem_of_getElem? (i := 714) (by decide +kernel), List.mem_of_getElem? (i := 715) (by decide +kernel)⟩
theorem lw_p27 : lw_okq (⟨"HonestGold$Ways", "lightestWith", "(II)I"⟩, 4) := ⟨⟨by decide +kernel, by decide +kernel⟩, List.mem_of_getElem? (i := 180) (by decide +kernel), List.mem_of_getElem? (i := 719) (by decide +kernel), List.mem_of_getElem? (i := 720) (by decide +kernel)⟩
theorem lw_p28 : lw_okq (⟨"HonestGold$Ways", "bagWeight", "(II)I"⟩, 4) := ⟨⟨by decide +kernel, by decide +kernel⟩, List.mem_of_getElem? (i := 180) (by decide +kernel), List.mem_of_getElem? (i := 729) (by decide +kernel), List.mem_of_getElem? (i := 730) (by decide +kernel)⟩
theorem lw_p29 : lw_okq (⟨"HonestGold$Ways", "lightestOf", "(I)I"⟩, 4) := ⟨⟨by decide +kernel, by decide +kernel⟩, List.mem_of_getElem? (i := 180) (by decide +kernel), List.mem_of_getElem? (i := 733) (by decide +kernel), List.mem_of_getElem? (i := 734) (by decide +kernel)⟩
theorem lw_p30 : lw_okq (⟨"HonestGold$Ways", "putLightest", "(II)V"⟩, 4) := ⟨⟨by decide +kernel, by decide +kernel⟩, List.mem_of_getElem? (i := 180) (by decide +kernel), List.mem_of_getElem? (i := 739) (by decide +kernel), List.mem_of_getElem? (i := 740) (by decide +kernel)⟩
theorem lw_p31 : lw_okq (⟨"HonestGold$Ways", "firstBag", "(II)I"⟩, 4) := ⟨⟨by decide +kernel, by decide +kernel⟩, List.mem_of_getElem? (i := 180) (by decide +kernel), List.mem_of_getElem? (i := 747) (by decide +kernel), List.mem_of_getElem? (i := 748) (by decide +kernel)⟩
def lw_privs_2 : List (MethodName × Nat) := [(⟨"HonestGold$Treasury", "kindNumbered", "(I)LHonestGold$Plain;"⟩, 12), (⟨"HonestGold$Past", "placeOf", "(I)I"⟩, 2), (⟨"HonestGold", "refuseNo", "()I"⟩, 10), (⟨"HonestGold$Treasury", "honestyAfter", "(II)I"⟩, 12), (⟨"HonestGold$Ways", "weighEach", "(LHonestGold$Treasury;I)V"⟩, 4), (⟨"HonestGold$Ways", "heftOf", "(I)I"⟩, 4), (⟨"HonestGold$Ways", "measure", "(LHonestGold$Treasury;III)I"⟩, 4), (⟨"HonestGold$Ways", "handsToOneAt", "(LHonestGold$Treasury;II)Z"⟩, 4), (⟨"HonestGold$Ways", "farOf", "(I)I"⟩, 4), (⟨"HonestGold$Ways", "nearerHand", "(LHonestGold$Treasury;I)I"⟩, 4), (⟨"HonestGold$Ways", "weighBags", "(LHonestGold$Treasury;II)V"⟩, 4), (⟨"HonestGold$Ways", "lightestWith", "(II)I"⟩, 4), (⟨"HonestGold$Ways", "bagWeight", "(II)I"⟩, 4), (⟨"HonestGold$Ways", "lightestOf", "(I)I"⟩, 4), (⟨"HonestGold$Ways", "putLightest", "(II)V"⟩, 4), (⟨"HonestGold$Ways", "firstBag", "(II)I"⟩, 4)]
theorem lw_r2 : ∀ q ∈ lw_privs_2, lw_okq q := List.forall_mem_cons.mpr ⟨lw_p16, List.forall_mem_cons.mpr ⟨lw_p17, List.forall_mem_cons.mpr ⟨lw_p18, List.forall_mem_cons.mpr ⟨lw_p19, List.forall_mem_cons.mpr ⟨lw_p20, List.forall_mem_cons.mpr ⟨lw_p21, List.forall_mem_cons.mpr ⟨lw_p22, List.forall_mem_cons.mpr ⟨lw_p23, List.forall_mem_cons.mpr ⟨lw_p24, List.forall_mem_cons.mpr ⟨lw_p25, List.forall_mem_cons.mpr ⟨lw_p26, List.forall_mem_cons.mpr ⟨lw_p27, List.forall_mem_cons.mpr ⟨lw_p28, List.forall_mem_cons.mpr ⟨lw_p29, List.forall_mem_cons.mpr ⟨lw_p30, List.forall_mem_cons.mpr ⟨lw_p31, fun _ h => absurd h List.not_mem_nil⟩⟩⟩⟩⟩⟩⟩⟩⟩⟩⟩⟩⟩⟩⟩⟩
theorem lw_p32 : lw_okq (⟨"HonestGold$Notes", "allFit", "(LHonestGold$Treasury;III)Z"⟩, 5) := ⟨⟨by decide +kernel, by decide +kernel⟩, List.mem_of_getElem? (i := 78) (by decide +kernel), List.mem_of_getElem? (i := 781) (by decide +kernel), List.mem_of_getElem? (i := 782) (by decide +kernel)⟩
theorem lw_p33 : lw_okq (⟨"HonestGold", "keepFraction", "(JJ)V"⟩, 10) := ⟨⟨by decide +kernel, by decide +kernel⟩, List.mem_of_getElem? (i := 21) (by decide +kernel), List.mem_of_getElem? (i := 819) (by decide +kernel), List.mem_of_getElem? (i := 820) (by decide +kernel)⟩
theorem lw_p34 : lw_okq (⟨"HonestGold", "counted", "(I)I"⟩, 10) := ⟨⟨by decide +kernel, by decide +kernel⟩, List.mem_of_getElem? (i := 21) (by decide +kernel), List.mem_of_getElem? (i := 855) (by decide +kernel), List.mem_of_getElem? (i := 856) (by decide +kernel)⟩
theorem lw_p35 : lw_okq (⟨"HonestGoldModel", "begin", "()V"⟩, 33) := ⟨⟨by decide +kernel, by decide +kernel⟩, List.mem_of_getElem? (i := 886) (by decide +kernel), List.mem_of_getElem? (i := 892) (by decide +kernel), List.mem_of_getElem? (i := 893) (by decide +kernel)⟩
theorem lw_p36 : lw_okq (⟨"HonestGoldModel", "bad", "()I"⟩, 33) := ⟨⟨by decide +kernel, by decide +kernel⟩, List.mem_of_getElem? (i := 886) (by decide +kernel), List.mem_of_getElem? (i := 1007) (by decide +kernel), List.mem_of_getElem? (i := 1008) (by decide +kernel)⟩
theorem lw_p37 : lw_okq (⟨"HonestGoldModel", "full", "()I"⟩, 33) := ⟨⟨by decide +kernel, by decide +kernel⟩, List.mem_of_getElem? (i := 886) (by decide +kernel), List.mem_of_getElem? (i := 1011) (by decide +kernel), List.mem_of_getElem? (i := 1012) (by decide +kernel)⟩
theorem lw_p38 : lw_okq (⟨"HonestGoldModel", "addOne", "(IIII)I"⟩, 33) := ⟨⟨by decide +kernel, by decide +kernel⟩, List.mem_of_getElem? (i := 886) (by decide +kernel), List.mem_of_getElem? (i := 1015) (by decide +kernel), List.mem_of_getElem? (i := 1016) (by decide +kernel)⟩
theorem lw_p39 : lw_okq (⟨"HonestGoldModel", "isOne", "(I)Z"⟩, 33) := ⟨⟨by decide +kernel, by decide +kernel⟩, List.mem_of_getElem? (i := 886) (by decide +kernel), List.mem_of_getElem? (i := 1023) (by decide +kernel), List.mem_of_getElem? (i := 1024) (by decide +kernel)⟩
theorem lw_p40 : lw_okq (⟨"HonestGoldModel", "readsGold", "()I"⟩, 33) := ⟨⟨by decide +kernel, by decide +kernel⟩, List.mem_of_getElem? (i := 886) (by decide +kernel), List.mem_of_getElem? (i := 1039) (by decide +kernel), List.mem_of_getElem? (i := 1040) (by decide +kernel)⟩
theorem lw_p41 : lw_okq (⟨"HonestGoldModel", "skip", "()V"⟩, 33) := ⟨⟨by decide +kernel, by decide +kernel⟩, List.mem_of_getElem? (i := 886) (by decide +kernel), List.mem_of_getElem? (i := 1043) (by decide +kernel), List.mem_of_getElem? (i := 1044) (by decide +kernel)⟩
theorem lw_p42 : lw_okq (⟨"HonestGoldModel", "here", "()I"⟩, 33) := ⟨⟨by decide +kernel, by decide +kernel⟩, List.mem_of_getElem? (i := 886) (by decide +kernel), List.mem_of_getElem? (i := 1047) (by decide +kernel), List.mem_of_getElem? (i := 1048) (by decide +kernel)⟩
theorem lw_p43 : lw_okq (⟨"HonestGoldModel", "wordHere", "()I"⟩, 33) := ⟨⟨by decide +kernel, by decide +kernel⟩, List.mem_of_getElem? (i := 886) (by decide +kernel), List.mem_of_getElem? (i := 1051) (by decide +kernel), List.mem_of_getElem? (i := 1052) (by decide +kernel)⟩
theorem lw_p44 : lw_okq (⟨"HonestGoldModel", "wordSize", "()I"⟩, 33) := ⟨⟨by decide +kernel, by decide +kernel⟩, List.mem_of_getElem? (i := 886) (by decide +kernel), List.mem_of_getElem? (i := 1055) (by decide +kernel), List.mem_of_getElem? (i := 1056) (by decide +kernel)⟩
theorem lw_p45 : lw_okq (⟨"HonestGoldModel", "spells", "(IIII)Z"⟩, 33) := ⟨⟨by decide +kernel, by decide +kernel⟩, List.mem_of_getElem? (i := 886) (by decide +kernel), List.mem_of_getElem? (i := 1062) (by decide +kernel), List.mem_of_getElem? (i := 1063) (by decide +kernel)⟩
theorem lw_p46 : lw_okq (⟨"HonestGoldModel", "letter", "(I)I"⟩, 33) := ⟨⟨by decide +kernel, by decide +kernel⟩, List.mem_of_getElem? (i := 886) (by decide +kernel), List.mem_of_getElem? (i := 1066) (by decide +kernel), List.mem_of_getElem? (i := 1067) (by decide +kernel)⟩
theorem lw_p47 : lw_okq (⟨"HonestGoldModel", "ends", "()Z"⟩, 33) := ⟨⟨by decide +kernel, by decide +kernel⟩, List.mem_of_getElem? (i := 886) (by decide +kernel), List.mem_of_getElem? (i := 1070) (by decide +kernel), List.mem_of_getElem? (i := 1071) (by decide +kernel)⟩
def lw_privs_3 : List (MethodName × Nat) := [(⟨"HonestGold$Notes", "allFit", "(LHonestGold$Treasury;III)Z"⟩, 5), (⟨"HonestGold", "keepFraction", "(JJ)V"⟩, 10), (⟨"HonestGold", "counted", "(I)I"⟩, 10), (⟨"HonestGoldModel", "begin", "()V"⟩, 33), (⟨"HonestGoldModel", "bad", "()I"⟩, 33), (⟨"HonestGoldModel", "full", "()I"⟩, 33), (⟨"HonestGoldModel", "addOne", "(IIII)I"⟩, 33), (⟨"HonestGoldModel", "isOne", "(I)Z"⟩, 33), (⟨"HonestGoldModel", "readsGold", "()I"⟩, 33), (⟨"HonestGoldModel", "skip", "()V"⟩, 33), (⟨"HonestGoldModel", "here", "()I"⟩, 33), (⟨"HonestGoldModel", "wordHere", "()I"⟩, 33), (⟨"HonestGoldModel", "wordSize", "()I"⟩, 33), (⟨"HonestGoldModel", "spells", "(IIII)Z"⟩, 33), (⟨"HonestGoldModel", "letter", "(I)I"⟩, 33), (⟨"HonestGoldModel", "ends", "()Z"⟩, 33)]
theorem lw_r3 : ∀ q ∈ lw_privs_3, lw_okq q := List.forall_mem_cons.mpr ⟨lw_p32, List.forall_mem_cons.mpr ⟨lw_p33, List.forall_mem_cons.mpr ⟨lw_p34, List.forall_mem_cons.mpr ⟨lw_p35, List.forall_mem_cons.mpr ⟨lw_p36, List.forall_mem_cons.mpr ⟨lw_p37, List.forall_mem_cons.mpr ⟨lw_p38, List.forall_mem_cons.mpr ⟨lw_p39, List.forall_mem_cons.mpr ⟨lw_p40, List.forall_mem_cons.mpr ⟨lw_p41, List.forall_mem_cons.mpr ⟨lw_p42, List.forall_mem_cons.mpr ⟨lw_p43, List.forall_mem_cons.mpr ⟨lw_p44, List.forall_mem_cons.mpr ⟨lw_p45, List.forall_mem_cons.mpr ⟨lw_p46, List.forall_mem_cons.mpr ⟨lw_p47, fun _ h => absurd h List.not_mem_nil⟩⟩⟩⟩⟩⟩⟩⟩⟩⟩⟩⟩⟩⟩⟩⟩
theorem lw_p48 : lw_okq (⟨"HonestGoldModel", "readsItem", "()Z"⟩, 33) := ⟨⟨by decide +kernel, by decide +kernel⟩, List.mem_of_getElem? (i := 886) (by decide +kernel), List.mem_of_getElem? (i := 1074) (by decide +kernel), List.mem_of_getElem? (i := 1075) (by decide +kernel)⟩
theorem lw_p49 : lw_okq (⟨"HonestGoldModel", "readsOne", "()Z"⟩, 33) := ⟨⟨by decide +kernel, by decide +kernel⟩, List.mem_of_getElem? (i := 886) (by decide +kernel), List.mem_of_getElem? (i := 1078) (by decide +kernel), List.mem_of_getElem? (i := 1079) (by decide +kernel)⟩
theorem lw_p50 : lw_okq (⟨"HonestGoldModel", "number", "(II)Z"⟩, 33) := ⟨⟨by decide +kernel, by decide +kernel⟩, List.mem_of_getElem? (i := 886) (by decide +kernel), List.mem_of_getElem? (i := 1082) (by decide +kernel), List.mem_of_getElem? (i := 1083) (by decide +kernel)⟩
theorem lw_p51 : lw_okq (⟨"HonestGoldModel", "readsHands", "()Z"⟩, 33) := ⟨⟨by decide +kernel, by decide +kernel⟩, List.mem_of_getElem? (i := 886) (by decide +kernel), List.mem_of_getElem? (i := 1089) (by decide +kernel), List.mem_of_getElem? (i := 1090) (by decide +kernel)⟩
theorem lw_p52 : lw_okq (⟨"HonestGoldModel", "readsLie", "()Z"⟩, 33) := ⟨⟨by decide +kernel, by decide +kernel⟩, List.mem_of_getElem? (i := 886) (by decide +kernel), List.mem_of_getElem? (i := 1093) (by decide +kernel), List.mem_of_getElem? (i := 1094) (by decide +kernel)⟩
theorem lw_p53 : lw_okq (⟨"HonestGoldModel", "notes", "()V"⟩, 33) := ⟨⟨by decide +kernel, by decide +kernel⟩, List.mem_of_getElem? (i := 886) (by decide +kernel), List.mem_of_getElem? (i := 1104) (by decide +kernel), List.mem_of_getElem? (i := 1105) (by decide +kernel)⟩
theorem lw_p54 : lw_okq (⟨"HonestGoldModel", "lays", "([II)V"⟩, 33) := ⟨⟨by decide +kernel, by decide +kernel⟩, List.mem_of_getElem? (i := 886) (by decide +kernel), List.mem_of_getElem? (i := 1108) (by decide +kernel), List.mem_of_getElem? (i := 1109) (by decide +kernel)⟩
theorem lw_p55 : lw_okq (⟨"HonestGoldModel", "lies", "(II)V"⟩, 33) := ⟨⟨by decide +kernel, by decide +kernel⟩, List.mem_of_getElem? (i := 886) (by decide +kernel), List.mem_of_getElem? (i := 1112) (by decide +kernel), List.mem_of_getElem? (i := 1113) (by decide +kernel)⟩
theorem lw_p56 : lw_okq (⟨"HonestGoldModel", "honestBehind", "(II)I"⟩, 33) := ⟨⟨by decide +kernel, by decide +kernel⟩, List.mem_of_getElem? (i := 886) (by decide +kernel), List.mem_of_getElem? (i := 1116) (by decide +kernel), List.mem_of_getElem? (i := 1117) (by decide +kernel)⟩
theorem lw_p57 : lw_okq (⟨"HonestGoldModel", "no", "()I"⟩, 33) := ⟨⟨by decide +kernel, by decide +kernel⟩, List.mem_of_getElem? (i := 886) (by decide +kernel), List.mem_of_getElem? (i := 1127) (by decide +kernel), List.mem_of_getElem? (i := 1128) (by decide +kernel)⟩
theorem lw_p58 : lw_okq (⟨"HonestGoldModel", "pass", "()V"⟩, 33) := ⟨⟨by decide +kernel, by decide +kernel⟩, List.mem_of_getElem? (i := 886) (by decide +kernel), List.mem_of_getElem? (i := 1135) (by decide +kernel), List.mem_of_getElem? (i := 1136) (by decide +kernel)⟩
theorem lw_p59 : lw_okq (⟨"HonestGoldModel", "takes", "([II)V"⟩, 33) := ⟨⟨by decide +kernel, by decide +kernel⟩, List.mem_of_getElem? (i := 886) (by decide +kernel), List.mem_of_getElem? (i := 1146) (by decide +kernel), List.mem_of_getElem? (i := 1147) (by decide +kernel)⟩
theorem lw_p60 : lw_okq (⟨"HonestGoldModel", "ownWeight", "(I)I"⟩, 33) := ⟨⟨by decide +kernel, by decide +kernel⟩, List.mem_of_getElem? (i := 886) (by decide +kernel), List.mem_of_getElem? (i := 1154) (by decide +kernel), List.mem_of_getElem? (i := 1155) (by decide +kernel)⟩
theorem lw_p61 : lw_okq (⟨"HonestGoldModel", "weight", "(II)I"⟩, 33) := ⟨⟨by decide +kernel, by decide +kernel⟩, List.mem_of_getElem? (i := 886) (by decide +kernel), List.mem_of_getElem? (i := 1158) (by decide +kernel), List.mem_of_getElem? (i := 1159) (by decide +kernel)⟩
theorem lw_p62 : lw_okq (⟨"HonestGoldModel", "ten", "()I"⟩, 33) := ⟨⟨by decide +kernel, by decide +kernel⟩, List.mem_of_getElem? (i := 886) (by decide +kernel), List.mem_of_getElem? (i := 1181) (by decide +kernel), List.mem_of_getElem? (i := 1182) (by decide +kernel)⟩
theorem lw_p63 : lw_okq (⟨"HonestGoldModel", "setSteps", "(IIII)I"⟩, 33) := ⟨⟨by decide +kernel, by decide +kernel⟩, List.mem_of_getElem? (i := 886) (by decide +kernel), List.mem_of_getElem? (i := 1185) (by decide +kernel), List.mem_of_getElem? (i := 1186) (by decide +kernel)⟩
def lw_privs_4 : List (MethodName × Nat) := [(⟨"HonestGoldModel", "readsItem", "()Z"⟩, 33), (⟨"HonestGoldModel", "readsOne", "()Z"⟩, 33), (⟨"HonestGoldModel", "number", "(II)Z"⟩, 33), (⟨"HonestGoldModel", "readsHands", "()Z"⟩, 33), (⟨"HonestGoldModel", "readsLie", "()Z"⟩, 33), (⟨"HonestGoldModel", "notes", "()V"⟩, 33), (⟨"HonestGoldModel", "lays", "([II)V"⟩, 33), (⟨"HonestGoldModel", "lies", "(II)V"⟩, 33), (⟨"HonestGoldModel", "honestBehind", "(II)I"⟩, 33), (⟨"HonestGoldModel", "no", "()I"⟩, 33), (⟨"HonestGoldModel", "pass", "()V"⟩, 33), (⟨"HonestGoldModel", "takes", "([II)V"⟩, 33), (⟨"HonestGoldModel", "ownWeight", "(I)I"⟩, 33), (⟨"HonestGoldModel", "weight", "(II)I"⟩, 33), (⟨"HonestGoldModel", "ten", "()I"⟩, 33), (⟨"HonestGoldModel", "setSteps", "(IIII)I"⟩, 33)]
theorem lw_r4 : ∀ q ∈ lw_privs_4, lw_okq q := List.forall_mem_cons.mpr ⟨lw_p48, List.forall_mem_cons.mpr ⟨lw_p49, List.forall_mem_cons.mpr ⟨lw_p50, List.forall_mem_cons.mpr ⟨lw_p51, List.forall_mem_cons.mpr ⟨lw_p52, List.forall_mem_cons.mpr ⟨lw_p53, List.forall_mem_cons.mpr ⟨lw_p54, List.forall_mem_cons.mpr ⟨lw_p55, List.forall_mem_cons.mpr ⟨lw_p56, List.forall_mem_cons.mpr ⟨lw_p57, List.forall_mem_cons.mpr ⟨lw_p58, List.forall_mem_cons.mpr ⟨lw_p59, List.forall_mem_cons.mpr ⟨lw_p60, List.forall_mem_cons.mpr ⟨lw_p61, List.forall_mem_cons.mpr ⟨lw_p62, List.forall_mem_cons.mpr ⟨lw_p63, fun _ h => absurd h List.not_mem_nil⟩⟩⟩⟩⟩⟩⟩⟩⟩⟩⟩⟩⟩⟩⟩⟩
theorem lw_p64 : lw_okq (⟨"HonestGoldModel", "nextBags", "()Z"⟩, 33) := ⟨⟨by decide +kernel, by decide +kernel⟩, List.mem_of_getElem? (i := 886) (by decide +kernel), List.mem_of_getElem? (i := 1202) (by decide +kernel), List.mem_of_getElem? (i := 1203) (by decide +kernel)⟩
theorem lw_p65 : lw_okq (⟨"HonestGoldModel", "kindsOf", "(I)I"⟩, 33) := ⟨⟨by decide +kernel, by decide +kernel⟩, List.mem_of_getElem? (i := 886) (by decide +kernel), List.mem_of_getElem? (i := 1218) (by decide +kernel), List.mem_of_getElem? (i := 1219) (by decide +kernel)⟩
theorem lw_p66 : lw_okq (⟨"HonestGoldModel", "isSo", "(III)Z"⟩, 33) := ⟨⟨by decide +kernel, by decide +kernel⟩, List.mem_of_getElem? (i := 886) (by decide +kernel), List.mem_of_getElem? (i := 1222) (by decide +kernel), List.mem_of_getElem? (i := 1223) (by decide +kernel)⟩
theorem lw_p67 : lw_okq (⟨"HonestGoldModel", "alike", "(III)I"⟩, 33) := ⟨⟨by decide +kernel, by decide +kernel⟩, List.mem_of_getElem? (i := 886) (by decide +kernel), List.mem_of_getElem? (i := 1230) (by decide +kernel), List.mem_of_getElem? (i := 1231) (by decide +kernel)⟩
theorem lw_p68 : lw_okq (⟨"HonestGoldModel", "gets", "(IZZ)I"⟩, 33) := ⟨⟨by decide +kernel, by decide +kernel⟩, List.mem_of_getElem? (i := 886) (by decide +kernel), List.mem_of_getElem? (i := 1238) (by decide +kernel), List.mem_of_getElem? (i := 1239) (by decide +kernel)⟩
theorem lw_p69 : lw_okq (⟨"HonestGoldModel", "lay", "(JJ)V"⟩, 33) := ⟨⟨by decide +kernel, by decide +kernel⟩, List.mem_of_getElem? (i := 886) (by decide +kernel), List.mem_of_getElem? (i := 1247) (by decide +kernel), List.mem_of_getElem? (i := 1248) (by decide +kernel)⟩
theorem lw_p70 : lw_okq (⟨"HonestGoldModel", "puts", "()V"⟩, 33) := ⟨⟨by decide +kernel, by decide +kernel⟩, List.mem_of_getElem? (i := 886) (by decide +kernel), List.mem_of_getElem? (i := 1256) (by decide +kernel), List.mem_of_getElem? (i := 1257) (by decide +kernel)⟩
theorem lw_p71 : lw_okq (⟨"HonestGoldModel", "back", "()V"⟩, 33) := ⟨⟨by decide +kernel, by decide +kernel⟩, List.mem_of_getElem? (i := 886) (by decide +kernel), List.mem_of_getElem? (i := 1268) (by decide +kernel), List.mem_of_getElem? (i := 1269) (by decide +kernel)⟩
theorem lw_p72 : lw_okq (⟨"HonestGoldModel", "countOf", "(I)I"⟩, 33) := ⟨⟨by decide +kernel, by decide +kernel⟩, List.mem_of_getElem? (i := 886) (by decide +kernel), List.mem_of_getElem? (i := 1292) (by decide +kernel), List.mem_of_getElem? (i := 1293) (by decide +kernel)⟩
theorem lw_p73 : lw_okq (⟨"HonestGoldModel", "allPieces", "()I"⟩, 33) := ⟨⟨by decide +kernel, by decide +kernel⟩, List.mem_of_getElem? (i := 886) (by decide +kernel), List.mem_of_getElem? (i := 1296) (by decide +kernel), List.mem_of_getElem? (i := 1297) (by decide +kernel)⟩
theorem lw_p74 : lw_okq (⟨"HonestGoldModel", "mix", "(J)V"⟩, 33) := ⟨⟨by decide +kernel, by decide +kernel⟩, List.mem_of_getElem? (i := 886) (by decide +kernel), List.mem_of_getElem? (i := 1308) (by decide +kernel), List.mem_of_getElem? (i := 1309) (by decide +kernel)⟩
def lw_privs_5 : List (MethodName × Nat) := [(⟨"HonestGoldModel", "nextBags", "()Z"⟩, 33), (⟨"HonestGoldModel", "kindsOf", "(I)I"⟩, 33), (⟨"HonestGoldModel", "isSo", "(III)Z"⟩, 33), (⟨"HonestGoldModel", "alike", "(III)I"⟩, 33), (⟨"HonestGoldModel", "gets", "(IZZ)I"⟩, 33), (⟨"HonestGoldModel", "lay", "(JJ)V"⟩, 33), (⟨"HonestGoldModel", "puts", "()V"⟩, 33), (⟨"HonestGoldModel", "back", "()V"⟩, 33), (⟨"HonestGoldModel", "countOf", "(I)I"⟩, 33), (⟨"HonestGoldModel", "allPieces", "()I"⟩, 33), (⟨"HonestGoldModel", "mix", "(J)V"⟩, 33)]
theorem lw_r5 : ∀ q ∈ lw_privs_5, lw_okq q := List.forall_mem_cons.mpr ⟨lw_p64, List.forall_mem_cons.mpr ⟨lw_p65, List.forall_mem_cons.mpr ⟨lw_p66, List.forall_mem_cons.mpr ⟨lw_p67, List.forall_mem_cons.mpr ⟨lw_p68, List.forall_mem_cons.mpr ⟨lw_p69, List.forall_mem_cons.mpr ⟨lw_p70, List.forall_mem_cons.mpr ⟨lw_p71, List.forall_mem_cons.mpr ⟨lw_p72, List.forall_mem_cons.mpr ⟨lw_p73, List.forall_mem_cons.mpr ⟨lw_p74, fun _ h => absurd h List.not_mem_nil⟩⟩⟩⟩⟩⟩⟩⟩⟩⟩⟩
def lw_privs : List (MethodName × Nat) := lw_privs_1 ++ (lw_privs_2 ++ (lw_privs_3 ++ (lw_privs_4 ++ (lw_privs_5))))
def lw_tbl : List Cond := k2_sels lw_privs ++ tables_1
theorem lw_privs_ok : ∀ q ∈ lw_privs, lw_okq q := by
  show ∀ q ∈ lw_privs_1 ++ (lw_privs_2 ++ (lw_privs_3 ++ (lw_privs_4 ++ (lw_privs_5)))), lw_okq q
  exact List.forall_mem_append.mpr ⟨lw_r1, List.forall_mem_append.mpr ⟨lw_r2, List.forall_mem_append.mpr ⟨lw_r3, List.forall_mem_append.mpr ⟨lw_r4, lw_r5⟩⟩⟩⟩
-- ===== end of PART A; then your names; then what follows =====
end
section
def RX0 : String := "HonestGold$Banker"
def TX0 : u_T := fun k => match k with
  | _ => ("", "", "", false)
def tyX0 : Nat → FieldType := fun k => match k with
  | _ => .int
abbrev wsX00 : List Cond := u_ws RX0 TX0 0
theorem nmX0 : ∀ a, a < 0 → ∀ b, b < 0 → a ≠ b → (TX0 a).2.1 ≠ (TX0 b).2.1 := by decide +kernel
theorem tyX0_ok : ∀ k, k < 0 → parseFieldDescriptor (TX0 k).2.2.1 = some (tyX0 k) := by decide +kernel
abbrev cX0_init : ByteArray := prog_2_method_1_code
def yX0_init : MethodName := ⟨RX0, "<init>", "()V"⟩
abbrev cX0_weight : ByteArray := prog_2_method_2_code
def yX0_weight : MethodName := ⟨RX0, "weight", "(III)I"⟩
def RX1 : String := "HonestGold$Child"
def TX1 : u_T := fun k => match k with
  | _ => ("", "", "", false)
def tyX1 : Nat → FieldType := fun k => match k with
  | _ => .int
abbrev wsX10 : List Cond := u_ws RX1 TX1 0
theorem nmX1 : ∀ a, a < 0 → ∀ b, b < 0 → a ≠ b → (TX1 a).2.1 ≠ (TX1 b).2.1 := by decide +kernel
theorem tyX1_ok : ∀ k, k < 0 → parseFieldDescriptor (TX1 k).2.2.1 = some (tyX1 k) := by decide +kernel
abbrev cX1_init : ByteArray := prog_3_method_1_code
def yX1_init : MethodName := ⟨RX1, "<init>", "()V"⟩
abbrev cX1_weight : ByteArray := prog_3_method_2_code
def yX1_weight : MethodName := ⟨RX1, "weight", "(III)I"⟩
abbrev cX1_loss : ByteArray := prog_3_method_3_code
def yX1_loss : MethodName := ⟨RX1, "loss", "(I)I"⟩
def RX2 : String := "HonestGold$Half"
def TX2 : u_T := fun k => match k with
  | _ => ("", "", "", false)
def tyX2 : Nat → FieldType := fun k => match k with
  | _ => .int
abbrev wsX20 : List Cond := u_ws RX2 TX2 0
theorem nmX2 : ∀ a, a < 0 → ∀ b, b < 0 → a ≠ b → (TX2 a).2.1 ≠ (TX2 b).2.1 := by decide +kernel
theorem tyX2_ok : ∀ k, k < 0 → parseFieldDescriptor (TX2 k).2.2.1 = some (tyX2 k) := by decide +kernel
abbrev cX2_init : ByteArray := prog_4_method_1_code
def yX2_init : MethodName := ⟨RX2, "<init>", "()V"⟩
abbrev cX2_weight : ByteArray := prog_4_method_2_code
def yX2_weight : MethodName := ⟨RX2, "weight", "(III)I"⟩
abbrev cX2_loss : ByteArray := prog_4_method_3_code
def yX2_loss : MethodName := ⟨RX2, "loss", "(I)I"⟩
def RX3 : String := "HonestGold$Minister"
def TX3 : u_T := fun k => match k with
  | _ => ("", "", "", false)
def tyX3 : Nat → FieldType := fun k => match k with
  | _ => .int
abbrev wsX30 : List Cond := u_ws RX3 TX3 0
theorem nmX3 : ∀ a, a < 0 → ∀ b, b < 0 → a ≠ b → (TX3 a).2.1 ≠ (TX3 b).2.1 := by decide +kernel
theorem tyX3_ok : ∀ k, k < 0 → parseFieldDescriptor (TX3 k).2.2.1 = some (tyX3 k) := by decide +kernel
abbrev cX3_init : ByteArray := prog_5_method_1_code
def yX3_init : MethodName := ⟨RX3, "<init>", "()V"⟩
abbrev cX3_weight : ByteArray := prog_5_method_2_code
def yX3_weight : MethodName := ⟨RX3, "weight", "(III)I"⟩
def RX4 : String := "HonestGold$Notes"
def TX4 : u_T := fun k => match k with
  | 0 => ("HonestGold$Notes", "who", "[I", true)
  | 1 => ("HonestGold$Notes", "pieces", "[I", true)
  | 2 => ("HonestGold$Notes", "weight", "[I", true)
  | 3 => ("HonestGold$Notes", "day", "[I", true)
  | _ => ("HonestGold$Notes", "size", "I", false)
def tyX4 : Nat → FieldType := fun k => match k with
  | 0 => .array .int
  | 1 => .array .int
  | 2 => .array .int
  | 3 => .array .int
  | _ => .int
abbrev wsX40 : List Cond := u_ws RX4 TX4 5
theorem nmX4 : ∀ a, a < 5 → ∀ b, b < 5 → a ≠ b → (TX4 a).2.1 ≠ (TX4 b).2.1 := by decide +kernel
theorem tyX4_ok : ∀ k, k < 5 → parseFieldDescriptor (TX4 k).2.2.1 = some (tyX4 k) := by decide +kernel
abbrev cX4_init : ByteArray := prog_6_method_1_code
def yX4_init : MethodName := ⟨RX4, "<init>", "()V"⟩
abbrev cX4_size : ByteArray := prog_6_method_2_code
def yX4_size : MethodName := ⟨RX4, "size", "()I"⟩
abbrev cX4_drop : ByteArray := prog_6_method_3_code
def yX4_drop : MethodName := ⟨RX4, "drop", "()V"⟩
abbrev cX4_add : ByteArray := prog_6_method_4_code
def yX4_add : MethodName := ⟨RX4, "add", "(IIII)I"⟩
abbrev cX4_copyFrom : ByteArray := prog_6_method_5_code
def yX4_copyFrom : MethodName := ⟨RX4, "copyFrom", "(LHonestGold$Notes;)V"⟩
abbrev cX4_kindsThatFit : ByteArray := prog_6_method_6_code
def yX4_kindsThatFit : MethodName := ⟨RX4, "kindsThatFit", "(LHonestGold$Treasury;I)I"⟩
abbrev cX4_honestiesThatFit : ByteArray := prog_6_method_7_code
def yX4_honestiesThatFit : MethodName := ⟨RX4, "honestiesThatFit", "(LHonestGold$Treasury;I)I"⟩
abbrev cX4_bestWeighing : ByteArray := prog_6_method_8_code
def yX4_bestWeighing : MethodName := ⟨RX4, "bestWeighing", "(LHonestGold$Treasury;II)I"⟩
abbrev cX4_mixInto : ByteArray := prog_6_method_9_code
def yX4_mixInto : MethodName := ⟨RX4, "mixInto", "(J)J"⟩
abbrev cX4_allFit : ByteArray := prog_6_method_10_code
def yX4_allFit : MethodName := ⟨RX4, "allFit", "(LHonestGold$Treasury;III)Z"⟩
abbrev cX4_mostAlike : ByteArray := prog_6_method_11_code
def yX4_mostAlike : MethodName := ⟨RX4, "mostAlike", "(LHonestGold$Treasury;III)I"⟩
def RX5 : String := "HonestGold$Past"
def TX5 : u_T := fun k => match k with
  | 0 => ("HonestGold$Past", "rows", "[I", true)
  | _ => ("HonestGold$Past", "steps", "I", false)
def tyX5 : Nat → FieldType := fun k => match k with
  | 0 => .array .int
  | _ => .int
abbrev wsX50 : List Cond := u_ws RX5 TX5 2
theorem nmX5 : ∀ a, a < 2 → ∀ b, b < 2 → a ≠ b → (TX5 a).2.1 ≠ (TX5 b).2.1 := by decide +kernel
theorem tyX5_ok : ∀ k, k < 2 → parseFieldDescriptor (TX5 k).2.2.1 = some (tyX5 k) := by decide +kernel
abbrev cX5_init : ByteArray := prog_7_method_1_code
def yX5_init : MethodName := ⟨RX5, "<init>", "()V"⟩
abbrev cX5_size : ByteArray := prog_7_method_2_code
def yX5_size : MethodName := ⟨RX5, "size", "()I"⟩
abbrev cX5_drop : ByteArray := prog_7_method_3_code
def yX5_drop : MethodName := ⟨RX5, "drop", "()V"⟩
abbrev cX5_dropLast : ByteArray := prog_7_method_4_code
def yX5_dropLast : MethodName := ⟨RX5, "dropLast", "()V"⟩
abbrev cX5_open : ByteArray := prog_7_method_5_code
def yX5_open : MethodName := ⟨RX5, "open", "()V"⟩
abbrev cX5_put : ByteArray := prog_7_method_6_code
def yX5_put : MethodName := ⟨RX5, "put", "(II)V"⟩
abbrev cX5_last : ByteArray := prog_7_method_7_code
def yX5_last : MethodName := ⟨RX5, "last", "(I)I"⟩
abbrev cX5_copyFrom : ByteArray := prog_7_method_8_code
def yX5_copyFrom : MethodName := ⟨RX5, "copyFrom", "(LHonestGold$Past;)V"⟩
abbrev cX5_placeOf : ByteArray := prog_7_method_9_code
def yX5_placeOf : MethodName := ⟨RX5, "placeOf", "(I)I"⟩
def RX6 : String := "HonestGold$Plain"
def TX6 : u_T := fun k => match k with
  | _ => ("", "", "", false)
def tyX6 : Nat → FieldType := fun k => match k with
  | _ => .int
abbrev wsX60 : List Cond := u_ws RX6 TX6 0
theorem nmX6 : ∀ a, a < 0 → ∀ b, b < 0 → a ≠ b → (TX6 a).2.1 ≠ (TX6 b).2.1 := by decide +kernel
theorem tyX6_ok : ∀ k, k < 0 → parseFieldDescriptor (TX6 k).2.2.1 = some (tyX6 k) := by decide +kernel
abbrev cX6_init : ByteArray := prog_8_method_1_code
def yX6_init : MethodName := ⟨RX6, "<init>", "()V"⟩
abbrev cX6_weight : ByteArray := prog_8_method_2_code
def yX6_weight : MethodName := ⟨RX6, "weight", "(III)I"⟩
abbrev cX6_loss : ByteArray := prog_8_method_3_code
def yX6_loss : MethodName := ⟨RX6, "loss", "(I)I"⟩
def RX7 : String := "HonestGold$Reader"
def TX7 : u_T := fun k => match k with
  | 0 => ("HonestGold$Reader", "text", "[I", true)
  | 1 => ("HonestGold$Reader", "length", "I", false)
  | 2 => ("HonestGold$Reader", "tokenStart", "I", false)
  | 3 => ("HonestGold$Reader", "tokenEnd", "I", false)
  | 4 => ("HonestGold$Reader", "token", "I", false)
  | 5 => ("HonestGold$Reader", "number", "I", false)
  | _ => ("HonestGold$Reader", "fault", "I", false)
def tyX7 : Nat → FieldType := fun k => match k with
  | 0 => .array .int
  | 1 => .int
  | 2 => .int
  | 3 => .int
  | 4 => .int
  | 5 => .int
  | _ => .int
abbrev wsX70 : List Cond := u_ws RX7 TX7 7
theorem nmX7 : ∀ a, a < 7 → ∀ b, b < 7 → a ≠ b → (TX7 a).2.1 ≠ (TX7 b).2.1 := by decide +kernel
theorem tyX7_ok : ∀ k, k < 7 → parseFieldDescriptor (TX7 k).2.2.1 = some (tyX7 k) := by decide +kernel
abbrev cX7_init : ByteArray := prog_9_method_1_code
def yX7_init : MethodName := ⟨RX7, "<init>", "()V"⟩
abbrev cX7_length : ByteArray := prog_9_method_2_code
def yX7_length : MethodName := ⟨RX7, "length", "()I"⟩
abbrev cX7_drop : ByteArray := prog_9_method_3_code
def yX7_drop : MethodName := ⟨RX7, "drop", "()V"⟩
abbrev cX7_append : ByteArray := prog_9_method_4_code
def yX7_append : MethodName := ⟨RX7, "append", "(I)I"⟩
abbrev cX7_faultAt : ByteArray := prog_9_method_5_code
def yX7_faultAt : MethodName := ⟨RX7, "faultAt", "()I"⟩
abbrev cX7_readInto : ByteArray := prog_9_method_6_code
def yX7_readInto : MethodName := ⟨RX7, "readInto", "(LHonestGold$Treasury;)I"⟩
abbrev cX7_takeGold : ByteArray := prog_9_method_7_code
def yX7_takeGold : MethodName := ⟨RX7, "takeGold", "()V"⟩
abbrev cX7_takeOne : ByteArray := prog_9_method_8_code
def yX7_takeOne : MethodName := ⟨RX7, "takeOne", "(LHonestGold$Treasury;)V"⟩
abbrev cX7_takeHands : ByteArray := prog_9_method_9_code
def yX7_takeHands : MethodName := ⟨RX7, "takeHands", "(LHonestGold$Treasury;)V"⟩
abbrev cX7_takeLie : ByteArray := prog_9_method_10_code
def yX7_takeLie : MethodName := ⟨RX7, "takeLie", "(LHonestGold$Treasury;)V"⟩
abbrev cX7_takeNumber : ByteArray := prog_9_method_11_code
def yX7_takeNumber : MethodName := ⟨RX7, "takeNumber", "(II)I"⟩
abbrev cX7_takeStop : ByteArray := prog_9_method_12_code
def yX7_takeStop : MethodName := ⟨RX7, "takeStop", "()V"⟩
abbrev cX7_failHere : ByteArray := prog_9_method_13_code
def yX7_failHere : MethodName := ⟨RX7, "failHere", "()V"⟩
abbrev cX7_isWord : ByteArray := prog_9_method_14_code
def yX7_isWord : MethodName := ⟨RX7, "isWord", "(Ljava/lang/String;)Z"⟩
abbrev cX7_step : ByteArray := prog_9_method_15_code
def yX7_step : MethodName := ⟨RX7, "step", "()V"⟩
abbrev cX7_runEnd : ByteArray := prog_9_method_16_code
def yX7_runEnd : MethodName := ⟨RX7, "runEnd", "(III)I"⟩
abbrev cX7_numberBetween : ByteArray := prog_9_method_17_code
def yX7_numberBetween : MethodName := ⟨RX7, "numberBetween", "(II)I"⟩
abbrev cX7_byteAt : ByteArray := prog_9_method_18_code
def yX7_byteAt : MethodName := ⟨RX7, "byteAt", "(I)I"⟩
def RX8 : String := "HonestGold$Smith"
def TX8 : u_T := fun k => match k with
  | _ => ("", "", "", false)
def tyX8 : Nat → FieldType := fun k => match k with
  | _ => .int
abbrev wsX80 : List Cond := u_ws RX8 TX8 0
theorem nmX8 : ∀ a, a < 0 → ∀ b, b < 0 → a ≠ b → (TX8 a).2.1 ≠ (TX8 b).2.1 := by decide +kernel
theorem tyX8_ok : ∀ k, k < 0 → parseFieldDescriptor (TX8 k).2.2.1 = some (tyX8 k) := by decide +kernel
abbrev cX8_init : ByteArray := prog_10_method_1_code
def yX8_init : MethodName := ⟨RX8, "<init>", "()V"⟩
abbrev cX8_weight : ByteArray := prog_10_method_2_code
def yX8_weight : MethodName := ⟨RX8, "weight", "(III)I"⟩
abbrev cX8_loss : ByteArray := prog_10_method_3_code
def yX8_loss : MethodName := ⟨RX8, "loss", "(I)I"⟩
def RX9 : String := "HonestGold$Treasury"
def TX9 : u_T := fun k => match k with
  | 0 => ("HonestGold$Treasury", "plain", "LHonestGold$Plain;", true)
  | 1 => ("HonestGold$Treasury", "kinds", "[LHonestGold$Plain;", true)
  | 2 => ("HonestGold$Treasury", "kind", "[I", true)
  | 3 => ("HonestGold$Treasury", "honesty", "[I", true)
  | 4 => ("HonestGold$Treasury", "pieces", "[I", true)
  | 5 => ("HonestGold$Treasury", "pay", "[I", true)
  | 6 => ("HonestGold$Treasury", "hands", "[I", true)
  | 7 => ("HonestGold$Treasury", "notes", "LHonestGold$Notes;", true)
  | 8 => ("HonestGold$Treasury", "past", "LHonestGold$Past;", true)
  | 9 => ("HonestGold$Treasury", "people", "I", false)
  | 10 => ("HonestGold$Treasury", "day", "I", false)
  | _ => ("HonestGold$Treasury", "lied", "I", false)
def tyX9 : Nat → FieldType := fun k => match k with
  | 0 => .object "HonestGold$Plain"
  | 1 => .array (.object "HonestGold$Plain")
  | 2 => .array .int
  | 3 => .array .int
  | 4 => .array .int
  | 5 => .array .int
  | 6 => .array .int
  | 7 => .object "HonestGold$Notes"
  | 8 => .object "HonestGold$Past"
  | 9 => .int
  | 10 => .int
  | _ => .int
abbrev wsX90 : List Cond := u_ws RX9 TX9 12
theorem nmX9 : ∀ a, a < 12 → ∀ b, b < 12 → a ≠ b → (TX9 a).2.1 ≠ (TX9 b).2.1 := by decide +kernel
theorem tyX9_ok : ∀ k, k < 12 → parseFieldDescriptor (TX9 k).2.2.1 = some (tyX9 k) := by decide +kernel
abbrev cX9_init : ByteArray := prog_11_method_1_code
def yX9_init : MethodName := ⟨RX9, "<init>", "()V"⟩
abbrev cX9_empty : ByteArray := prog_11_method_2_code
def yX9_empty : MethodName := ⟨RX9, "empty", "()V"⟩
abbrev cX9_copyFrom : ByteArray := prog_11_method_3_code
def yX9_copyFrom : MethodName := ⟨RX9, "copyFrom", "(LHonestGold$Treasury;)V"⟩
abbrev cX9_people : ByteArray := prog_11_method_4_code
def yX9_people : MethodName := ⟨RX9, "people", "()I"⟩
abbrev cX9_isThere : ByteArray := prog_11_method_5_code
def yX9_isThere : MethodName := ⟨RX9, "isThere", "(I)Z"⟩
abbrev cX9_kindOf : ByteArray := prog_11_method_6_code
def yX9_kindOf : MethodName := ⟨RX9, "kindOf", "(I)I"⟩
abbrev cX9_honestyOf : ByteArray := prog_11_method_7_code
def yX9_honestyOf : MethodName := ⟨RX9, "honestyOf", "(I)I"⟩
abbrev cX9_piecesOf : ByteArray := prog_11_method_8_code
def yX9_piecesOf : MethodName := ⟨RX9, "piecesOf", "(I)I"⟩
abbrev cX9_payOf : ByteArray := prog_11_method_9_code
def yX9_payOf : MethodName := ⟨RX9, "payOf", "(I)I"⟩
abbrev cX9_handsOf : ByteArray := prog_11_method_10_code
def yX9_handsOf : MethodName := ⟨RX9, "handsOf", "(I)I"⟩
abbrev cX9_liedOf : ByteArray := prog_11_method_11_code
def yX9_liedOf : MethodName := ⟨RX9, "liedOf", "(I)I"⟩
abbrev cX9_today : ByteArray := prog_11_method_12_code
def yX9_today : MethodName := ⟨RX9, "today", "()I"⟩
abbrev cX9_liars : ByteArray := prog_11_method_13_code
def yX9_liars : MethodName := ⟨RX9, "liars", "()I"⟩
abbrev cX9_notes : ByteArray := prog_11_method_14_code
def yX9_notes : MethodName := ⟨RX9, "notes", "()LHonestGold$Notes;"⟩
abbrev cX9_allPieces : ByteArray := prog_11_method_15_code
def yX9_allPieces : MethodName := ⟨RX9, "allPieces", "()I"⟩
abbrev cX9_join : ByteArray := prog_11_method_16_code
def yX9_join : MethodName := ⟨RX9, "join", "(IIII)I"⟩
abbrev cX9_tellHands : ByteArray := prog_11_method_17_code
def yX9_tellHands : MethodName := ⟨RX9, "tellHands", "(II)V"⟩
abbrev cX9_tellLie : ByteArray := prog_11_method_18_code
def yX9_tellLie : MethodName := ⟨RX9, "tellLie", "(II)V"⟩
abbrev cX9_handOn : ByteArray := prog_11_method_19_code
def yX9_handOn : MethodName := ⟨RX9, "handOn", "(III)V"⟩
abbrev cX9_passDay : ByteArray := prog_11_method_20_code
def yX9_passDay : MethodName := ⟨RX9, "passDay", "()V"⟩
abbrev cX9_steps : ByteArray := prog_11_method_21_code
def yX9_steps : MethodName := ⟨RX9, "steps", "()I"⟩
abbrev cX9_forgetSteps : ByteArray := prog_11_method_22_code
def yX9_forgetSteps : MethodName := ⟨RX9, "forgetSteps", "()V"⟩
abbrev cX9_keepStep : ByteArray := prog_11_method_23_code
def yX9_keepStep : MethodName := ⟨RX9, "keepStep", "()V"⟩
abbrev cX9_stepBack : ByteArray := prog_11_method_24_code
def yX9_stepBack : MethodName := ⟨RX9, "stepBack", "()V"⟩
abbrev cX9_weightBy : ByteArray := prog_11_method_25_code
def yX9_weightBy : MethodName := ⟨RX9, "weightBy", "(IIII)I"⟩
abbrev cX9_weightWith : ByteArray := prog_11_method_26_code
def yX9_weightWith : MethodName := ⟨RX9, "weightWith", "(II)I"⟩
abbrev cX9_ownWeight : ByteArray := prog_11_method_27_code
def yX9_ownWeight : MethodName := ⟨RX9, "ownWeight", "(I)I"⟩
abbrev cX9_allWeight : ByteArray := prog_11_method_28_code
def yX9_allWeight : MethodName := ⟨RX9, "allWeight", "()I"⟩
abbrev cX9_daysUntil : ByteArray := prog_11_method_29_code
def yX9_daysUntil : MethodName := ⟨RX9, "daysUntil", "(II)I"⟩
abbrev cX9_fewestPieces : ByteArray := prog_11_method_30_code
def yX9_fewestPieces : MethodName := ⟨RX9, "fewestPieces", "(II)I"⟩
abbrev cX9_truthWorth : ByteArray := prog_11_method_31_code
def yX9_truthWorth : MethodName := ⟨RX9, "truthWorth", "(I)I"⟩
abbrev cX9_mixInto : ByteArray := prog_11_method_32_code
def yX9_mixInto : MethodName := ⟨RX9, "mixInto", "(J)J"⟩
abbrev cX9_kindNumbered : ByteArray := prog_11_method_33_code
def yX9_kindNumbered : MethodName := ⟨RX9, "kindNumbered", "(I)LHonestGold$Plain;"⟩
abbrev cX9_honestyBehindLie : ByteArray := prog_11_method_34_code
def yX9_honestyBehindLie : MethodName := ⟨RX9, "honestyBehindLie", "(II)I"⟩
abbrev cX9_honestyAfter : ByteArray := prog_11_method_35_code
def yX9_honestyAfter : MethodName := ⟨RX9, "honestyAfter", "(II)I"⟩
def RX10 : String := "HonestGold$Ways"
def TX10 : u_T := fun k => match k with
  | 0 => ("HonestGold$Ways", "heft", "[I", true)
  | 1 => ("HonestGold$Ways", "far", "[I", true)
  | 2 => ("HonestGold$Ways", "lightest", "[I", true)
  | _ => ("HonestGold$Ways", "bagWeights", "[I", true)
def tyX10 : Nat → FieldType := fun k => match k with
  | 0 => .array .int
  | 1 => .array .int
  | 2 => .array .int
  | _ => .array .int
abbrev wsX100 : List Cond := u_ws RX10 TX10 4
theorem nmX10 : ∀ a, a < 4 → ∀ b, b < 4 → a ≠ b → (TX10 a).2.1 ≠ (TX10 b).2.1 := by decide +kernel
theorem tyX10_ok : ∀ k, k < 4 → parseFieldDescriptor (TX10 k).2.2.1 = some (tyX10 k) := by decide +kernel
abbrev cX10_init : ByteArray := prog_12_method_1_code
def yX10_init : MethodName := ⟨RX10, "<init>", "()V"⟩
abbrev cX10_carry : ByteArray := prog_12_method_2_code
def yX10_carry : MethodName := ⟨RX10, "carry", "(LHonestGold$Treasury;III)I"⟩
abbrev cX10_handAt : ByteArray := prog_12_method_3_code
def yX10_handAt : MethodName := ⟨RX10, "handAt", "(LHonestGold$Treasury;II)I"⟩
abbrev cX10_nearerHand : ByteArray := prog_12_method_4_code
def yX10_nearerHand : MethodName := ⟨RX10, "nearerHand", "(LHonestGold$Treasury;I)I"⟩
abbrev cX10_measure : ByteArray := prog_12_method_5_code
def yX10_measure : MethodName := ⟨RX10, "measure", "(LHonestGold$Treasury;III)I"⟩
abbrev cX10_handsToOneAt : ByteArray := prog_12_method_6_code
def yX10_handsToOneAt : MethodName := ⟨RX10, "handsToOneAt", "(LHonestGold$Treasury;II)Z"⟩
abbrev cX10_weighers : ByteArray := prog_12_method_7_code
def yX10_weighers : MethodName := ⟨RX10, "weighers", "(LHonestGold$Treasury;II)I"⟩
abbrev cX10_weightTogether : ByteArray := prog_12_method_8_code
def yX10_weightTogether : MethodName := ⟨RX10, "weightTogether", "(I)I"⟩
abbrev cX10_payTogether : ByteArray := prog_12_method_9_code
def yX10_payTogether : MethodName := ⟨RX10, "payTogether", "(LHonestGold$Treasury;I)I"⟩
abbrev cX10_shelve : ByteArray := prog_12_method_10_code
def yX10_shelve : MethodName := ⟨RX10, "shelve", "(LHonestGold$Treasury;II)I"⟩
abbrev cX10_bagOf : ByteArray := prog_12_method_11_code
def yX10_bagOf : MethodName := ⟨RX10, "bagOf", "(II)I"⟩
abbrev cX10_firstBag : ByteArray := prog_12_method_12_code
def yX10_firstBag : MethodName := ⟨RX10, "firstBag", "(II)I"⟩
abbrev cX10_lightestWith : ByteArray := prog_12_method_13_code
def yX10_lightestWith : MethodName := ⟨RX10, "lightestWith", "(II)I"⟩
abbrev cX10_weighBags : ByteArray := prog_12_method_14_code
def yX10_weighBags : MethodName := ⟨RX10, "weighBags", "(LHonestGold$Treasury;II)V"⟩
abbrev cX10_bagWeight : ByteArray := prog_12_method_15_code
def yX10_bagWeight : MethodName := ⟨RX10, "bagWeight", "(II)I"⟩
abbrev cX10_weighEach : ByteArray := prog_12_method_16_code
def yX10_weighEach : MethodName := ⟨RX10, "weighEach", "(LHonestGold$Treasury;I)V"⟩
abbrev cX10_heftOf : ByteArray := prog_12_method_17_code
def yX10_heftOf : MethodName := ⟨RX10, "heftOf", "(I)I"⟩
abbrev cX10_farOf : ByteArray := prog_12_method_18_code
def yX10_farOf : MethodName := ⟨RX10, "farOf", "(I)I"⟩
abbrev cX10_lightestOf : ByteArray := prog_12_method_19_code
def yX10_lightestOf : MethodName := ⟨RX10, "lightestOf", "(I)I"⟩
abbrev cX10_putLightest : ByteArray := prog_12_method_20_code
def yX10_putLightest : MethodName := ⟨RX10, "putLightest", "(II)V"⟩
def RX11 : String := "HonestGold"
def TX11 : u_T := fun k => match k with
  | 0 => ("HonestGold", "now", "LHonestGold$Treasury;", true)
  | 1 => ("HonestGold", "aside", "LHonestGold$Treasury;", true)
  | 2 => ("HonestGold", "images", "[LHonestGold$Treasury;", true)
  | 3 => ("HonestGold", "reader", "LHonestGold$Reader;", true)
  | 4 => ("HonestGold", "ways", "LHonestGold$Ways;", true)
  | 5 => ("HonestGold", "above", "J", false)
  | 6 => ("HonestGold", "below", "J", false)
  | 7 => ("HonestGold", "badCalls", "I", false)
  | 8 => ("HonestGold", "noCalls", "I", false)
  | _ => ("HonestGold", "fullCalls", "I", false)
def tyX11 : Nat → FieldType := fun k => match k with
  | 0 => .object "HonestGold$Treasury"
  | 1 => .object "HonestGold$Treasury"
  | 2 => .array (.object "HonestGold$Treasury")
  | 3 => .object "HonestGold$Reader"
  | 4 => .object "HonestGold$Ways"
  | 5 => .long
  | 6 => .long
  | 7 => .int
  | 8 => .int
  | _ => .int
abbrev wsX110 : List Cond := u_ws RX11 TX11 10
theorem nmX11 : ∀ a, a < 10 → ∀ b, b < 10 → a ≠ b → (TX11 a).2.1 ≠ (TX11 b).2.1 := by decide +kernel
theorem tyX11_ok : ∀ k, k < 10 → parseFieldDescriptor (TX11 k).2.2.1 = some (tyX11 k) := by decide +kernel
abbrev cX11_init : ByteArray := prog_1_method_1_code
def yX11_init : MethodName := ⟨RX11, "<init>", "()V"⟩
abbrev cX11_gold : ByteArray := prog_1_method_2_code
def yX11_gold : MethodName := ⟨RX11, "gold", "()I"⟩
abbrev cX11_one : ByteArray := prog_1_method_3_code
def yX11_one : MethodName := ⟨RX11, "one", "(IIII)I"⟩
abbrev cX11_hands : ByteArray := prog_1_method_4_code
def yX11_hands : MethodName := ⟨RX11, "hands", "(III)I"⟩
abbrev cX11_type : ByteArray := prog_1_method_5_code
def yX11_type : MethodName := ⟨RX11, "type", "(I)I"⟩
abbrev cX11_clear : ByteArray := prog_1_method_6_code
def yX11_clear : MethodName := ⟨RX11, "clear", "()I"⟩
abbrev cX11_read : ByteArray := prog_1_method_7_code
def yX11_read : MethodName := ⟨RX11, "read", "()I"⟩
abbrev cX11_lie : ByteArray := prog_1_method_8_code
def yX11_lie : MethodName := ⟨RX11, "lie", "(II)I"⟩
abbrev cX11_give : ByteArray := prog_1_method_9_code
def yX11_give : MethodName := ⟨RX11, "give", "(III)I"⟩
abbrev cX11_day : ByteArray := prog_1_method_10_code
def yX11_day : MethodName := ⟨RX11, "day", "()I"⟩
abbrev cX11_undo : ByteArray := prog_1_method_11_code
def yX11_undo : MethodName := ⟨RX11, "undo", "()I"⟩
abbrev cX11_of : ByteArray := prog_1_method_12_code
def yX11_of : MethodName := ⟨RX11, "of", "(II)I"⟩
abbrev cX11_weighs : ByteArray := prog_1_method_13_code
def yX11_weighs : MethodName := ⟨RX11, "weighs", "(II)I"⟩
abbrev cX11_all : ByteArray := prog_1_method_14_code
def yX11_all : MethodName := ⟨RX11, "all", "()I"⟩
abbrev cX11_when : ByteArray := prog_1_method_15_code
def yX11_when : MethodName := ⟨RX11, "when", "(II)I"⟩
abbrev cX11_bag : ByteArray := prog_1_method_16_code
def yX11_bag : MethodName := ⟨RX11, "bag", "(IIII)I"⟩
abbrev cX11_debt : ByteArray := prog_1_method_17_code
def yX11_debt : MethodName := ⟨RX11, "debt", "(II)I"⟩
abbrev cX11_hire : ByteArray := prog_1_method_18_code
def yX11_hire : MethodName := ⟨RX11, "hire", "(III)I"⟩
abbrev cX11_shelves : ByteArray := prog_1_method_19_code
def yX11_shelves : MethodName := ⟨RX11, "shelves", "(III)I"⟩
abbrev cX11_note : ByteArray := prog_1_method_20_code
def yX11_note : MethodName := ⟨RX11, "note", "(IIII)I"⟩
abbrev cX11_forget : ByteArray := prog_1_method_21_code
def yX11_forget : MethodName := ⟨RX11, "forget", "()I"⟩
abbrev cX11_is : ByteArray := prog_1_method_22_code
def yX11_is : MethodName := ⟨RX11, "is", "(II)I"⟩
abbrev cX11_next : ByteArray := prog_1_method_23_code
def yX11_next : MethodName := ⟨RX11, "next", "(I)I"⟩
abbrev cX11_two : ByteArray := prog_1_method_24_code
def yX11_two : MethodName := ⟨RX11, "two", "(II)I"⟩
abbrev cX11_winds : ByteArray := prog_1_method_25_code
def yX11_winds : MethodName := ⟨RX11, "winds", "(II)I"⟩
abbrev cX11_years : ByteArray := prog_1_method_26_code
def yX11_years : MethodName := ⟨RX11, "years", "(II)I"⟩
abbrev cX11_part : ByteArray := prog_1_method_27_code
def yX11_part : MethodName := ⟨RX11, "part", "(I)J"⟩
abbrev cX11_image : ByteArray := prog_1_method_28_code
def yX11_image : MethodName := ⟨RX11, "image", "(I)I"⟩
abbrev cX11_from : ByteArray := prog_1_method_29_code
def yX11_from : MethodName := ⟨RX11, "from", "(I)I"⟩
abbrev cX11_status : ByteArray := prog_1_method_30_code
def yX11_status : MethodName := ⟨RX11, "status", "(I)I"⟩
abbrev cX11_count : ByteArray := prog_1_method_31_code
def yX11_count : MethodName := ⟨RX11, "count", "(I)I"⟩
abbrev cX11_digest : ByteArray := prog_1_method_32_code
def yX11_digest : MethodName := ⟨RX11, "digest", "()J"⟩
abbrev cX11_within : ByteArray := prog_1_method_33_code
def yX11_within : MethodName := ⟨RX11, "within", "(III)Z"⟩
abbrev cX11_twoOfThem : ByteArray := prog_1_method_34_code
def yX11_twoOfThem : MethodName := ⟨RX11, "twoOfThem", "(II)Z"⟩
abbrev cX11_refuseBad : ByteArray := prog_1_method_35_code
def yX11_refuseBad : MethodName := ⟨RX11, "refuseBad", "()I"⟩
abbrev cX11_refuseNo : ByteArray := prog_1_method_36_code
def yX11_refuseNo : MethodName := ⟨RX11, "refuseNo", "()I"⟩
abbrev cX11_refuseFull : ByteArray := prog_1_method_37_code
def yX11_refuseFull : MethodName := ⟨RX11, "refuseFull", "()I"⟩
abbrev cX11_counted : ByteArray := prog_1_method_38_code
def yX11_counted : MethodName := ⟨RX11, "counted", "(I)I"⟩
abbrev cX11_isContent : ByteArray := prog_1_method_39_code
def yX11_isContent : MethodName := ⟨RX11, "isContent", "(IZZ)Z"⟩
abbrev cX11_keepFraction : ByteArray := prog_1_method_40_code
def yX11_keepFraction : MethodName := ⟨RX11, "keepFraction", "(JJ)V"⟩
def RX12 : String := "HonestGoldModel"
def TX12 : u_T := fun k => match k with
  | 0 => ("HonestGoldModel", "refused", "[I", true)
  | 1 => ("HonestGoldModel", "many", "I", false)
  | 2 => ("HonestGoldModel", "now", "I", false)
  | 3 => ("HonestGoldModel", "lied", "I", false)
  | 4 => ("HonestGoldModel", "noteMany", "I", false)
  | 5 => ("HonestGoldModel", "kinds", "[I", true)
  | 6 => ("HonestGoldModel", "honesty", "[I", true)
  | 7 => ("HonestGoldModel", "pieces", "[I", true)
  | 8 => ("HonestGoldModel", "pays", "[I", true)
  | 9 => ("HonestGoldModel", "handed", "[I", true)
  | 10 => ("HonestGoldModel", "noteOne", "[I", true)
  | 11 => ("HonestGoldModel", "notePieces", "[I", true)
  | 12 => ("HonestGoldModel", "noteWeight", "[I", true)
  | 13 => ("HonestGoldModel", "noteDay", "[I", true)
  | 14 => ("HonestGoldModel", "text", "[I", true)
  | 15 => ("HonestGoldModel", "typed", "I", false)
  | 16 => ("HonestGoldModel", "readAt", "I", false)
  | 17 => ("HonestGoldModel", "readMany", "I", false)
  | 18 => ("HonestGoldModel", "readLied", "I", false)
  | 19 => ("HonestGoldModel", "readOnes", "[I", true)
  | 20 => ("HonestGoldModel", "readNumber", "I", false)
  | 21 => ("HonestGoldModel", "ahead", "[I", true)
  | 22 => ("HonestGoldModel", "undoMany", "I", false)
  | 23 => ("HonestGoldModel", "aside", "[I", true)
  | 24 => ("HonestGoldModel", "steps", "[I", true)
  | 25 => ("HonestGoldModel", "line", "[I", true)
  | 26 => ("HonestGoldModel", "bags", "[I", true)
  | 27 => ("HonestGoldModel", "bestBags", "[I", true)
  | 28 => ("HonestGoldModel", "above", "J", false)
  | 29 => ("HonestGoldModel", "below", "J", false)
  | 30 => ("HonestGoldModel", "images", "[I", true)
  | 31 => ("HonestGoldModel", "isKept", "[I", true)
  | _ => ("HonestGoldModel", "h0", "J", false)
def tyX12 : Nat → FieldType := fun k => match k with
  | 0 => .array .int
  | 1 => .int
  | 2 => .int
  | 3 => .int
  | 4 => .int
  | 5 => .array .int
  | 6 => .array .int
  | 7 => .array .int
  | 8 => .array .int
  | 9 => .array .int
  | 10 => .array .int
  | 11 => .array .int
  | 12 => .array .int
  | 13 => .array .int
  | 14 => .array .int
  | 15 => .int
  | 16 => .int
  | 17 => .int
  | 18 => .int
  | 19 => .array .int
  | 20 => .int
  | 21 => .array .int
  | 22 => .int
  | 23 => .array .int
  | 24 => .array .int
  | 25 => .array .int
  | 26 => .array .int
  | 27 => .array .int
  | 28 => .long
  | 29 => .long
  | 30 => .array .int
  | 31 => .array .int
  | _ => .long
abbrev wsX120 : List Cond := u_ws RX12 TX12 33
theorem nmX12 : ∀ a, a < 33 → ∀ b, b < 33 → a ≠ b → (TX12 a).2.1 ≠ (TX12 b).2.1 := by decide +kernel
theorem tyX12_ok : ∀ k, k < 33 → parseFieldDescriptor (TX12 k).2.2.1 = some (tyX12 k) := by decide +kernel
abbrev cX12_bad : ByteArray := prog_14_method_1_code
def yX12_bad : MethodName := ⟨RX12, "bad", "()I"⟩
abbrev cX12_ten : ByteArray := prog_14_method_2_code
def yX12_ten : MethodName := ⟨RX12, "ten", "()I"⟩
abbrev cX12_no : ByteArray := prog_14_method_3_code
def yX12_no : MethodName := ⟨RX12, "no", "()I"⟩
abbrev cX12_full : ByteArray := prog_14_method_4_code
def yX12_full : MethodName := ⟨RX12, "full", "()I"⟩
abbrev cX12_in : ByteArray := prog_14_method_5_code
def yX12_in : MethodName := ⟨RX12, "in", "(III)Z"⟩
abbrev cX12_has : ByteArray := prog_14_method_6_code
def yX12_has : MethodName := ⟨RX12, "has", "(II)Z"⟩
abbrev cX12_lesser : ByteArray := prog_14_method_7_code
def yX12_lesser : MethodName := ⟨RX12, "lesser", "(II)I"⟩
abbrev cX12_init : ByteArray := prog_14_method_8_code
def yX12_init : MethodName := ⟨RX12, "<init>", "()V"⟩
abbrev cX12_begin : ByteArray := prog_14_method_9_code
def yX12_begin : MethodName := ⟨RX12, "begin", "()V"⟩
abbrev cX12_isOne : ByteArray := prog_14_method_10_code
def yX12_isOne : MethodName := ⟨RX12, "isOne", "(I)Z"⟩
abbrev cX12_gold : ByteArray := prog_14_method_11_code
def yX12_gold : MethodName := ⟨RX12, "gold", "()I"⟩
abbrev cX12_addOne : ByteArray := prog_14_method_12_code
def yX12_addOne : MethodName := ⟨RX12, "addOne", "(IIII)I"⟩
abbrev cX12_one : ByteArray := prog_14_method_13_code
def yX12_one : MethodName := ⟨RX12, "one", "(IIII)I"⟩
abbrev cX12_hands : ByteArray := prog_14_method_14_code
def yX12_hands : MethodName := ⟨RX12, "hands", "(III)I"⟩
abbrev cX12_type : ByteArray := prog_14_method_15_code
def yX12_type : MethodName := ⟨RX12, "type", "(I)I"⟩
abbrev cX12_clear : ByteArray := prog_14_method_16_code
def yX12_clear : MethodName := ⟨RX12, "clear", "()I"⟩
abbrev cX12_here : ByteArray := prog_14_method_17_code
def yX12_here : MethodName := ⟨RX12, "here", "()I"⟩
abbrev cX12_skip : ByteArray := prog_14_method_18_code
def yX12_skip : MethodName := ⟨RX12, "skip", "()V"⟩
abbrev cX12_isLetter : ByteArray := prog_14_method_19_code
def yX12_isLetter : MethodName := ⟨RX12, "isLetter", "(I)Z"⟩
abbrev cX12_isFigure : ByteArray := prog_14_method_20_code
def yX12_isFigure : MethodName := ⟨RX12, "isFigure", "(I)Z"⟩
abbrev cX12_wordSize : ByteArray := prog_14_method_21_code
def yX12_wordSize : MethodName := ⟨RX12, "wordSize", "()I"⟩
abbrev cX12_letter : ByteArray := prog_14_method_22_code
def yX12_letter : MethodName := ⟨RX12, "letter", "(I)I"⟩
abbrev cX12_spells : ByteArray := prog_14_method_23_code
def yX12_spells : MethodName := ⟨RX12, "spells", "(IIII)Z"⟩
abbrev cX12_wordHere : ByteArray := prog_14_method_24_code
def yX12_wordHere : MethodName := ⟨RX12, "wordHere", "()I"⟩
abbrev cX12_number : ByteArray := prog_14_method_25_code
def yX12_number : MethodName := ⟨RX12, "number", "(II)Z"⟩
abbrev cX12_ends : ByteArray := prog_14_method_26_code
def yX12_ends : MethodName := ⟨RX12, "ends", "()Z"⟩
abbrev cX12_readsOne : ByteArray := prog_14_method_27_code
def yX12_readsOne : MethodName := ⟨RX12, "readsOne", "()Z"⟩
abbrev cX12_readsHands : ByteArray := prog_14_method_28_code
def yX12_readsHands : MethodName := ⟨RX12, "readsHands", "()Z"⟩
abbrev cX12_readsLie : ByteArray := prog_14_method_29_code
def yX12_readsLie : MethodName := ⟨RX12, "readsLie", "()Z"⟩
abbrev cX12_readsItem : ByteArray := prog_14_method_30_code
def yX12_readsItem : MethodName := ⟨RX12, "readsItem", "()Z"⟩
abbrev cX12_readsGold : ByteArray := prog_14_method_31_code
def yX12_readsGold : MethodName := ⟨RX12, "readsGold", "()I"⟩
abbrev cX12_read : ByteArray := prog_14_method_32_code
def yX12_read : MethodName := ⟨RX12, "read", "()I"⟩
abbrev cX12_weightBy : ByteArray := prog_14_method_33_code
def yX12_weightBy : MethodName := ⟨RX12, "weightBy", "(IIII)I"⟩
abbrev cX12_lieBy : ByteArray := prog_14_method_34_code
def yX12_lieBy : MethodName := ⟨RX12, "lieBy", "(II)I"⟩
abbrev cX12_weight : ByteArray := prog_14_method_35_code
def yX12_weight : MethodName := ⟨RX12, "weight", "(II)I"⟩
abbrev cX12_ownWeight : ByteArray := prog_14_method_36_code
def yX12_ownWeight : MethodName := ⟨RX12, "ownWeight", "(I)I"⟩
abbrev cX12_honestBehind : ByteArray := prog_14_method_37_code
def yX12_honestBehind : MethodName := ⟨RX12, "honestBehind", "(II)I"⟩
abbrev cX12_lays : ByteArray := prog_14_method_38_code
def yX12_lays : MethodName := ⟨RX12, "lays", "([II)V"⟩
abbrev cX12_takes : ByteArray := prog_14_method_39_code
def yX12_takes : MethodName := ⟨RX12, "takes", "([II)V"⟩
abbrev cX12_notes : ByteArray := prog_14_method_40_code
def yX12_notes : MethodName := ⟨RX12, "notes", "()V"⟩
abbrev cX12_puts : ByteArray := prog_14_method_41_code
def yX12_puts : MethodName := ⟨RX12, "puts", "()V"⟩
abbrev cX12_back : ByteArray := prog_14_method_42_code
def yX12_back : MethodName := ⟨RX12, "back", "()V"⟩
abbrev cX12_lies : ByteArray := prog_14_method_43_code
def yX12_lies : MethodName := ⟨RX12, "lies", "(II)V"⟩
abbrev cX12_pass : ByteArray := prog_14_method_44_code
def yX12_pass : MethodName := ⟨RX12, "pass", "()V"⟩
abbrev cX12_lie : ByteArray := prog_14_method_45_code
def yX12_lie : MethodName := ⟨RX12, "lie", "(II)I"⟩
abbrev cX12_give : ByteArray := prog_14_method_46_code
def yX12_give : MethodName := ⟨RX12, "give", "(III)I"⟩
abbrev cX12_day : ByteArray := prog_14_method_47_code
def yX12_day : MethodName := ⟨RX12, "day", "()I"⟩
abbrev cX12_undo : ByteArray := prog_14_method_48_code
def yX12_undo : MethodName := ⟨RX12, "undo", "()I"⟩
abbrev cX12_of : ByteArray := prog_14_method_49_code
def yX12_of : MethodName := ⟨RX12, "of", "(II)I"⟩
abbrev cX12_weighs : ByteArray := prog_14_method_50_code
def yX12_weighs : MethodName := ⟨RX12, "weighs", "(II)I"⟩
abbrev cX12_all : ByteArray := prog_14_method_51_code
def yX12_all : MethodName := ⟨RX12, "all", "()I"⟩
abbrev cX12_when : ByteArray := prog_14_method_52_code
def yX12_when : MethodName := ⟨RX12, "when", "(II)I"⟩
abbrev cX12_setSteps : ByteArray := prog_14_method_53_code
def yX12_setSteps : MethodName := ⟨RX12, "setSteps", "(IIII)I"⟩
abbrev cX12_bag : ByteArray := prog_14_method_54_code
def yX12_bag : MethodName := ⟨RX12, "bag", "(IIII)I"⟩
abbrev cX12_debt : ByteArray := prog_14_method_55_code
def yX12_debt : MethodName := ⟨RX12, "debt", "(II)I"⟩
abbrev cX12_hire : ByteArray := prog_14_method_56_code
def yX12_hire : MethodName := ⟨RX12, "hire", "(III)I"⟩
abbrev cX12_nextBags : ByteArray := prog_14_method_57_code
def yX12_nextBags : MethodName := ⟨RX12, "nextBags", "()Z"⟩
abbrev cX12_shelves : ByteArray := prog_14_method_58_code
def yX12_shelves : MethodName := ⟨RX12, "shelves", "(III)I"⟩
abbrev cX12_note : ByteArray := prog_14_method_59_code
def yX12_note : MethodName := ⟨RX12, "note", "(IIII)I"⟩
abbrev cX12_forget : ByteArray := prog_14_method_60_code
def yX12_forget : MethodName := ⟨RX12, "forget", "()I"⟩
abbrev cX12_isSo : ByteArray := prog_14_method_61_code
def yX12_isSo : MethodName := ⟨RX12, "isSo", "(III)Z"⟩
abbrev cX12_kindsOf : ByteArray := prog_14_method_62_code
def yX12_kindsOf : MethodName := ⟨RX12, "kindsOf", "(I)I"⟩
abbrev cX12_is : ByteArray := prog_14_method_63_code
def yX12_is : MethodName := ⟨RX12, "is", "(II)I"⟩
abbrev cX12_alike : ByteArray := prog_14_method_64_code
def yX12_alike : MethodName := ⟨RX12, "alike", "(III)I"⟩
abbrev cX12_next : ByteArray := prog_14_method_65_code
def yX12_next : MethodName := ⟨RX12, "next", "(I)I"⟩
abbrev cX12_gets : ByteArray := prog_14_method_66_code
def yX12_gets : MethodName := ⟨RX12, "gets", "(IZZ)I"⟩
abbrev cX12_two : ByteArray := prog_14_method_67_code
def yX12_two : MethodName := ⟨RX12, "two", "(II)I"⟩
abbrev cX12_lay : ByteArray := prog_14_method_68_code
def yX12_lay : MethodName := ⟨RX12, "lay", "(JJ)V"⟩
abbrev cX12_winds : ByteArray := prog_14_method_69_code
def yX12_winds : MethodName := ⟨RX12, "winds", "(II)I"⟩
abbrev cX12_years : ByteArray := prog_14_method_70_code
def yX12_years : MethodName := ⟨RX12, "years", "(II)I"⟩
abbrev cX12_part : ByteArray := prog_14_method_71_code
def yX12_part : MethodName := ⟨RX12, "part", "(I)J"⟩
abbrev cX12_image : ByteArray := prog_14_method_72_code
def yX12_image : MethodName := ⟨RX12, "image", "(I)I"⟩
abbrev cX12_from : ByteArray := prog_14_method_73_code
def yX12_from : MethodName := ⟨RX12, "from", "(I)I"⟩
abbrev cX12_status : ByteArray := prog_14_method_74_code
def yX12_status : MethodName := ⟨RX12, "status", "(I)I"⟩
abbrev cX12_bits : ByteArray := prog_14_method_75_code
def yX12_bits : MethodName := ⟨RX12, "bits", "(I)I"⟩
abbrev cX12_allPieces : ByteArray := prog_14_method_76_code
def yX12_allPieces : MethodName := ⟨RX12, "allPieces", "()I"⟩
abbrev cX12_countOf : ByteArray := prog_14_method_77_code
def yX12_countOf : MethodName := ⟨RX12, "countOf", "(I)I"⟩
abbrev cX12_count : ByteArray := prog_14_method_78_code
def yX12_count : MethodName := ⟨RX12, "count", "(I)I"⟩
abbrev cX12_mix : ByteArray := prog_14_method_79_code
def yX12_mix : MethodName := ⟨RX12, "mix", "(J)V"⟩
abbrev cX12_digest : ByteArray := prog_14_method_80_code
def yX12_digest : MethodName := ⟨RX12, "digest", "()J"⟩
def RJ6 : String := "java/lang/Integer"
def TJ6 : u_T := fun k => match k with
  | _ => ("", "", "", false)
def tyJ6 : Nat → FieldType := fun k => match k with
  | _ => .int
abbrev wsJ60 : List Cond := u_ws RJ6 TJ6 0
theorem nmJ6 : ∀ a, a < 0 → ∀ b, b < 0 → a ≠ b → (TJ6 a).2.1 ≠ (TJ6 b).2.1 := by decide +kernel
theorem tyJ6_ok : ∀ k, k < 0 → parseFieldDescriptor (TJ6 k).2.2.1 = some (tyJ6 k) := by decide +kernel
abbrev cJ6_bitCount_0f7a4 : ByteArray := prog_15_method_49_code
def yJ6_bitCount_0f7a4 : MethodName := ⟨RJ6, "bitCount", "(I)I"⟩
def RJ9 : String := "java/lang/Math"
def TJ9 : u_T := fun k => match k with
  | _ => ("", "", "", false)
def tyJ9 : Nat → FieldType := fun k => match k with
  | _ => .int
abbrev wsJ90 : List Cond := u_ws RJ9 TJ9 0
theorem nmJ9 : ∀ a, a < 0 → ∀ b, b < 0 → a ≠ b → (TJ9 a).2.1 ≠ (TJ9 b).2.1 := by decide +kernel
theorem tyJ9_ok : ∀ k, k < 0 → parseFieldDescriptor (TJ9 k).2.2.1 = some (tyJ9 k) := by decide +kernel
abbrev cJ9_max_7cf53 : ByteArray := prog_16_method_65_code
def yJ9_max_7cf53 : MethodName := ⟨RJ9, "max", "(II)I"⟩
abbrev cJ9_min_7cf53 : ByteArray := prog_16_method_69_code
def yJ9_min_7cf53 : MethodName := ⟨RJ9, "min", "(II)I"⟩
def RJ0 : String := "java/lang/String"
def TJ0 : u_T := fun k => match k with
  | _ => ("", "", "", false)
def tyJ0 : Nat → FieldType := fun k => match k with
  | _ => .int
abbrev wsJ00 : List Cond := u_ws RJ0 TJ0 0
theorem nmJ0 : ∀ a, a < 0 → ∀ b, b < 0 → a ≠ b → (TJ0 a).2.1 ≠ (TJ0 b).2.1 := by decide +kernel
theorem tyJ0_ok : ∀ k, k < 0 → parseFieldDescriptor (TJ0 k).2.2.1 = some (tyJ0 k) := by decide +kernel
abbrev cJ0_length_8abf5 : ByteArray := prog_17_method_54_code
def yJ0_length_8abf5 : MethodName := ⟨RJ0, "length", "()I"⟩
abbrev cJ0_charAt_5068e : ByteArray := prog_17_method_56_code
def yJ0_charAt_5068e : MethodName := ⟨RJ0, "charAt", "(I)C"⟩
abbrev cJ0_coder_7d493 : ByteArray := prog_17_method_152_code
def yJ0_coder_7d493 : MethodName := ⟨RJ0, "coder", "()B"⟩
abbrev cJ0_isLatin1_aae02 : ByteArray := prog_17_method_154_code
def yJ0_isLatin1_aae02 : MethodName := ⟨RJ0, "isLatin1", "()Z"⟩
abbrev cJ0_checkIndex_df160 : ByteArray := prog_17_method_155_code
def yJ0_checkIndex_df160 : MethodName := ⟨RJ0, "checkIndex", "(II)V"⟩
def RJ1 : String := "java/lang/StringLatin1"
def TJ1 : u_T := fun k => match k with
  | _ => ("", "", "", false)
def tyJ1 : Nat → FieldType := fun k => match k with
  | _ => .int
abbrev wsJ10 : List Cond := u_ws RJ1 TJ1 0
theorem nmJ1 : ∀ a, a < 0 → ∀ b, b < 0 → a ≠ b → (TJ1 a).2.1 ≠ (TJ1 b).2.1 := by decide +kernel
theorem tyJ1_ok : ∀ k, k < 0 → parseFieldDescriptor (TJ1 k).2.2.1 = some (tyJ1 k) := by decide +kernel
abbrev cJ1_charAt_3b067 : ByteArray := prog_18_method_2_code
def yJ1_charAt_3b067 : MethodName := ⟨RJ1, "charAt", "([BI)C"⟩
def RJ2 : String := "java/lang/StringUTF16"
def TJ2 : u_T := fun k => match k with
  | _ => ("", "", "", false)
def tyJ2 : Nat → FieldType := fun k => match k with
  | _ => .int
abbrev wsJ20 : List Cond := u_ws RJ2 TJ2 0
theorem nmJ2 : ∀ a, a < 0 → ∀ b, b < 0 → a ≠ b → (TJ2 a).2.1 ≠ (TJ2 b).2.1 := by decide +kernel
theorem tyJ2_ok : ∀ k, k < 0 → parseFieldDescriptor (TJ2 k).2.2.1 = some (tyJ2 k) := by decide +kernel
abbrev cJ2_getChar_3b067 : ByteArray := prog_19_method_5_code
def yJ2_getChar_3b067 : MethodName := ⟨RJ2, "getChar", "([BI)C"⟩
abbrev cJ2_length_9d52b : ByteArray := prog_19_method_6_code
def yJ2_length_9d52b : MethodName := ⟨RJ2, "length", "([B)I"⟩
abbrev cJ2_charAt_3b067 : ByteArray := prog_19_method_83_code
def yJ2_charAt_3b067 : MethodName := ⟨RJ2, "charAt", "([BI)C"⟩
abbrev cJ2_checkIndex_2214a : ByteArray := prog_19_method_91_code
def yJ2_checkIndex_2214a : MethodName := ⟨RJ2, "checkIndex", "(I[B)V"⟩
def RJ3 : String := "jdk/internal/util/Preconditions"
def TJ3 : u_T := fun k => match k with
  | _ => ("", "", "", false)
def tyJ3 : Nat → FieldType := fun k => match k with
  | _ => .int
abbrev wsJ30 : List Cond := u_ws RJ3 TJ3 0
theorem nmJ3 : ∀ a, a < 0 → ∀ b, b < 0 → a ≠ b → (TJ3 a).2.1 ≠ (TJ3 b).2.1 := by decide +kernel
theorem tyJ3_ok : ∀ k, k < 0 → parseFieldDescriptor (TJ3 k).2.2.1 = some (tyJ3 k) := by decide +kernel
abbrev cJ3_checkIndex_8e157 : ByteArray := prog_20_method_11_code
def yJ3_checkIndex_8e157 : MethodName := ⟨RJ3, "checkIndex", "(IILjava/util/function/BiFunction;)I"⟩
def RL : String := "HonestGoldLaw"
abbrev cL_law : ByteArray := code
def yL_law : MethodName := ⟨RL, "law", "([I)Z"⟩
abbrev vwCl : List vw_C := [(RX0, TX0, 0), (RX1, TX1, 0), (RX2, TX2, 0), (RX3, TX3, 0), (RX4, TX4, 5), (RX5, TX5, 2), (RX6, TX6, 0), (RX7, TX7, 7), (RX8, TX8, 0), (RX9, TX9, 12), (RX10, TX10, 4), (RX11, TX11, 10), (RX12, TX12, 33)]
end
section
/-! THE ABSTRACT WALK. A cell: an int array, an array of references, an object; a heap: what is known of each address. -/
abbrev ae : Type := (Nat × (Nat → Int32)) ⊕ (Nat × Nat × (Nat → Option Nat)) ⊕ (Nat × List Value)
abbrev aI (n : Nat) (f : Nat → Int32) : ae := .inl (n, f)
abbrev aR (t n : Nat) (g : Nat → Option Nat) : ae := .inr (.inl (t, n, g))
abbrev aO (c : Nat) (fs : List Value) : ae := .inr (.inr (c, fs))
abbrev ah : Type := Nat → Option ae
def ah_set (h : ah) (a : Nat) (e : ae) : ah := fun b => if b = a then some e else h b
theorem ah_set_eq (h : ah) (a : Nat) (e : ae) : ah_set h a e a = some e := if_pos rfl
theorem ah_set_ne (h : ah) {a b : Nat} (e : ae) (hb : b ≠ a) : ah_set h a e b = h b := if_neg hb
/-- the machine's own numbers: the classes', the array classes', the first address that is ours, what stays of the rest -/
abbrev aw_E : Type := va_G × (Nat → ClassId) × Nat × (State → Heap → Prop)
/-- a method: its name, bytes, locals, answer -/
abbrev aw_M : Type := MethodName × ByteArray × Nat × Option FieldType
def aw_A (E : aw_E) : Nat → Prop := fun q => E.2.2.1 ≤ q
def aw_at (E : aw_E) (a : Nat) (e : ae) (H : Heap) : Prop := match e with
  | .inl (n, f) => H[a]? = some (vp_cell (E.2.1 0) (n, .inl f))
  | .inr (.inl (t, n, g)) => (t = 1 ∨ t = 2) ∧ H[a]? = some (vp_cell (E.2.1 t) (n, .inr (.inr (.inr (.inr g)))))
  | .inr (.inr o) => va_at E.1 vwCl (a, .inr o) H
def aw_R (E : aw_E) (n : Nat) (h : ah) (H : Heap) : Prop := H.size = n ∧ ∀ (a : Nat) (e : ae), h a = some e → E.2.2.1 ≤ a ∧ aw_at E a e H
abbrev aw_tys (E : aw_E) : List (ClassId × FieldType) := [(E.2.1 0, .int), (E.2.1 1, .object "HonestGold$Plain"), (E.2.1 2, .object "HonestGold$Treasury")]
def aw_K (E : aw_E) (U : State) : Prop := va_K E.1 vwCl (aw_tys E) U
def aw_cl (E : aw_E) : Prop := ∀ (s U : State) (H H1 : Heap), s.WarmedH U.vm → (∀ a : Nat, a < H.size → a < E.2.2.1 → H1[a]? = H[a]?) → E.2.2.2 s H → E.2.2.2 U H1
/-- the words that a call may hand on -/
def aw_T : List Cond := lw_tbl.filter goodWord
theorem aw_mem {w : Cond} (i : Nat) (hi : lw_tbl[i]? = some w) (hg : goodWord w = true) : w ∈ aw_T := List.mem_filter.mpr ⟨List.mem_of_getElem? hi, hg⟩
def aw_rm (d mc ms : Nat) : Room := { frames := d, cells := mc, slots := ms, locals := 34 * d + 10 }
def aw_F (E : aw_E) (mi : aw_M) (p : Program) (s : State) (m : MethodId) (args : Array Value) (meth : Method) (c : Code) : Prop :=
  p.tables.exec = Jvm.exec ∧ c.code = mi.2.1 ∧ c.maxLocals = mi.2.2.1 ∧ meth.sig.returnType = mi.2.2.2 ∧ s.vm.findClass mi.1.cls = some m.cls ∧ (∀ w ∈ aw_T, w.before args s = true) ∧ meth.locks = false ∧ meth.name = mi.1.name ∧ aw_K E s ∧ E.2.2.2 s s.heap ∧ aw_cl E ∧ E.2.2.1 ≤ s.heap.size
abbrev aw_Zt : Type := List Frame → Array Value → State → Nat → Nat → State → Prop
def aw (l : Launch) (E : aw_E) (mi : aw_M) (Z : aw_Zt) (d bc bs pc : Nat) (ls : List (Nat × Value)) (st : List Value) (n : Nat) (h : ah) : Prop :=
  ∀ (p : Program) (e : Env) (s : State) (m : MethodId) (args : Array Value) (below : List Frame) (meth : Method) (c : Code) (H : Heap) (locs : List Loc) (cells slots mc ms : Nat) (ls' : Array Slot),
    aw_F E mi p s m args meth c → cells + bc ≤ mc → slots + bs ≤ ms → aw_R E n h H → va_S (aw_A E) s.heap H locs → lv_has ls' mi.2.2.1 ls →
    W p l e (aw_rm d mc ms) s m args below meth c H locs cells slots (Z below args s mc ms) (F0 m pc ls' st)
/-- what a method's end says -/
abbrev aw_P : Type := Option Value → Nat → ah → Prop
def aw_Qc (E : aw_E) (Q : aw_P) : Array Value → State → Outcome → State → Prop := fun _ st oc t => ∃ (r : Option Value) (n : Nat) (h : ah), oc = .returned r ∧ Q r n h ∧ aw_R E n h t.heap ∧ va_F (aw_A E) st t
def aw_Z (E : aw_E) (Q : aw_P) : aw_Zt := fun below args s mc ms => MQ below (aw_Qc E Q) args s mc ms (aw_A E)
def aw_Pc (E : aw_E) (n : Nat) (h : ah) (U : State) : Prop := aw_R E n h U.heap ∧ aw_K E U ∧ E.2.2.2 U U.heap ∧ aw_cl E ∧ E.2.2.1 ≤ U.heap.size
/-- THE CONTRACT of a method: from these arguments and this heap it returns, and Q holds of the answer and the heap then; d frames at most below it, mc cells of ms slots made -/
def am (l : Launch) (E : aw_E) (mi : aw_M) (d mc ms : Nat) (av : List Value) (n : Nat) (h : ah) (Q : aw_P) : Prop :=
  Met l mi.1 (.code mi.1 mi.2.1 mi.2.2.1 mi.2.2.2 :: aw_T) (aw_rm d mc ms) (va_Pc av (aw_Pc E n h)) (aw_Qc E Q) mc ms (aw_A E)
def aw_lk : List (Nat × Value) → Nat → Option Value
  | [], _ => none
  | q :: t, i => if q.1 = i then some q.2 else aw_lk t i
theorem aw_lk_mem : ∀ {ls : List (Nat × Value)} {i : Nat} {v : Value}, aw_lk ls i = some v → (i, v) ∈ ls
  | [], _, _, h => by cases h
  | q :: t, i, v, h => by
    unfold aw_lk at h
    by_cases hq : q.1 = i
    · rw [if_pos hq] at h
      have h2 : q = (i, v) := Prod.ext hq (Option.some.inj h)
      rw [h2]; exact List.mem_cons_self
    · rw [if_neg hq] at h
      exact List.mem_cons_of_mem _ (aw_lk_mem h)
def aw_st1 (i : Nat) (v : Value) (ls : List (Nat × Value)) : List (Nat × Value) := (i, v) :: ls.filter (fun q => !(q.1 == i) && !(q.1 + 1 == i && q.2.category == 2))
def aw_st2 (i : Nat) (v : Value) (ls : List (Nat × Value)) : List (Nat × Value) := (i, v) :: ls.filter (fun q => !(q.1 == i) && (!(q.1 == i + 1) && !(q.1 + 1 == i && q.2.category == 2)))
def aw_pk (ls : List (Nat × Value)) (ks : List Nat) : List (Nat × Value) := ks.filterMap (fun i => (aw_lk ls i).map (fun v => (i, v)))
theorem aw_pk_mem {ls : List (Nat × Value)} {ks : List Nat} {q : Nat × Value} (h : q ∈ aw_pk ls ks) : q ∈ ls := by
  unfold aw_pk at h
  obtain ⟨i, -, hi⟩ := List.mem_filterMap.mp h
  cases hv : aw_lk ls i with
  | none => rw [hv] at hi; cases hi
  | some v => rw [hv] at hi; cases hi; exact aw_lk_mem hv
theorem aw_cl_of {E : aw_E} (hc : aw_cl E) {s U : State} {H : Heap} {locs : List Loc} (hW : s.WarmedH U.vm) (hS : va_S (aw_A E) s.heap H locs) (h : E.2.2.2 s s.heap) : E.2.2.2 U H :=
  hc s U s.heap H hW (fun a h1 h2 => hS.2.1 a h1 (Nat.not_le.mpr h2)) h
section AW
variable {l : Launch} {E : aw_E} {mi : aw_M} {Z : aw_Zt} {d bc bs pc : Nat} {ls : List (Nat × Value)} {st : List Value} {n : Nat} {h : ah}
theorem aw_loc {ls2 : List (Nat × Value)} (ks : List Nat) (hl : aw_pk ls ks = ls2) (k : aw l E mi Z d bc bs pc ls2 st n h) : aw l E mi Z d bc bs pc ls st n h := by
  intro p e s m args below meth c H locs cells slots mc ms ls' F h1 h2 hR hS hl'
  exact k p e s m args below meth c H locs cells slots mc ms ls' F h1 h2 hR hS ⟨hl'.1, hl'.2.1, fun q hq => hl'.2.2 q (aw_pk_mem (by rw [hl]; exact hq))⟩
theorem aw_bud {bc' bs' : Nat} (k : aw l E mi Z d bc' bs' pc ls st n h) (hc : bc' ≤ bc) (hs : bs' ≤ bs) : aw l E mi Z d bc bs pc ls st n h := by
  intro p e s m args below meth c H locs cells slots mc ms ls' F h1 h2 hR hS hl'
  exact k p e s m args below meth c H locs cells slots mc ms ls' F (by omega) (by omega) hR hS hl'
theorem aw_iconst {z : Int} {v : Int32} (hd : decode mi.2.1 pc = .ok (.iconst z, 1)) (hv : Int32.ofInt z = v) (k : aw l E mi Z d bc bs (pc + 1) ls (.int v :: st) n h) : aw l E mi Z d bc bs pc ls (st) n h := by
  intro p e s m args below meth c H locs cells slots mc ms ls' F h1 h2 hR hS hl
  exact lv_iconst F.1 F.2.1 hd hv (k p e s m args below meth c H locs cells slots mc ms ls' F h1 h2 hR hS hl)
theorem aw_bipush {z : Int} {v : Int32} (hd : decode mi.2.1 pc = .ok (.bipush z, 2)) (hv : (Int8.ofInt z).toInt32 = v) (k : aw l E mi Z d bc bs (pc + 2) ls (.int v :: st) n h) : aw l E mi Z d bc bs pc ls (st) n h := by
  intro p e s m args below meth c H locs cells slots mc ms ls' F h1 h2 hR hS hl
  exact lv_bipush F.1 F.2.1 hd hv (k p e s m args below meth c H locs cells slots mc ms ls' F h1 h2 hR hS hl)
theorem aw_sipush {z : Int} {v : Int32} (hd : decode mi.2.1 pc = .ok (.sipush z, 3)) (hv : (Int16.ofInt z).toInt32 = v) (k : aw l E mi Z d bc bs (pc + 3) ls (.int v :: st) n h) : aw l E mi Z d bc bs pc ls (st) n h := by
  intro p e s m args below meth c H locs cells slots mc ms ls' F h1 h2 hR hS hl
  exact lv_sipush F.1 F.2.1 hd hv (k p e s m args below meth c H locs cells slots mc ms ls' F h1 h2 hR hS hl)
theorem aw_lconst {z : Fin 2} {v : Int64} (hd : decode mi.2.1 pc = .ok (.lconst z, 1)) (hv : Int64.ofNat (z : Nat) = v) (k : aw l E mi Z d bc bs (pc + 1) ls (.long v :: st) n h) : aw l E mi Z d bc bs pc ls (st) n h := by
  intro p e s m args below meth c H locs cells slots mc ms ls' F h1 h2 hR hS hl
  exact lv_lconst F.1 F.2.1 hd hv (k p e s m args below meth c H locs cells slots mc ms ls' F h1 h2 hR hS hl)
theorem aw_iload_n {z : Fin 4} {v : Int32} (hd : decode mi.2.1 pc = .ok (.iload_n z, 1)) (hv : aw_lk ls z.val = some (.int v)) (k : aw l E mi Z d bc bs (pc + 1) ls (.int v :: st) n h) : aw l E mi Z d bc bs pc ls (st) n h := by
  intro p e s m args below meth c H locs cells slots mc ms ls' F h1 h2 hR hS hl
  exact lv_iload_n F.1 F.2.1 hd rfl (hl.2.2 _ (aw_lk_mem hv)) (k p e s m args below meth c H locs cells slots mc ms ls' F h1 h2 hR hS hl)
theorem aw_iload {i : Nat} {v : Int32} (hd : decode mi.2.1 pc = .ok (.iload i, 2)) (hv : aw_lk ls i = some (.int v)) (k : aw l E mi Z d bc bs (pc + 2) ls (.int v :: st) n h) : aw l E mi Z d bc bs pc ls (st) n h := by
  intro p e s m args below meth c H locs cells slots mc ms ls' F h1 h2 hR hS hl
  exact lv_iload F.1 F.2.1 hd (hl.2.2 _ (aw_lk_mem hv)) (k p e s m args below meth c H locs cells slots mc ms ls' F h1 h2 hR hS hl)
theorem aw_lload_n {z : Fin 4} {v : Int64} (hd : decode mi.2.1 pc = .ok (.lload_n z, 1)) (hv : aw_lk ls z.val = some (.long v)) (k : aw l E mi Z d bc bs (pc + 1) ls (.long v :: st) n h) : aw l E mi Z d bc bs pc ls (st) n h := by
  intro p e s m args below meth c H locs cells slots mc ms ls' F h1 h2 hR hS hl
  exact lv_lload_n F.1 F.2.1 hd rfl (hl.2.2 _ (aw_lk_mem hv)) (k p e s m args below meth c H locs cells slots mc ms ls' F h1 h2 hR hS hl)
theorem aw_lload {i : Nat} {v : Int64} (hd : decode mi.2.1 pc = .ok (.lload i, 2)) (hv : aw_lk ls i = some (.long v)) (k : aw l E mi Z d bc bs (pc + 2) ls (.long v :: st) n h) : aw l E mi Z d bc bs pc ls (st) n h := by
  intro p e s m args below meth c H locs cells slots mc ms ls' F h1 h2 hR hS hl
  exact lv_lload F.1 F.2.1 hd (hl.2.2 _ (aw_lk_mem hv)) (k p e s m args below meth c H locs cells slots mc ms ls' F h1 h2 hR hS hl)
theorem aw_aload_n {z : Fin 4} {v : Nat} (hd : decode mi.2.1 pc = .ok (.aload_n z, 1)) (hv : aw_lk ls z.val = some (.ref v)) (k : aw l E mi Z d bc bs (pc + 1) ls (.ref v :: st) n h) : aw l E mi Z d bc bs pc ls (st) n h := by
  intro p e s m args below meth c H locs cells slots mc ms ls' F h1 h2 hR hS hl
  exact lv_aload_n F.1 F.2.1 hd rfl (hl.2.2 _ (aw_lk_mem hv)) (k p e s m args below meth c H locs cells slots mc ms ls' F h1 h2 hR hS hl)
theorem aw_aload {i : Nat} {v : Nat} (hd : decode mi.2.1 pc = .ok (.aload i, 2)) (hv : aw_lk ls i = some (.ref v)) (k : aw l E mi Z d bc bs (pc + 2) ls (.ref v :: st) n h) : aw l E mi Z d bc bs pc ls (st) n h := by
  intro p e s m args below meth c H locs cells slots mc ms ls' F h1 h2 hR hS hl
  exact lv_aload F.1 F.2.1 hd (hl.2.2 _ (aw_lk_mem hv)) (k p e s m args below meth c H locs cells slots mc ms ls' F h1 h2 hR hS hl)
theorem aw_aload_nN {z : Fin 4} (hd : decode mi.2.1 pc = .ok (.aload_n z, 1)) (hv : aw_lk ls z.val = some .null) (k : aw l E mi Z d bc bs (pc + 1) ls (.null :: st) n h) : aw l E mi Z d bc bs pc ls (st) n h := by
  intro p e s m args below meth c H locs cells slots mc ms ls' F h1 h2 hR hS hl
  exact lv_aload_nN F.1 F.2.1 hd rfl (hl.2.2 _ (aw_lk_mem hv)) (k p e s m args below meth c H locs cells slots mc ms ls' F h1 h2 hR hS hl)
theorem aw_istore_n {z : Fin 4} {v : Int32} (hd : decode mi.2.1 pc = .ok (.istore_n z, 1)) (hn : z.val < mi.2.2.1) (k : aw l E mi Z d bc bs (pc + 1) (aw_st1 z.val (.int v) ls) st n h) : aw l E mi Z d bc bs pc ls (.int v :: st) n h := by
  intro p e s m args below meth c H locs cells slots mc ms ls' F h1 h2 hR hS hl
  exact lv_istore_n F.1 F.2.1 hd rfl hl hn rfl (fun ls2 hl2 => k p e s m args below meth c H locs cells slots mc ms ls2 F h1 h2 hR hS hl2)
theorem aw_istore {i : Nat} {v : Int32} (hd : decode mi.2.1 pc = .ok (.istore i, 2)) (hn : i < mi.2.2.1) (k : aw l E mi Z d bc bs (pc + 2) (aw_st1 i (.int v) ls) st n h) : aw l E mi Z d bc bs pc ls (.int v :: st) n h := by
  intro p e s m args below meth c H locs cells slots mc ms ls' F h1 h2 hR hS hl
  exact lv_istore F.1 F.2.1 hd hl hn rfl (fun ls2 hl2 => k p e s m args below meth c H locs cells slots mc ms ls2 F h1 h2 hR hS hl2)
theorem aw_lstore_n {z : Fin 4} {v : Int64} (hd : decode mi.2.1 pc = .ok (.lstore_n z, 1)) (hn : z.val + 1 < mi.2.2.1) (k : aw l E mi Z d bc bs (pc + 1) (aw_st2 z.val (.long v) ls) st n h) : aw l E mi Z d bc bs pc ls (.long v :: st) n h := by
  intro p e s m args below meth c H locs cells slots mc ms ls' F h1 h2 hR hS hl
  exact lv_lstore_n F.1 F.2.1 hd rfl hl hn rfl (fun ls2 hl2 => k p e s m args below meth c H locs cells slots mc ms ls2 F h1 h2 hR hS hl2)
theorem aw_lstore {i : Nat} {v : Int64} (hd : decode mi.2.1 pc = .ok (.lstore i, 2)) (hn : i + 1 < mi.2.2.1) (k : aw l E mi Z d bc bs (pc + 2) (aw_st2 i (.long v) ls) st n h) : aw l E mi Z d bc bs pc ls (.long v :: st) n h := by
  intro p e s m args below meth c H locs cells slots mc ms ls' F h1 h2 hR hS hl
  exact lv_lstore F.1 F.2.1 hd hl hn rfl (fun ls2 hl2 => k p e s m args below meth c H locs cells slots mc ms ls2 F h1 h2 hR hS hl2)
theorem aw_astore_n {z : Fin 4} {v : Nat} (hd : decode mi.2.1 pc = .ok (.astore_n z, 1)) (hn : z.val < mi.2.2.1) (k : aw l E mi Z d bc bs (pc + 1) (aw_st1 z.val (.ref v) ls) st n h) : aw l E mi Z d bc bs pc ls (.ref v :: st) n h := by
  intro p e s m args below meth c H locs cells slots mc ms ls' F h1 h2 hR hS hl
  exact lv_astore_n F.1 F.2.1 hd rfl hl hn rfl (fun ls2 hl2 => k p e s m args below meth c H locs cells slots mc ms ls2 F h1 h2 hR hS hl2)
theorem aw_astore {i : Nat} {v : Nat} (hd : decode mi.2.1 pc = .ok (.astore i, 2)) (hn : i < mi.2.2.1) (k : aw l E mi Z d bc bs (pc + 2) (aw_st1 i (.ref v) ls) st n h) : aw l E mi Z d bc bs pc ls (.ref v :: st) n h := by
  intro p e s m args below meth c H locs cells slots mc ms ls' F h1 h2 hR hS hl
  exact lv_astore F.1 F.2.1 hd hl hn rfl (fun ls2 hl2 => k p e s m args below meth c H locs cells slots mc ms ls2 F h1 h2 hR hS hl2)
theorem aw_iinc {i : Nat} {z : Int} {x v : Int32} (hd : decode mi.2.1 pc = .ok (.iinc i z, 3)) (hv : aw_lk ls i = some (.int x)) (hx : x + Int32.ofInt z = v) (hn : i < mi.2.2.1) (k : aw l E mi Z d bc bs (pc + 3) (aw_st1 i (.int v) ls) st n h) : aw l E mi Z d bc bs pc ls st n h := by
  intro p e s m args below meth c H locs cells slots mc ms ls' F h1 h2 hR hS hl
  obtain ⟨j, hj⟩ := List.mem_iff_getElem?.mp (aw_lk_mem hv)
  exact lv_iinc F.1 F.2.1 hd hl hj hx hn rfl (fun ls2 hl2 => k p e s m args below meth c H locs cells slots mc ms ls2 F h1 h2 hR hS hl2)
theorem aw_iadd {x y : Int32} (hd : decode mi.2.1 pc = .ok (.iadd, 1))  (k : aw l E mi Z d bc bs (pc + 1) ls (.int (x + y) :: st) n h) : aw l E mi Z d bc bs pc ls (.int y :: .int x :: st) n h := by
  intro p e s m args below meth c H locs cells slots mc ms ls' F h1 h2 hR hS hl
  exact lv_iadd F.1 F.2.1 hd  (k p e s m args below meth c H locs cells slots mc ms ls' F h1 h2 hR hS hl)
theorem aw_isub {x y : Int32} (hd : decode mi.2.1 pc = .ok (.isub, 1))  (k : aw l E mi Z d bc bs (pc + 1) ls (.int (x - y) :: st) n h) : aw l E mi Z d bc bs pc ls (.int y :: .int x :: st) n h := by
  intro p e s m args below meth c H locs cells slots mc ms ls' F h1 h2 hR hS hl
  exact lv_isub F.1 F.2.1 hd  (k p e s m args below meth c H locs cells slots mc ms ls' F h1 h2 hR hS hl)
theorem aw_imul {x y : Int32} (hd : decode mi.2.1 pc = .ok (.imul, 1))  (k : aw l E mi Z d bc bs (pc + 1) ls (.int (x * y) :: st) n h) : aw l E mi Z d bc bs pc ls (.int y :: .int x :: st) n h := by
  intro p e s m args below meth c H locs cells slots mc ms ls' F h1 h2 hR hS hl
  exact lv_imul F.1 F.2.1 hd  (k p e s m args below meth c H locs cells slots mc ms ls' F h1 h2 hR hS hl)
theorem aw_iand {x y : Int32} (hd : decode mi.2.1 pc = .ok (.iand, 1))  (k : aw l E mi Z d bc bs (pc + 1) ls (.int (x &&& y) :: st) n h) : aw l E mi Z d bc bs pc ls (.int y :: .int x :: st) n h := by
  intro p e s m args below meth c H locs cells slots mc ms ls' F h1 h2 hR hS hl
  exact lv_iand F.1 F.2.1 hd  (k p e s m args below meth c H locs cells slots mc ms ls' F h1 h2 hR hS hl)
theorem aw_ior {x y : Int32} (hd : decode mi.2.1 pc = .ok (.ior, 1))  (k : aw l E mi Z d bc bs (pc + 1) ls (.int (x ||| y) :: st) n h) : aw l E mi Z d bc bs pc ls (.int y :: .int x :: st) n h := by
  intro p e s m args below meth c H locs cells slots mc ms ls' F h1 h2 hR hS hl
  exact lv_ior F.1 F.2.1 hd  (k p e s m args below meth c H locs cells slots mc ms ls' F h1 h2 hR hS hl)
theorem aw_ixor {x y : Int32} (hd : decode mi.2.1 pc = .ok (.ixor, 1))  (k : aw l E mi Z d bc bs (pc + 1) ls (.int (x ^^^ y) :: st) n h) : aw l E mi Z d bc bs pc ls (.int y :: .int x :: st) n h := by
  intro p e s m args below meth c H locs cells slots mc ms ls' F h1 h2 hR hS hl
  exact lv_ixor F.1 F.2.1 hd  (k p e s m args below meth c H locs cells slots mc ms ls' F h1 h2 hR hS hl)
theorem aw_idiv {x y : Int32} (hd : decode mi.2.1 pc = .ok (.idiv, 1)) (hne : ¬ y = 0) (k : aw l E mi Z d bc bs (pc + 1) ls (.int (x / y) :: st) n h) : aw l E mi Z d bc bs pc ls (.int y :: .int x :: st) n h := by
  intro p e s m args below meth c H locs cells slots mc ms ls' F h1 h2 hR hS hl
  exact lv_idiv F.1 F.2.1 hd hne (k p e s m args below meth c H locs cells slots mc ms ls' F h1 h2 hR hS hl)
theorem aw_irem {x y : Int32} (hd : decode mi.2.1 pc = .ok (.irem, 1)) (hne : ¬ y = 0) (k : aw l E mi Z d bc bs (pc + 1) ls (.int (x - x / y * y) :: st) n h) : aw l E mi Z d bc bs pc ls (.int y :: .int x :: st) n h := by
  intro p e s m args below meth c H locs cells slots mc ms ls' F h1 h2 hR hS hl
  exact lv_irem F.1 F.2.1 hd hne (k p e s m args below meth c H locs cells slots mc ms ls' F h1 h2 hR hS hl)
theorem aw_ladd {x y : Int64} (hd : decode mi.2.1 pc = .ok (.ladd, 1))  (k : aw l E mi Z d bc bs (pc + 1) ls (.long (x + y) :: st) n h) : aw l E mi Z d bc bs pc ls (.long y :: .long x :: st) n h := by
  intro p e s m args below meth c H locs cells slots mc ms ls' F h1 h2 hR hS hl
  exact lv_ladd F.1 F.2.1 hd  (k p e s m args below meth c H locs cells slots mc ms ls' F h1 h2 hR hS hl)
theorem aw_lsub {x y : Int64} (hd : decode mi.2.1 pc = .ok (.lsub, 1))  (k : aw l E mi Z d bc bs (pc + 1) ls (.long (x - y) :: st) n h) : aw l E mi Z d bc bs pc ls (.long y :: .long x :: st) n h := by
  intro p e s m args below meth c H locs cells slots mc ms ls' F h1 h2 hR hS hl
  exact lv_lsub F.1 F.2.1 hd  (k p e s m args below meth c H locs cells slots mc ms ls' F h1 h2 hR hS hl)
theorem aw_lmul {x y : Int64} (hd : decode mi.2.1 pc = .ok (.lmul, 1))  (k : aw l E mi Z d bc bs (pc + 1) ls (.long (x * y) :: st) n h) : aw l E mi Z d bc bs pc ls (.long y :: .long x :: st) n h := by
  intro p e s m args below meth c H locs cells slots mc ms ls' F h1 h2 hR hS hl
  exact lv_lmul F.1 F.2.1 hd  (k p e s m args below meth c H locs cells slots mc ms ls' F h1 h2 hR hS hl)
theorem aw_ldiv {x y : Int64} (hd : decode mi.2.1 pc = .ok (.ldiv, 1)) (hne : ¬ y = 0) (k : aw l E mi Z d bc bs (pc + 1) ls (.long (x / y) :: st) n h) : aw l E mi Z d bc bs pc ls (.long y :: .long x :: st) n h := by
  intro p e s m args below meth c H locs cells slots mc ms ls' F h1 h2 hR hS hl
  exact lv_ldiv F.1 F.2.1 hd hne (k p e s m args below meth c H locs cells slots mc ms ls' F h1 h2 hR hS hl)
theorem aw_lrem {x y : Int64} (hd : decode mi.2.1 pc = .ok (.lrem, 1)) (hne : ¬ y = 0) (k : aw l E mi Z d bc bs (pc + 1) ls (.long (x - x / y * y) :: st) n h) : aw l E mi Z d bc bs pc ls (.long y :: .long x :: st) n h := by
  intro p e s m args below meth c H locs cells slots mc ms ls' F h1 h2 hR hS hl
  exact lv_lrem F.1 F.2.1 hd hne (k p e s m args below meth c H locs cells slots mc ms ls' F h1 h2 hR hS hl)
theorem aw_ishl {x y : Int32} (hd : decode mi.2.1 pc = .ok (.ishl, 1))  (k : aw l E mi Z d bc bs (pc + 1) ls (.int (x <<< (y &&& 31)) :: st) n h) : aw l E mi Z d bc bs pc ls (.int y :: .int x :: st) n h := by
  intro p e s m args below meth c H locs cells slots mc ms ls' F h1 h2 hR hS hl
  exact lv_ishl F.1 F.2.1 hd  (k p e s m args below meth c H locs cells slots mc ms ls' F h1 h2 hR hS hl)
theorem aw_ishr {x y : Int32} (hd : decode mi.2.1 pc = .ok (.ishr, 1))  (k : aw l E mi Z d bc bs (pc + 1) ls (.int (x >>> (y &&& 31)) :: st) n h) : aw l E mi Z d bc bs pc ls (.int y :: .int x :: st) n h := by
  intro p e s m args below meth c H locs cells slots mc ms ls' F h1 h2 hR hS hl
  exact lv_ishr F.1 F.2.1 hd  (k p e s m args below meth c H locs cells slots mc ms ls' F h1 h2 hR hS hl)
theorem aw_iushr {x y v : Int32} (hd : decode mi.2.1 pc = .ok (.iushr, 1)) (hv : (x.toUInt32 >>> (y.toUInt32 &&& Int32.toUInt32 31)).toInt32 = v) (k : aw l E mi Z d bc bs (pc + 1) ls (.int v :: st) n h) : aw l E mi Z d bc bs pc ls (.int y :: .int x :: st) n h := by
  intro p e s m args below meth c H locs cells slots mc ms ls' F h1 h2 hR hS hl
  exact lv_iushr F.1 F.2.1 hd hv (k p e s m args below meth c H locs cells slots mc ms ls' F h1 h2 hR hS hl)
theorem aw_ineg {x : Int32} (hd : decode mi.2.1 pc = .ok (.ineg, 1))  (k : aw l E mi Z d bc bs (pc + 1) ls (.int (-x) :: st) n h) : aw l E mi Z d bc bs pc ls (.int x :: st) n h := by
  intro p e s m args below meth c H locs cells slots mc ms ls' F h1 h2 hR hS hl
  exact lv_ineg F.1 F.2.1 hd  (k p e s m args below meth c H locs cells slots mc ms ls' F h1 h2 hR hS hl)
theorem aw_i2l {x : Int32} {v : Int64} (hd : decode mi.2.1 pc = .ok (.i2l, 1)) (hv : x.toInt64 = v) (k : aw l E mi Z d bc bs (pc + 1) ls (.long v :: st) n h) : aw l E mi Z d bc bs pc ls (.int x :: st) n h := by
  intro p e s m args below meth c H locs cells slots mc ms ls' F h1 h2 hR hS hl
  exact lv_i2l F.1 F.2.1 hd hv (k p e s m args below meth c H locs cells slots mc ms ls' F h1 h2 hR hS hl)
theorem aw_l2i {x : Int64} {v : Int32} (hd : decode mi.2.1 pc = .ok (.l2i, 1)) (hv : x.toInt32 = v) (k : aw l E mi Z d bc bs (pc + 1) ls (.int v :: st) n h) : aw l E mi Z d bc bs pc ls (.long x :: st) n h := by
  intro p e s m args below meth c H locs cells slots mc ms ls' F h1 h2 hR hS hl
  exact lv_l2i F.1 F.2.1 hd hv (k p e s m args below meth c H locs cells slots mc ms ls' F h1 h2 hR hS hl)
theorem aw_i2c {x v : Int32} (hd : decode mi.2.1 pc = .ok (.i2c, 1)) (hv : (x.toUInt32 % 65536).toInt32 = v) (k : aw l E mi Z d bc bs (pc + 1) ls (.int v :: st) n h) : aw l E mi Z d bc bs pc ls (.int x :: st) n h := by
  intro p e s m args below meth c H locs cells slots mc ms ls' F h1 h2 hR hS hl
  exact lv_i2c F.1 F.2.1 hd hv (k p e s m args below meth c H locs cells slots mc ms ls' F h1 h2 hR hS hl)
theorem aw_lcmp {x y : Int64} (hd : decode mi.2.1 pc = .ok (.lcmp, 1))  (k : aw l E mi Z d bc bs (pc + 1) ls (.int (lg_cmp x y) :: st) n h) : aw l E mi Z d bc bs pc ls (.long y :: .long x :: st) n h := by
  intro p e s m args below meth c H locs cells slots mc ms ls' F h1 h2 hR hS hl
  exact W.lcmp F.1 F.2.1 hd  (k p e s m args below meth c H locs cells slots mc ms ls' F h1 h2 hR hS hl)
theorem aw_dup {va : Value} (hd : decode mi.2.1 pc = .ok (.dup, 1)) (hva : va.category = 1) (k : aw l E mi Z d bc bs (pc + 1) ls (va :: va :: st) n h) : aw l E mi Z d bc bs pc ls (va :: st) n h := by
  intro p e s m args below meth c H locs cells slots mc ms ls' F h1 h2 hR hS hl
  exact lv_dup F.1 F.2.1 hd hva (k p e s m args below meth c H locs cells slots mc ms ls' F h1 h2 hR hS hl)
theorem aw_pop {va : Value} (hd : decode mi.2.1 pc = .ok (.pop, 1)) (hva : va.category = 1) (k : aw l E mi Z d bc bs (pc + 1) ls (st) n h) : aw l E mi Z d bc bs pc ls (va :: st) n h := by
  intro p e s m args below meth c H locs cells slots mc ms ls' F h1 h2 hR hS hl
  exact lv_pop F.1 F.2.1 hd hva (k p e s m args below meth c H locs cells slots mc ms ls' F h1 h2 hR hS hl)
theorem aw_dup2 {va vb : Value} (hd : decode mi.2.1 pc = .ok (.dup2, 1)) (hva : va.category = 1) (hvb : vb.category = 1) (k : aw l E mi Z d bc bs (pc + 1) ls (va :: vb :: va :: vb :: st) n h) : aw l E mi Z d bc bs pc ls (va :: vb :: st) n h := by
  intro p e s m args below meth c H locs cells slots mc ms ls' F h1 h2 hR hS hl
  exact lv_dup2_11 F.1 F.2.1 hd hva hvb (k p e s m args below meth c H locs cells slots mc ms ls' F h1 h2 hR hS hl)
theorem aw_dup_x1 {va vb : Value} (hd : decode mi.2.1 pc = .ok (.dup_x1, 1)) (hva : va.category = 1) (hvb : vb.category = 1) (k : aw l E mi Z d bc bs (pc + 1) ls (va :: vb :: va :: st) n h) : aw l E mi Z d bc bs pc ls (va :: vb :: st) n h := by
  intro p e s m args below meth c H locs cells slots mc ms ls' F h1 h2 hR hS hl
  exact lv_dup_x1 F.1 F.2.1 hd hva hvb (k p e s m args below meth c H locs cells slots mc ms ls' F h1 h2 hR hS hl)
theorem aw_if_eq {x : Int32} {off : Int} {tgt : Nat} (hd : decode mi.2.1 pc = .ok (.ifCond .eq off, 3)) (ht : (pc : Int) + off = (tgt : Int)) (kt : x = 0 → aw l E mi Z d bc bs tgt ls st n h) (kf : ¬ x = 0 → aw l E mi Z d bc bs (pc + 3) ls st n h) : aw l E mi Z d bc bs pc ls (.int x :: st) n h := by
  intro p e s m args below meth c H locs cells slots mc ms ls' F h1 h2 hR hS hl
  exact lv_if_eq F.1 F.2.1 hd ht (fun cq => kt cq p e s m args below meth c H locs cells slots mc ms ls' F h1 h2 hR hS hl) (fun cq => kf cq p e s m args below meth c H locs cells slots mc ms ls' F h1 h2 hR hS hl)
theorem aw_icmp_eq {x y : Int32} {off : Int} {tgt : Nat} (hd : decode mi.2.1 pc = .ok (.if_icmp .eq off, 3)) (ht : (pc : Int) + off = (tgt : Int)) (kt : x = y → aw l E mi Z d bc bs tgt ls st n h) (kf : ¬ x = y → aw l E mi Z d bc bs (pc + 3) ls st n h) : aw l E mi Z d bc bs pc ls (.int y :: .int x :: st) n h := by
  intro p e s m args below meth c H locs cells slots mc ms ls' F h1 h2 hR hS hl
  exact lv_icmp_eq F.1 F.2.1 hd ht (fun cq => kt cq p e s m args below meth c H locs cells slots mc ms ls' F h1 h2 hR hS hl) (fun cq => kf cq p e s m args below meth c H locs cells slots mc ms ls' F h1 h2 hR hS hl)
theorem aw_if_ne {x : Int32} {off : Int} {tgt : Nat} (hd : decode mi.2.1 pc = .ok (.ifCond .ne off, 3)) (ht : (pc : Int) + off = (tgt : Int)) (kt : ¬ x = 0 → aw l E mi Z d bc bs tgt ls st n h) (kf : x = 0 → aw l E mi Z d bc bs (pc + 3) ls st n h) : aw l E mi Z d bc bs pc ls (.int x :: st) n h := by
  intro p e s m args below meth c H locs cells slots mc ms ls' F h1 h2 hR hS hl
  exact lv_if_ne F.1 F.2.1 hd ht (fun cq => kt cq p e s m args below meth c H locs cells slots mc ms ls' F h1 h2 hR hS hl) (fun cq => kf cq p e s m args below meth c H locs cells slots mc ms ls' F h1 h2 hR hS hl)
theorem aw_icmp_ne {x y : Int32} {off : Int} {tgt : Nat} (hd : decode mi.2.1 pc = .ok (.if_icmp .ne off, 3)) (ht : (pc : Int) + off = (tgt : Int)) (kt : ¬ x = y → aw l E mi Z d bc bs tgt ls st n h) (kf : x = y → aw l E mi Z d bc bs (pc + 3) ls st n h) : aw l E mi Z d bc bs pc ls (.int y :: .int x :: st) n h := by
  intro p e s m args below meth c H locs cells slots mc ms ls' F h1 h2 hR hS hl
  exact lv_icmp_ne F.1 F.2.1 hd ht (fun cq => kt cq p e s m args below meth c H locs cells slots mc ms ls' F h1 h2 hR hS hl) (fun cq => kf cq p e s m args below meth c H locs cells slots mc ms ls' F h1 h2 hR hS hl)
theorem aw_if_lt {x : Int32} {off : Int} {tgt : Nat} (hd : decode mi.2.1 pc = .ok (.ifCond .lt off, 3)) (ht : (pc : Int) + off = (tgt : Int)) (kt : x < 0 → aw l E mi Z d bc bs tgt ls st n h) (kf : ¬ x < 0 → aw l E mi Z d bc bs (pc + 3) ls st n h) : aw l E mi Z d bc bs pc ls (.int x :: st) n h := by
  intro p e s m args below meth c H locs cells slots mc ms ls' F h1 h2 hR hS hl
  exact lv_if_lt F.1 F.2.1 hd ht (fun cq => kt cq p e s m args below meth c H locs cells slots mc ms ls' F h1 h2 hR hS hl) (fun cq => kf cq p e s m args below meth c H locs cells slots mc ms ls' F h1 h2 hR hS hl)
theorem aw_icmp_lt {x y : Int32} {off : Int} {tgt : Nat} (hd : decode mi.2.1 pc = .ok (.if_icmp .lt off, 3)) (ht : (pc : Int) + off = (tgt : Int)) (kt : x < y → aw l E mi Z d bc bs tgt ls st n h) (kf : ¬ x < y → aw l E mi Z d bc bs (pc + 3) ls st n h) : aw l E mi Z d bc bs pc ls (.int y :: .int x :: st) n h := by
  intro p e s m args below meth c H locs cells slots mc ms ls' F h1 h2 hR hS hl
  exact lv_icmp_lt F.1 F.2.1 hd ht (fun cq => kt cq p e s m args below meth c H locs cells slots mc ms ls' F h1 h2 hR hS hl) (fun cq => kf cq p e s m args below meth c H locs cells slots mc ms ls' F h1 h2 hR hS hl)
theorem aw_if_ge {x : Int32} {off : Int} {tgt : Nat} (hd : decode mi.2.1 pc = .ok (.ifCond .ge off, 3)) (ht : (pc : Int) + off = (tgt : Int)) (kt : 0 ≤ x → aw l E mi Z d bc bs tgt ls st n h) (kf : ¬ 0 ≤ x → aw l E mi Z d bc bs (pc + 3) ls st n h) : aw l E mi Z d bc bs pc ls (.int x :: st) n h := by
  intro p e s m args below meth c H locs cells slots mc ms ls' F h1 h2 hR hS hl
  exact lv_if_ge F.1 F.2.1 hd ht (fun cq => kt cq p e s m args below meth c H locs cells slots mc ms ls' F h1 h2 hR hS hl) (fun cq => kf cq p e s m args below meth c H locs cells slots mc ms ls' F h1 h2 hR hS hl)
theorem aw_icmp_ge {x y : Int32} {off : Int} {tgt : Nat} (hd : decode mi.2.1 pc = .ok (.if_icmp .ge off, 3)) (ht : (pc : Int) + off = (tgt : Int)) (kt : y ≤ x → aw l E mi Z d bc bs tgt ls st n h) (kf : ¬ y ≤ x → aw l E mi Z d bc bs (pc + 3) ls st n h) : aw l E mi Z d bc bs pc ls (.int y :: .int x :: st) n h := by
  intro p e s m args below meth c H locs cells slots mc ms ls' F h1 h2 hR hS hl
  exact lv_icmp_ge F.1 F.2.1 hd ht (fun cq => kt cq p e s m args below meth c H locs cells slots mc ms ls' F h1 h2 hR hS hl) (fun cq => kf cq p e s m args below meth c H locs cells slots mc ms ls' F h1 h2 hR hS hl)
theorem aw_if_gt {x : Int32} {off : Int} {tgt : Nat} (hd : decode mi.2.1 pc = .ok (.ifCond .gt off, 3)) (ht : (pc : Int) + off = (tgt : Int)) (kt : 0 < x → aw l E mi Z d bc bs tgt ls st n h) (kf : ¬ 0 < x → aw l E mi Z d bc bs (pc + 3) ls st n h) : aw l E mi Z d bc bs pc ls (.int x :: st) n h := by
  intro p e s m args below meth c H locs cells slots mc ms ls' F h1 h2 hR hS hl
  exact lv_if_gt F.1 F.2.1 hd ht (fun cq => kt cq p e s m args below meth c H locs cells slots mc ms ls' F h1 h2 hR hS hl) (fun cq => kf cq p e s m args below meth c H locs cells slots mc ms ls' F h1 h2 hR hS hl)
theorem aw_icmp_gt {x y : Int32} {off : Int} {tgt : Nat} (hd : decode mi.2.1 pc = .ok (.if_icmp .gt off, 3)) (ht : (pc : Int) + off = (tgt : Int)) (kt : y < x → aw l E mi Z d bc bs tgt ls st n h) (kf : ¬ y < x → aw l E mi Z d bc bs (pc + 3) ls st n h) : aw l E mi Z d bc bs pc ls (.int y :: .int x :: st) n h := by
  intro p e s m args below meth c H locs cells slots mc ms ls' F h1 h2 hR hS hl
  exact lv_icmp_gt F.1 F.2.1 hd ht (fun cq => kt cq p e s m args below meth c H locs cells slots mc ms ls' F h1 h2 hR hS hl) (fun cq => kf cq p e s m args below meth c H locs cells slots mc ms ls' F h1 h2 hR hS hl)
theorem aw_if_le {x : Int32} {off : Int} {tgt : Nat} (hd : decode mi.2.1 pc = .ok (.ifCond .le off, 3)) (ht : (pc : Int) + off = (tgt : Int)) (kt : x ≤ 0 → aw l E mi Z d bc bs tgt ls st n h) (kf : ¬ x ≤ 0 → aw l E mi Z d bc bs (pc + 3) ls st n h) : aw l E mi Z d bc bs pc ls (.int x :: st) n h := by
  intro p e s m args below meth c H locs cells slots mc ms ls' F h1 h2 hR hS hl
  exact lv_if_le F.1 F.2.1 hd ht (fun cq => kt cq p e s m args below meth c H locs cells slots mc ms ls' F h1 h2 hR hS hl) (fun cq => kf cq p e s m args below meth c H locs cells slots mc ms ls' F h1 h2 hR hS hl)
theorem aw_icmp_le {x y : Int32} {off : Int} {tgt : Nat} (hd : decode mi.2.1 pc = .ok (.if_icmp .le off, 3)) (ht : (pc : Int) + off = (tgt : Int)) (kt : x ≤ y → aw l E mi Z d bc bs tgt ls st n h) (kf : ¬ x ≤ y → aw l E mi Z d bc bs (pc + 3) ls st n h) : aw l E mi Z d bc bs pc ls (.int y :: .int x :: st) n h := by
  intro p e s m args below meth c H locs cells slots mc ms ls' F h1 h2 hR hS hl
  exact lv_icmp_le F.1 F.2.1 hd ht (fun cq => kt cq p e s m args below meth c H locs cells slots mc ms ls' F h1 h2 hR hS hl) (fun cq => kf cq p e s m args below meth c H locs cells slots mc ms ls' F h1 h2 hR hS hl)
theorem aw_goto {off : Int} {tgt : Nat} (hd : decode mi.2.1 pc = .ok (.goto off, 3)) (ht : (pc : Int) + off = (tgt : Int)) (k : aw l E mi Z d bc bs tgt ls st n h) : aw l E mi Z d bc bs pc ls st n h := by
  intro p e s m args below meth c H locs cells slots mc ms ls' F h1 h2 hR hS hl
  exact lv_goto F.1 F.2.1 hd ht (k p e s m args below meth c H locs cells slots mc ms ls' F h1 h2 hR hS hl)
theorem aw_ifnonnull {x : Nat} {off : Int} {tgt : Nat} (hd : decode mi.2.1 pc = .ok (.ifnonnull off, 3)) (ht : (pc : Int) + off = (tgt : Int)) (k : aw l E mi Z d bc bs tgt ls st n h) : aw l E mi Z d bc bs pc ls (.ref x :: st) n h := by
  intro p e s m args below meth c H locs cells slots mc ms ls' F h1 h2 hR hS hl
  exact lv_ifnonnull F.1 F.2.1 hd ht (k p e s m args below meth c H locs cells slots mc ms ls' F h1 h2 hR hS hl)
theorem aw_ifnonnullN {off : Int} (hd : decode mi.2.1 pc = .ok (.ifnonnull off, 3)) (k : aw l E mi Z d bc bs (pc + 3) ls st n h) : aw l E mi Z d bc bs pc ls (.null :: st) n h := by
  intro p e s m args below meth c H locs cells slots mc ms ls' F h1 h2 hR hS hl
  exact lv_ifnonnullN F.1 F.2.1 hd (k p e s m args below meth c H locs cells slots mc ms ls' F h1 h2 hR hS hl)
theorem aw_tableOut {dflt lo hi : Int} {offs : Array Int} {len : Nat} {x : Int32} {tgt : Nat} (hd : decode mi.2.1 pc = .ok (.tableswitch dflt lo hi offs, len)) (hx : x.toInt < lo ∨ hi < x.toInt) (ht : (pc : Int) + dflt = (tgt : Int)) (k : aw l E mi Z d bc bs tgt ls st n h) : aw l E mi Z d bc bs pc ls (.int x :: st) n h := by
  intro p e s m args below meth c H locs cells slots mc ms ls' F h1 h2 hR hS hl
  exact lv_tableOut F.1 F.2.1 hd hx ht (k p e s m args below meth c H locs cells slots mc ms ls' F h1 h2 hR hS hl)
theorem aw_tableIn {dflt lo hi : Int} {offs : Array Int} {len : Nat} {x : Int32} {off : Int} {tgt : Nat} (hd : decode mi.2.1 pc = .ok (.tableswitch dflt lo hi offs, len)) (hx1 : ¬ x.toInt < lo) (hx2 : ¬ hi < x.toInt) (ho : offs[(x.toInt - lo).toNat]? = some off) (ht : (pc : Int) + off = (tgt : Int)) (k : aw l E mi Z d bc bs tgt ls st n h) : aw l E mi Z d bc bs pc ls (.int x :: st) n h := by
  intro p e s m args below meth c H locs cells slots mc ms ls' F h1 h2 hR hS hl
  exact lv_tableIn F.1 F.2.1 hd hx1 hx2 ho ht (k p e s m args below meth c H locs cells slots mc ms ls' F h1 h2 hR hS hl)
theorem aw_lookup {dflt : Int} {ps : Array (Int × Int)} {len : Nat} {x : Int32} {off : Int} {tgt : Nat} (hd : decode mi.2.1 pc = .ok (.lookupswitch dflt ps, len)) (hp : (ps.toList.zip (ps.toList.drop 1)).all (fun (a, next) => a.1 < next.1) = true) (ho : Op.lookupswitch.offset ps.toList dflt x.toInt = off) (ht : (pc : Int) + off = (tgt : Int)) (k : aw l E mi Z d bc bs tgt ls st n h) : aw l E mi Z d bc bs pc ls (.int x :: st) n h := by
  intro p e s m args below meth c H locs cells slots mc ms ls' F h1 h2 hR hS hl
  exact lv_lookup F.1 F.2.1 hd hp ho ht (k p e s m args below meth c H locs cells slots mc ms ls' F h1 h2 hR hS hl)
theorem aw_ldc {i : Nat} {v : Int32} (hd : decode mi.2.1 pc = .ok (.ldc i, 2)) (hc : Cond.constant mi.1.cls i v ∈ aw_T) (k : aw l E mi Z d bc bs (pc + 2) ls (.int v :: st) n h) : aw l E mi Z d bc bs pc ls st n h := by
  intro p e s m args below meth c H locs cells slots mc ms ls' F h1 h2 hR hS hl
  exact lv_ldc F.1 F.2.1 F.2.2.2.2.1 (F.2.2.2.2.2.1 _ hc) hd (k p e s m args below meth c H locs cells slots mc ms ls' F h1 h2 hR hS hl)
theorem aw_ldcw {i : Nat} {v : Int32} (hd : decode mi.2.1 pc = .ok (.ldc_w i, 3)) (hc : Cond.constant mi.1.cls i v ∈ aw_T) (k : aw l E mi Z d bc bs (pc + 3) ls (.int v :: st) n h) : aw l E mi Z d bc bs pc ls st n h := by
  intro p e s m args below meth c H locs cells slots mc ms ls' F h1 h2 hR hS hl
  exact lv_ldcw F.1 F.2.1 F.2.2.2.2.1 (F.2.2.2.2.2.1 _ hc) hd (k p e s m args below meth c H locs cells slots mc ms ls' F h1 h2 hR hS hl)
theorem aw_ldc2 {i : Nat} {v : Int64} (hd : decode mi.2.1 pc = .ok (.ldc2_w i, 3)) (hc : Cond.constantLong mi.1.cls i v ∈ aw_T) (k : aw l E mi Z d bc bs (pc + 3) ls (.long v :: st) n h) : aw l E mi Z d bc bs pc ls st n h := by
  intro p e s m args below meth c H locs cells slots mc ms ls' F h1 h2 hR hS hl
  exact lv_ldc2 F.1 F.2.1 F.2.2.2.2.1 (F.2.2.2.2.2.1 _ hc) hd (k p e s m args below meth c H locs cells slots mc ms ls' F h1 h2 hR hS hl)
end AW
end
section
/-! ROWS OF THE ABSTRACT WALK that touch the heap, calls, ends. -/
theorem aw_goodT {w : Cond} (h : w ∈ aw_T) : goodWord w = true := (List.mem_filter.mp h).2
theorem aw_goodIn {w : Cond} (h : w ∈ aw_T) : GoodIn aw_T (w :: aw_T) := by
  intro v hv
  have hm : v ∈ aw_T := by
    rcases List.mem_cons.mp hv with e | e
    · rw [e]; exact h
    · exact e
  exact ⟨hm, good_of_word (aw_goodT hm)⟩
theorem aw_P1 {D : va_G} {cl : List vw_C} {q : Nat × va_E} {H : Heap} (h : va_at D cl q H) : va_P D cl [q] H := by
  intro k q' hq
  match k, hq with
  | 0, hq => cases hq; exact h
  | k + 1, hq => simp at hq
theorem aw_at_kept {E : aw_E} {a : Nat} {e : ae} {H H1 : Heap} (h : aw_at E a e H) (hq : H1[a]? = H[a]?) : aw_at E a e H1 := by
  obtain ⟨n, f⟩ | ⟨t, n, g⟩ | o := e
  · show H1[a]? = _
    rw [hq]; exact h
  · exact ⟨h.1, by rw [hq]; exact h.2⟩
  · exact va_at.kept (D := E.1) (cl := vwCl) (q := (a, .inr o)) h hq
theorem aw_O {E : aw_E} {n a ci : Nat} {fs : List Value} {h : ah} {H : Heap} (hR : aw_R E n h H) (hh : h a = some (aO ci fs)) : va_P E.1 vwCl [(a, .inr (ci, fs))] H := aw_P1 (q := (a, .inr (ci, fs))) (hR.2 a _ hh).2
theorem aw_at_lt {E : aw_E} {a : Nat} {e : ae} {H : Heap} (h : aw_at E a e H) : a < H.size := by
  obtain ⟨n, f⟩ | ⟨t, n, g⟩ | o := e
  · exact (Array.getElem?_eq_some_iff.mp (show H[a]? = some _ from h)).1
  · exact (Array.getElem?_eq_some_iff.mp h.2).1
  · exact va_at.lt (q := (a, .inr o)) h
theorem aw_R_set {E : aw_E} {n a : Nat} {h : ah} {e : ae} {H H1 : Heap} (hR : aw_R E n h H) (ha : E.2.2.1 ≤ a) (hz : H1.size = H.size) (ho : ∀ q : Nat, q ≠ a → H1[q]? = H[q]?) (hat : aw_at E a e H1) : aw_R E n (ah_set h a e) H1 := by
  refine ⟨hz.trans hR.1, fun b e' hb => ?_⟩
  by_cases hq : b = a
  · subst hq
    rw [ah_set_eq] at hb
    cases hb
    exact ⟨ha, hat⟩
  · rw [ah_set_ne h e hq] at hb
    exact ⟨(hR.2 b e' hb).1, aw_at_kept (hR.2 b e' hb).2 (ho b hq)⟩
theorem aw_R_new {E : aw_E} {n : Nat} {h : ah} {e : ae} {H H1 : Heap} (hR : aw_R E n h H) (hE : E.2.2.1 ≤ H.size) (hz : H1.size = H.size + 1) (ho : ∀ q : Nat, q < H.size → H1[q]? = H[q]?) (hat : aw_at E n e H1) : aw_R E (n + 1) (ah_set h n e) H1 := by
  refine ⟨by rw [hz, hR.1], fun b e' hb => ?_⟩
  by_cases hq : b = n
  · subst hq
    rw [ah_set_eq] at hb
    cases hb
    exact ⟨by rw [← hR.1]; exact hE, hat⟩
  · rw [ah_set_ne h e hq] at hb
    exact ⟨(hR.2 b e' hb).1, aw_at_kept (hR.2 b e' hb).2 (ho b (aw_at_lt (hR.2 b e' hb).2))⟩
/-- the field that entry idx of own's pool names is number k of class ci -/
def aw_fl (own : String) (idx ci k : Nat) : Prop := ∃ (C : String) (T : u_T) (N : Nat), vwCl[ci]? = some (C, T, N) ∧ k < N ∧ (∀ w ∈ u_ws C T N, w ∈ aw_T) ∧ Cond.fieldLink own idx (T k).1 (T k).2.1 (T k).2.2.1 ∈ aw_T
/-- it may be stored to, with values of type ty; fin: it is final (of own, stored in its constructor) -/
def aw_fp (own : String) (idx ci k : Nat) (fin : Bool) (ty : FieldType) : Prop := ∃ (C : String) (T : u_T) (N : Nat) (ty0 : Nat → FieldType), vwCl[ci]? = some (C, T, N) ∧ k < N ∧ (∀ w ∈ u_ws C T N, w ∈ aw_T) ∧ Cond.fieldLink own idx (T k).1 (T k).2.1 (T k).2.2.1 ∈ aw_T ∧ (T k).2.2.2 = fin ∧ parseFieldDescriptor (T k).2.2.1 = some ty ∧ (∀ k, k < N → parseFieldDescriptor (T k).2.2.1 = some (ty0 k)) ∧ (∀ a, a < N → ∀ b, b < N → a ≠ b → (T a).2.1 ≠ (T b).2.1) ∧ (fin = true → (T k).1 = own)
def aw_nw (own : String) (idx ci : Nat) (fs : List Value) (N : Nat) : Prop := ∃ (C : String) (T : u_T) (ty0 : Nat → FieldType), vwCl[ci]? = some (C, T, N) ∧ (∀ w ∈ u_ws C T N, w ∈ aw_T) ∧ (∀ k, k < N → parseFieldDescriptor (T k).2.2.1 = some (ty0 k)) ∧ Cond.classLink own idx C ∈ aw_T ∧ Cond.instantiable C N ∈ aw_T ∧ Cond.initialized C ∈ aw_T ∧ (∀ j, j < N → defaultValue (ty0 j) = vp_V fs j)
def aw_cm (yi : aw_M) (np : Nat) : Prop := Cond.code yi.1 yi.2.1 yi.2.2.1 yi.2.2.2 ∈ aw_T ∧ Cond.initialized yi.1.cls ∈ aw_T ∧ (yi.1.cls ≠ "java/lang/invoke/MethodHandle" ∧ yi.1.cls ≠ "java/lang/invoke/VarHandle" ∧ (parseMethodDescriptor yi.1.desc).map (fun d => d.parameters.length) = some np) ∧ yi.2.2.1 ≤ 15
def aw_cV (own : String) (idx ci : Nat) (yi : aw_M) : Prop := ∃ r : vw_C, vwCl[ci]? = some r ∧ Cond.methodLink own idx yi.1 ∈ aw_T ∧ Cond.instanceMethod yi.1 ∈ aw_T ∧ Cond.selects r.1 yi.1 yi.1 ∈ aw_T
def aw_cS (own : String) (idx : Nat) (yi : aw_M) : Prop := Cond.methodLink own idx yi.1 ∈ aw_T ∧ Cond.static yi.1 ∈ aw_T
def aw_cI (own : String) (idx : Nat) (yi : aw_M) : Prop := Cond.methodLink own idx yi.1 ∈ aw_T ∧ Cond.instanceMethod yi.1 ∈ aw_T ∧ yi.1.name = "<init>" ∧ yi.2.2.2 = none
def aw_cO (own : String) (idx ci : Nat) (x : MethodName) (yi : aw_M) : Prop := ∃ (r : vw_C) (b0 : ByteArray) (m0 : Nat) (r0 : Option FieldType), vwCl[ci]? = some r ∧ Cond.methodLink own idx x ∈ aw_T ∧ Cond.sameMethod x.cls x.cls x.name x.desc ∈ aw_T ∧ Cond.instanceMethod x ∈ aw_T ∧ Cond.selects r.1 x yi.1 ∈ aw_T ∧ Cond.instanceMethod yi.1 ∈ aw_T ∧ Cond.code x b0 m0 r0 ∈ aw_T ∧ x.name = yi.1.name ∧ x.desc = yi.1.desc ∧ x.cls ≠ "java/lang/invoke/MethodHandle" ∧ x.cls ≠ "java/lang/invoke/VarHandle"
def aw_cU (own : String) (idx : Nat) (yi : aw_M) : Prop := Cond.methodLink own idx yi.1 ∈ aw_T ∧ Cond.sameMethod yi.1.cls yi.1.cls yi.1.name yi.1.desc ∈ aw_T ∧ Cond.superclass own yi.1.cls ∈ aw_T ∧ Cond.instanceMethod yi.1 ∈ aw_T ∧ yi.1.name ≠ "<init>"
section AWH
variable {l : Launch} {E : aw_E} {mi : aw_M} {Z : aw_Zt} {d bc bs pc : Nat} {ls : List (Nat × Value)} {st : List Value} {n : Nat} {h : ah}
theorem aw_get {i ci k a : Nat} {fs : List Value} {v : Value} (hd : decode mi.2.1 pc = .ok (.getfield i, 3)) (hf : aw_fl mi.1.cls i ci k) (hh : h a = some (aO ci fs)) (hv : fs[k]? = some v) (kk : aw l E mi Z d bc bs (pc + 3) ls (v :: st) n h) : aw l E mi Z d bc bs pc ls (.ref a :: st) n h := by
  intro p e s m args below meth c H locs cells slots mc ms ls' F h1 h2 hR hS hl
  obtain ⟨C, T, N, hc, hk, hin, hlk⟩ := hf
  exact va_get (D := E.1) (cl := vwCl) (ws := [(a, .inr (ci, fs))]) F.1 F.2.1 F.2.2.2.2.2.1 hin F.2.2.2.2.1 F.2.2.2.2.2.2.2.2.1 (aw_P1 (hR.2 a _ hh).2) 0 rfl hc k hk (F.2.2.2.2.2.1 _ hlk) (fun _ x => x) hv hd (kk p e s m args below meth c H locs cells slots mc ms ls' F h1 h2 hR hS hl)
theorem aw_put {i ci k a : Nat} {fs : List Value} {v : Value} {ty : FieldType} (hd : decode mi.2.1 pc = .ok (.putfield i, 3)) (hf : aw_fp mi.1.cls i ci k false ty) (hh : h a = some (aO ci fs)) (hl0 : k < fs.length) (hn : narrow ty v = v) (hfit : fits ty v = true) (kk : aw l E mi Z d bc bs (pc + 3) ls st n (ah_set h a (aO ci (fs.set k v)))) : aw l E mi Z d bc bs pc ls (v :: .ref a :: st) n h := by
  intro p e s m args below meth c H locs cells slots mc ms ls' F h1 h2 hR hS hl
  obtain ⟨C, T, N, ty0, hc, hk, hin, hlk, hfin, hpd, hty, hnm, -⟩ := hf
  have hts := F.2.2.2.2.2.1
  have hown := F.2.2.2.2.1
  have hK : va_K E.1 vwCl (aw_tys E) s := F.2.2.2.2.2.2.2.2.1
  have hap := va_apart (own := mi.1.cls) hts hin ty0 hty hnm hK hc
  obtain ⟨hba, hat⟩ := hR.2 a _ hh
  obtain ⟨r, g1, cell, q1, q2, q3, q4⟩ := hat
  have hr : r = (C, T, N) := Option.some.inj (g1.symm.trans hc)
  subst hr
  obtain ⟨hSl, hfc, kC, hkC, hkind⟩ := hK.1 ci _ hc
  obtain ⟨cf, kf, fi, f, hi, hsl⟩ := hSl k hk
  have hlay := hts _ (hin _ (u_in_lay hk))
  unfold u_lay at hlay
  rw [if_neg (by rw [hfin]; decide)] at hlay
  have hst := (u_facts hfc hkC (u_lays hts hin hk) hi).1
  have h6 := u_store hfc hkC hkind hlay hi hpd hn hfit
  refine W.putK F.1 F.2.1 (f := f) ⟨hown, hts _ hlk, ⟨_, _, _, hi⟩, hst⟩ (by rw [q2]; exact h6) q1 q3 (by rw [hsl]; exact k2_hasslot (q4 k hk)) rfl rfl hd fun H' e1 e2 e3 => ?_
  rw [hsl] at e1 ⊢
  exact kk p e s m args below meth c H' _ cells slots mc ms ls' F h1 h2 (aw_R_set hR hba e2 e3 ⟨_, hc, t_OB.to (V := updV (vp_V fs) k v) ⟨_, e1, q2, q3, t_set q4 hap hk v⟩ (fun j _ => vp_updV_set hl0 v j)⟩) (hS.put e2 e3 hba) hl
theorem aw_putF {i ci k a : Nat} {fs : List Value} {v : Value} {ty : FieldType} (hd : decode mi.2.1 pc = .ok (.putfield i, 3)) (hf : aw_fp mi.1.cls i ci k true ty) (hini : mi.1.name = "<init>") (hh : h a = some (aO ci fs)) (hl0 : k < fs.length) (hn : narrow ty v = v) (hfit : fits ty v = true) (kk : aw l E mi Z d bc bs (pc + 3) ls st n (ah_set h a (aO ci (fs.set k v)))) : aw l E mi Z d bc bs pc ls (v :: .ref a :: st) n h := by
  intro p e s m args below meth c H locs cells slots mc ms ls' F h1 h2 hR hS hl
  obtain ⟨C, T, N, ty0, hc, hk, hin, hlk, hfin, hpd, hty, hnm, hde⟩ := hf
  have hdecl := hde rfl
  have hts := F.2.2.2.2.2.1
  have hown := F.2.2.2.2.1
  have hK : va_K E.1 vwCl (aw_tys E) s := F.2.2.2.2.2.2.2.2.1
  have hap := va_apart (own := mi.1.cls) hts hin ty0 hty hnm hK hc
  obtain ⟨hba, hat⟩ := hR.2 a _ hh
  obtain ⟨r, g1, cell, q1, q2, q3, q4⟩ := hat
  have hr : r = (C, T, N) := Option.some.inj (g1.symm.trans hc)
  subst hr
  obtain ⟨hSl, hfc, kC, hkC, hkind⟩ := hK.1 ci _ hc
  obtain ⟨cf, kf, fi, f, hi, hsl⟩ := hSl k hk
  have hlay := hts _ (hin _ (u_in_lay hk))
  unfold u_lay at hlay
  rw [if_pos hfin] at hlay
  have hst := (u_facts hfc hkC (u_lays hts hin hk) hi).1
  have hcf : m.cls = cf := by
    obtain ⟨_, _, c', _, _, _, -, -, hf', -, -, -, hown2, -⟩ := Cond.laysFinal_spec hlay
    have e1 : c' = cf := by have := hi.symm.trans hf'; simp at this; exact this.1.symm
    rw [hdecl] at hown2
    rw [← e1]; exact Option.some.inj (hown.symm.trans hown2)
  have h6 := u_fits hfc hkC hkind (Or.inr hlay) hi hpd hn hfit
  refine W.putFinK F.1 F.2.1 hown (hts _ hlk) hi hst hcf (F.2.2.2.2.2.2.2.1.trans hini) (by rw [q2]; exact h6) q1 q3 (by rw [hsl]; exact k2_hasslot (q4 k hk)) rfl rfl hd fun H' e1 e2 e3 => ?_
  rw [hsl] at e1 ⊢
  exact kk p e s m args below meth c H' _ cells slots mc ms ls' F h1 h2 (aw_R_set hR hba e2 e3 ⟨_, hc, t_OB.to (V := updV (vp_V fs) k v) ⟨_, e1, q2, q3, t_set q4 hap hk v⟩ (fun j _ => vp_updV_set hl0 v j)⟩) (hS.put e2 e3 hba) hl
theorem aw_iald {a N : Nat} {f : Nat → Int32} {i : Int32} (hd : decode mi.2.1 pc = .ok (.iaload, 1)) (hh : h a = some (aI N f)) (hin : vp_in i N) (kk : aw l E mi Z d bc bs (pc + 1) ls (.int (f i.toNatClampNeg) :: st) n h) : aw l E mi Z d bc bs pc ls (.int i :: .ref a :: st) n h := by
  intro p e s m args below meth c H locs cells slots mc ms ls' F h1 h2 hR hS hl
  exact va_iald (D := E.1) (cl := vwCl) (ws := [(a, .inl (E.2.1 0, N, .inl f))]) F.1 F.2.1 F.2.2.2.2.2.2.2.2.1 (aw_P1 (hR.2 a _ hh).2) 0 0 rfl rfl hin hd (kk p e s m args below meth c H locs cells slots mc ms ls' F h1 h2 hR hS hl)
theorem aw_iast {a N : Nat} {f : Nat → Int32} {i x : Int32} (hd : decode mi.2.1 pc = .ok (.iastore, 1)) (hh : h a = some (aI N f)) (hin : vp_in i N) (kk : aw l E mi Z d bc bs (pc + 1) ls st n (ah_set h a (aI N (upd f i.toNatClampNeg x)))) : aw l E mi Z d bc bs pc ls (.int x :: .int i :: .ref a :: st) n h := by
  intro p e s m args below meth c H locs cells slots mc ms ls' F h1 h2 hR hS hl
  obtain ⟨hba, hat⟩ := hR.2 a _ hh
  have hK : va_K E.1 vwCl (aw_tys E) s := F.2.2.2.2.2.2.2.2.1
  refine W.iast F.1 F.2.1 (show H[a]? = some _ from hat) ((hK.2 0 _ rfl).1 N (fun j => .int (f j))) (fun q => by cases q) (by show ¬ (i < 0 ∨ (arrV _ _ _).slots.size ≤ _); rw [arrV_size]; exact hin) rfl rfl hd fun H1 e1 z oq => ?_
  refine kk p e s m args below meth c H1 _ cells slots mc ms ls' F h1 h2 (aw_R_set hR hba z oq ?_) (hS.put z oq hba) hl
  show H1[a]? = some (vp_cell _ _)
  rw [e1]
  rw [vp_cell_i, vp_cell_i, arrV_store]
  congr 2
  funext q
  by_cases hq : q = i.toNatClampNeg
  · subst hq
    simp [updV, upd]
  · simp [updV, upd, hq]
theorem aw_alenI {a N : Nat} {f : Nat → Int32} {v : Int32} (hd : decode mi.2.1 pc = .ok (.arraylength, 1)) (hh : h a = some (aI N f)) (hv : Int32.ofNat N = v) (kk : aw l E mi Z d bc bs (pc + 1) ls (.int v :: st) n h) : aw l E mi Z d bc bs pc ls (.ref a :: st) n h := by
  intro p e s m args below meth c H locs cells slots mc ms ls' F h1 h2 hR hS hl
  exact va_alen (D := E.1) (cl := vwCl) (ws := [(a, .inl (E.2.1 0, N, .inl f))]) F.1 F.2.1 F.2.2.2.2.2.2.2.2.1 (aw_P1 (hR.2 a _ hh).2) 0 0 rfl rfl hv hd (kk p e s m args below meth c H locs cells slots mc ms ls' F h1 h2 hR hS hl)
theorem aw_alenR {a t N : Nat} {g : Nat → Option Nat} {v : Int32} (hd : decode mi.2.1 pc = .ok (.arraylength, 1)) (hh : h a = some (aR t N g)) (hv : Int32.ofNat N = v) (kk : aw l E mi Z d bc bs (pc + 1) ls (.int v :: st) n h) : aw l E mi Z d bc bs pc ls (.ref a :: st) n h := by
  intro p e s m args below meth c H locs cells slots mc ms ls' F h1 h2 hR hS hl
  obtain ⟨ht, hat⟩ := (hR.2 a _ hh).2
  have kw := kk p e s m args below meth c H locs cells slots mc ms ls' F h1 h2 hR hS hl
  rcases ht with rfl | rfl
  · exact va_alen (D := E.1) (cl := vwCl) (ws := [(a, .inl (E.2.1 1, N, .inr (.inr (.inr (.inr g)))))]) F.1 F.2.1 F.2.2.2.2.2.2.2.2.1 (aw_P1 hat) 0 1 rfl rfl hv hd kw
  · exact va_alen (D := E.1) (cl := vwCl) (ws := [(a, .inl (E.2.1 2, N, .inr (.inr (.inr (.inr g)))))]) F.1 F.2.1 F.2.2.2.2.2.2.2.2.1 (aw_P1 hat) 0 2 rfl rfl hv hd kw
theorem aw_aald {a t N : Nat} {g : Nat → Option Nat} {i : Int32} (hd : decode mi.2.1 pc = .ok (.aaload, 1)) (hh : h a = some (aR t N g)) (hin : vp_in i N) (kk : aw l E mi Z d bc bs (pc + 1) ls (va_rf (g i.toNatClampNeg) :: st) n h) : aw l E mi Z d bc bs pc ls (.int i :: .ref a :: st) n h := by
  intro p e s m args below meth c H locs cells slots mc ms ls' F h1 h2 hR hS hl
  obtain ⟨ht, hat⟩ := (hR.2 a _ hh).2
  have kw := kk p e s m args below meth c H locs cells slots mc ms ls' F h1 h2 hR hS hl
  rcases ht with rfl | rfl
  · exact va_aldq (D := E.1) (cl := vwCl) (ws := [(a, .inl (E.2.1 1, N, .inr (.inr (.inr (.inr g)))))]) F.1 F.2.1 F.2.2.2.2.2.2.2.2.1 (aw_P1 hat) 0 1 rfl rfl hin hd kw
  · exact va_aldq (D := E.1) (cl := vwCl) (ws := [(a, .inl (E.2.1 2, N, .inr (.inr (.inr (.inr g)))))]) F.1 F.2.1 F.2.2.2.2.2.2.2.2.1 (aw_P1 hat) 0 2 rfl rfl hin hd kw
/-- an object of class ci may lie in rows of kind t -/
def aw_ok (E : aw_E) (t ci : Nat) : Prop := ∃ r : vw_C, vwCl[ci]? = some r ∧ (r.1 = (if t = 1 then "HonestGold$Plain" else "HonestGold$Treasury") ∨ ∀ (U : State) (H : Heap), E.2.2.2 U H → ∃ cD cT : ClassId, U.vm.findClass r.1 = some cD ∧ U.vm.findClass (if t = 1 then "HonestGold$Plain" else "HonestGold$Treasury") = some cT ∧ U.vm.assignable cD cT = true)
theorem aw_aast {a t N v ci : Nat} {g : Nat → Option Nat} {fs : List Value} {i : Int32} (hd : decode mi.2.1 pc = .ok (.aastore, 1)) (hh : h a = some (aR t N g)) (hin : vp_in i N) (hv : h v = some (aO ci fs)) (hok : aw_ok E t ci) (kk : aw l E mi Z d bc bs (pc + 1) ls st n (ah_set h a (aR t N (va_up g i.toNatClampNeg (some v))))) : aw l E mi Z d bc bs pc ls (.ref v :: .int i :: .ref a :: st) n h := by
  intro p e s m args below meth c H locs cells slots mc ms ls' F h1 h2 hR hS hl
  obtain ⟨hba, ht, hat⟩ := hR.2 a _ hh
  have hK : va_K E.1 vwCl (aw_tys E) s := F.2.2.2.2.2.2.2.2.1
  have hts := F.2.2.2.2.2.1
  obtain ⟨r, hc, hok⟩ := hok
  have hlt : i.toNatClampNeg < N := Nat.not_le.mp fun q => hin (Or.inr q)
  have h0 : ¬ i < 0 := fun q => hin (Or.inl q)
  obtain ⟨cellV, g1, g3, gf⟩ := va_recv hK (aw_O hR hv) hc (q0 := 0) rfl
  obtain ⟨kC, hkC, -⟩ := Vm.findClass_spec gf
  have hRA : va_RA s (E.2.1 t) (.object (if t = 1 then "HonestGold$Plain" else "HonestGold$Treasury")) := by
    rcases ht with rfl | rfl
    · exact (hK.2 1 _ rfl).2
    · exact (hK.2 2 _ rfl).2
  obtain ⟨kA, comp, k1, k2, k3, -⟩ := hRA
  obtain ⟨kE, hkE, -⟩ := Vm.findClass_spec k3
  have hasg : s.vm.assignable cellV.cls comp = true := by
    rcases hok with he | hcs
    · rw [he] at gf
      cases gf.symm.trans k3
      exact va_asg _ _
    · obtain ⟨cD, cT, w1, w2, w3⟩ := hcs s s.heap F.2.2.2.2.2.2.2.2.2.1
      cases gf.symm.trans w1
      cases k3.symm.trans w2
      exact w3
  refine W.aast F.1 F.2.1 (show H[a]? = some _ from hat) (fun q h => by cases h) (fun h => by cases h) k1 k2 rfl hkE ⟨h0, by show _ < (arrV _ _ _).slots.size; rw [arrV_size]; exact hlt⟩ g1 (fun q h => by rw [h] at g3; cases g3) hkC hasg rfl rfl hd fun H1 e1 z oq => ?_
  refine kk p e s m args below meth c H1 _ cells slots mc ms ls' F h1 h2 (aw_R_set hR hba z oq ⟨ht, ?_⟩) (hS.put z oq hba) hl
  rw [e1]
  rw [vp_cell_q, vp_cell_q, arrV_store]
  congr 2
  funext q
  by_cases hq : q = i.toNatClampNeg
  · subst hq
    simp [updV, va_up, va_rf]
  · simp [updV, va_up, hq]
theorem aw_S_new {E : aw_E} {H0 H H1 : Heap} {locs : List Loc} (hS : va_S (aw_A E) H0 H locs) (z1 : H1.size = H.size + 1) (o1 : ∀ q : Nat, q < H.size → H1[q]? = H[q]?) : va_S (aw_A E) H0 H1 locs :=
  ⟨Nat.le_trans hS.1 (by omega), fun x h1 h2 => (o1 x (Nat.lt_of_lt_of_le h1 hS.1)).trans (hS.2.1 x h1 h2), hS.2.2⟩
theorem aw_newI {z : Int32} {N bc' bs' : Nat} (hd : decode mi.2.1 pc = .ok (.newarray .int, 2)) (hw : Cond.arrayClass .int ∈ aw_T) (hz : ¬ z < 0) (hN : z.toNatClampNeg = N) (hb : N ≤ 1000) (hbc : 1 + bc' ≤ bc) (hbs : N + bs' ≤ bs) (kk : aw l E mi Z d bc' bs' (pc + 2) ls (.ref n :: st) (n + 1) (ah_set h n (aI N (fun _ => 0)))) : aw l E mi Z d bc bs pc ls (.int z :: st) n h := by
  intro p e s m args below meth c H locs cells slots mc ms ls' F h1 h2 hR hS hl
  have hK : va_K E.1 vwCl (aw_tys E) s := F.2.2.2.2.2.2.2.2.1
  have hts := F.2.2.2.2.2.1
  refine va_newaK (atype := .int) F.1 F.2.1 (hts _ hw) rfl hd rfl hz hN (by show N * 4 ≤ _; omega) (by show cells + 1 ≤ mc; omega) (by show slots + N ≤ ms; omega) hR.1 fun H1 cA e1 z1 o1 hAr hNm => ?_
  have hcy : s.vm.findClass ("[" ++ FieldType.int.toString) = some (E.2.1 0) := (hK.2 0 _ rfl).2
  have hcA : cA = E.2.1 0 := Option.some.inj (hNm.symm.trans hcy)
  subst hcA
  have z1' : H1.size = H.size + 1 := by rw [z1, hR.1]
  have o1' : ∀ q : Nat, q < H.size → H1[q]? = H[q]? := fun q hq => o1 q (by rw [← hR.1]; exact hq)
  exact kk p e s m args below meth c H1 locs (cells + 1) (slots + N) mc ms ls' F (by omega) (by omega) (aw_R_new hR (Nat.le_trans F.2.2.2.2.2.2.2.2.2.2.2 hS.1) z1' o1' e1) (aw_S_new hS z1' o1') hl
theorem aw_newR {z : Int32} {i t N bc' bs' : Nat} {C : String} (hd : decode mi.2.1 pc = .ok (.anewarray i, 3)) (ht : t = 1 ∨ t = 2) (hC : C = (if t = 1 then "HonestGold$Plain" else "HonestGold$Treasury")) (hcl : Cond.classLink mi.1.cls i C ∈ aw_T) (hw : ∀ (U : State) (H : Heap), E.2.2.2 U H → va_AO C U) (hz : ¬ z < 0) (hN : z.toNatClampNeg = N) (hb : N ≤ 1000) (hbc : 1 + bc' ≤ bc) (hbs : N + bs' ≤ bs) (kk : aw l E mi Z d bc' bs' (pc + 3) ls (.ref n :: st) (n + 1) (ah_set h n (aR t N (fun _ => none)))) : aw l E mi Z d bc bs pc ls (.int z :: st) n h := by
  intro p e s m args below meth c H locs cells slots mc ms ls' F h1 h2 hR hS hl
  have hK : va_K E.1 vwCl (aw_tys E) s := F.2.2.2.2.2.2.2.2.1
  have hts := F.2.2.2.2.2.1
  subst hN
  refine W.anew F.1 F.2.1 F.2.2.2.2.1 (hts _ hcl) (va_AO.use (hw s s.heap F.2.2.2.2.2.2.2.2.2.1)) rfl hd rfl hz (by omega) (by show cells + 1 ≤ mc; omega) (by show slots + z.toNatClampNeg ≤ ms; omega) fun cA kA comp f1 f2 f3 f4 => ?_
  have hcA : cA = E.2.1 t := by
    subst hC
    rcases ht with rfl | rfl
    · obtain ⟨_, _, -, -, -, k4⟩ := (hK.2 1 _ rfl).2
      exact Option.some.inj (f1.symm.trans k4)
    · obtain ⟨_, _, -, -, -, k4⟩ := (hK.2 2 _ rfl).2
      exact Option.some.inj (f1.symm.trans k4)
  subst hcA
  generalize hH1 : H.push ({ cls := E.2.1 t, slots := Array.replicate z.toNatClampNeg .null, vm := .none } : Cell) = H1
  have z1 : H1.size = H.size + 1 := by rw [← hH1, Array.size_push]
  have e1 : H1[H.size]? = some (arrV (E.2.1 t) z.toNatClampNeg (fun _ => .null)) := by rw [← hH1, Array.getElem?_push_size, ← arrV_new]
  have o1 : ∀ q : Nat, q < H.size → H1[q]? = H[q]? := fun q hq => by rw [← hH1, Array.getElem?_push, if_neg (Nat.ne_of_lt hq)]
  have kw := kk p e s m args below meth c H1 locs (cells + 1) (slots + z.toNatClampNeg) mc ms ls' F (by omega) (by omega) (aw_R_new hR (Nat.le_trans F.2.2.2.2.2.2.2.2.2.2.2 hS.1) z1 o1 (e := aR t z.toNatClampNeg (fun _ => none)) ⟨ht, by rw [← hR.1]; exact e1⟩) (aw_S_new hS z1 o1) hl
  rw [← hR.1] at kw
  exact kw
theorem aw_new {i ci N bc' bs' : Nat} {fs : List Value} (hd : decode mi.2.1 pc = .ok (.new i, 3)) (hw : aw_nw mi.1.cls i ci fs N) (hbc : 1 + bc' ≤ bc) (hbs : N + bs' ≤ bs) (kk : aw l E mi Z d bc' bs' (pc + 3) ls (.ref n :: st) (n + 1) (ah_set h n (aO ci fs))) : aw l E mi Z d bc bs pc ls st n h := by
  intro p e s m args below meth c H locs cells slots mc ms ls' F h1 h2 hR hS hl
  have hK : va_K E.1 vwCl (aw_tys E) s := F.2.2.2.2.2.2.2.2.1
  have hts := F.2.2.2.2.2.1
  obtain ⟨C, T, ty0, hc, hin, hty, w1, w2, w3, hfs⟩ := hw
  have hKn := hK.1 ci _ hc
  refine W.newcK F.1 F.2.1 F.2.2.2.2.1 (hts _ w1) (hts _ w2) (hts _ w3) rfl hd (by show cells + 1 ≤ mc; omega) (by show slots + N ≤ ms; omega) hKn.2.1 hR.1 fun H1 kC hkC e1 z1 o1 => ?_
  have z1' : H1.size = H.size + 1 := by rw [z1, hR.1]
  have o1' : ∀ q : Nat, q < H.size → H1[q]? = H[q]? := fun q hq => o1 q (by rw [← hR.1]; exact hq)
  exact kk p e s m args below meth c H1 locs (cells + 1) (slots + N) mc ms ls' F (by omega) (by omega) (aw_R_new hR (Nat.le_trans F.2.2.2.2.2.2.2.2.2.2.2 hS.1) z1' o1' (e := aO ci fs) ⟨_, hc, (u_born ty0 hts hin hKn hkC e1 hty).to hfs⟩) (aw_S_new hS z1' o1') hl
theorem aw_objInit {i a : Nat} (hd : decode mi.2.1 pc = .ok (.invokespecial i, 3)) (hw : Cond.methodLink mi.1.cls i objectInit ∈ aw_T) (hw2 : Cond.instanceMethod objectInit ∈ aw_T) (hw3 : Cond.code objectInit ⟨#[0xb1]⟩ 1 none ∈ aw_T) (hst : (st.map fun v => v.category).sum ≤ 8) (kk : aw l E mi Z (d + 1) bc bs (pc + 3) ls st n h) : aw l E mi Z (d + 1) bc bs pc ls (.ref a :: st) n h := by
  intro p e s m args below meth c H locs cells slots mc ms ls' F h1 h2 hR hS hl
  have hts := F.2.2.2.2.2.1
  refine W.objInit F.1 F.2.1 F.2.2.2.2.1 (hts _ hw) (hts _ hw2) (hts _ hw3) rfl (by rw [F.2.2.1]; exact hl.1) rfl hd (by show 1 ≤ d + 1; omega) ?_ ?_
  · have := lv_room (m := m) (pc := pc) (ls := ls') (rest := st) (st := st) hst
    show 2 * 0 + (st.map fun v => v.category).sum + 12 ≤ 34 * (d + 1) + 10
    omega
  · exact kk p e s m args below meth c H locs cells slots mc ms ls' F h1 h2 hR hS hl
/-- behind a call -/
theorem aw_back {p : Program} {e : Env} {s : State} {m : MethodId} {args : Array Value} {below : List Frame} {meth : Method} {c : Code} {H : Heap} {locs : List Loc} {cells slots mc ms mc' ms' bc' bs' : Nat} {ls' : Array Slot} {st0 rest : List Value} {a : Array Value} {Q' : aw_P}
    (hr : va_Run p l e (aw_rm d mc ms) s m args below meth c H locs cells slots mc' ms' (F0 m pc ls' st0) rest (aw_Qc E Q' a) (aw_A E)) (F : aw_F E mi p s m args meth c) (h1 : cells + bc ≤ mc) (h2 : slots + bs ≤ ms) (hS : va_S (aw_A E) s.heap H locs) (hl : lv_has ls' mi.2.2.1 ls) (hbc : mc' + bc' ≤ bc) (hbs : ms' + bs' ≤ bs)
    (kk : ∀ (r : Option Value) (n' : Nat) (h' : ah), Q' r n' h' → aw l E mi Z d bc' bs' (pc + 3) ls (r.toList ++ rest) n' h') : W p l e (aw_rm d mc ms) s m args below meth c H locs cells slots (Z below args s mc ms) (F0 m pc ls' st0) := by
  intro T hT X
  obtain ⟨v, st₀, t, T', L, h0, X', hL, e1, e2, ⟨r, n', h', hv, hQ, hR', hF⟩, step⟩ := hr T hT X
  cases hv
  obtain ⟨t2, a1, b1⟩ := kk v n' h' hQ p e s m args below meth c T'.heap (locs ++ L) (cells + mc') (slots + ms') mc ms ls' F (by omega) (by omega) (by rw [e1]; exact hR')
    ⟨Nat.le_trans hS.1 (by rw [e1, ← h0]; exact hF.1), fun q g1 g2 => by
      rw [e1, hF.2 q (by rw [h0]; exact Nat.lt_of_lt_of_le g1 hS.1) g2, h0]
      exact hS.2.1 q g1 g2, fun q hq => by
      rcases List.mem_append.mp hq with g | g
      · exact hS.2.2 q g
      · exact hL q g⟩ hl T' rfl X'
  exact ⟨t2, step t2 a1, b1⟩
theorem aw_pre {p : Program} {s : State} {m : MethodId} {args : Array Value} {meth : Method} {c : Code} {H : Heap} {locs : List Loc} (F : aw_F E mi p s m args meth c) (hR : aw_R E n h H) (hS : va_S (aw_A E) s.heap H locs) (av : List Value) : PreS s H (va_Pc av (aw_Pc E n h)) av := by
  refine ⟨fun a U g mk q => ?_, fun U hU hW => ?_⟩
  · obtain ⟨q0, q1, q2, q3, q4, q5⟩ := q
    exact ⟨q0, q1, va_K.moved (u := U) (U := U.calling g mk a) (Vm.Alike.refl U.vm) q2, q4 U (U.calling g mk a) U.heap U.heap (State.WarmedH.refl U) (fun _ _ _ => rfl) q3, q4, q5⟩
  · refine ⟨rfl, by rw [hU]; exact hR, va_K.moved hW.alike F.2.2.2.2.2.2.2.2.1, ?_, F.2.2.2.2.2.2.2.2.2.2.1, by rw [hU]; exact Nat.le_trans F.2.2.2.2.2.2.2.2.2.2.2 hS.1⟩
    rw [hU]
    exact aw_cl_of F.2.2.2.2.2.2.2.2.2.2.1 hW hS F.2.2.2.2.2.2.2.2.2.1
theorem aw_callB {p : Program} {s : State} {m : MethodId} {args : Array Value} {meth : Method} {c : Code} {i np mc ms mc' ms' : Nat} {yi : aw_M} (F : aw_F E mi p s m args meth c) (hm : aw_cm yi np) (hl : Cond.methodLink mi.1.cls i yi.1 ∈ aw_T) : CallB (aw_rm (d + 1) mc ms) s args mi.1.cls i yi.1 yi.2.1 yi.2.2.1 yi.2.2.2 (.code yi.1 yi.2.1 yi.2.2.1 yi.2.2.2 :: aw_T) (aw_rm d mc' ms') mc' ms' np :=
  callB_of np F.2.2.2.2.2.1 (aw_goodIn hm.1) rfl rfl rfl (F.2.2.2.2.2.1 _ hm.2.1) (F.2.2.2.2.2.1 _ hl) hm.2.2.1 ⟨Nat.le_refl _, by have := hm.2.2.2; show 8 + (yi.2.2.1 + 11) + (34 * d + 10) ≤ 34 * (d + 1) + 10; omega⟩
theorem aw_callV {i ci b np mc' ms' bc' bs' : Nat} {yi : aw_M} {fs As rest : List Value} {Q' : aw_P} (hd : decode mi.2.1 pc = .ok (.invokevirtual i, 3)) (hm : aw_cm yi np) (hc : aw_cV mi.1.cls i ci yi) (hh : h b = some (aO ci fs)) (hst : st = As.reverse ++ .ref b :: rest) (hnp : As.length = np) (hrs : (rest.map fun v => v.category).sum ≤ 8) (hM : am l E yi d mc' ms' (.ref b :: As) n h Q') (hbc : mc' + bc' ≤ bc) (hbs : ms' + bs' ≤ bs)
    (kk : ∀ (r : Option Value) (n' : Nat) (h' : ah), Q' r n' h' → aw l E mi Z (d + 1) bc' bs' (pc + 3) ls (r.toList ++ rest) n' h') : aw l E mi Z (d + 1) bc bs pc ls st n h := by
  intro p e s m args below meth c H locs cells slots mc ms ls' F h1 h2 hR hS hl
  obtain ⟨r, hcr, w1, w2, w3⟩ := hc
  have hts := F.2.2.2.2.2.1
  have hP := aw_pre F hR hS (.ref b :: As)
  exact aw_back (va_runV (C := r.1) ⟨F.1, F.2.1, F.2.2.1, F.2.2.2.2.1, hts⟩ hM ⟨aw_callB F hm w1, hts _ w2, hts _ w3⟩ ⟨hP.1, va_recv F.2.2.2.2.2.2.2.2.1 (aw_O hR hh) hcr (q0 := 0) rfl, hP.2⟩ rfl hnp hl.1 hst (lv_room hrs) hd ⟨by show cells + mc' ≤ mc; omega, by show slots + ms' ≤ ms; omega⟩) F h1 h2 hS hl hbc hbs kk
theorem aw_callS {i np mc' ms' bc' bs' : Nat} {yi : aw_M} {As rest : List Value} {Q' : aw_P} (hd : decode mi.2.1 pc = .ok (.invokestatic i, 3)) (hm : aw_cm yi np) (hc : aw_cS mi.1.cls i yi) (hst : st = As.reverse ++ rest) (hnp : As.length = np) (hrs : (rest.map fun v => v.category).sum ≤ 8) (hM : am l E yi d mc' ms' As n h Q') (hbc : mc' + bc' ≤ bc) (hbs : ms' + bs' ≤ bs)
    (kk : ∀ (r : Option Value) (n' : Nat) (h' : ah), Q' r n' h' → aw l E mi Z (d + 1) bc' bs' (pc + 3) ls (r.toList ++ rest) n' h') : aw l E mi Z (d + 1) bc bs pc ls st n h := by
  intro p e s m args below meth c H locs cells slots mc ms ls' F h1 h2 hR hS hl
  have hts := F.2.2.2.2.2.1
  exact aw_back (va_runS ⟨F.1, F.2.1, F.2.2.1, F.2.2.2.2.1, hts⟩ hM ⟨aw_callB F hm hc.1, hts _ hc.2⟩ (aw_pre F hR hS As) rfl hnp hl.1 hst (lv_room hrs) hd ⟨by show cells + mc' ≤ mc; omega, by show slots + ms' ≤ ms; omega⟩) F h1 h2 hS hl hbc hbs kk
theorem aw_callI {i b np mc' ms' bc' bs' : Nat} {yi : aw_M} {As rest : List Value} {Q' : aw_P} (hd : decode mi.2.1 pc = .ok (.invokespecial i, 3)) (hm : aw_cm yi np) (hc : aw_cI mi.1.cls i yi) (hst : st = As.reverse ++ .ref b :: rest) (hnp : As.length = np) (hrs : (rest.map fun v => v.category).sum ≤ 8) (hM : am l E yi d mc' ms' (.ref b :: As) n h Q') (hbc : mc' + bc' ≤ bc) (hbs : ms' + bs' ≤ bs)
    (kk : ∀ (r : Option Value) (n' : Nat) (h' : ah), Q' r n' h' → aw l E mi Z (d + 1) bc' bs' (pc + 3) ls (r.toList ++ rest) n' h') : aw l E mi Z (d + 1) bc bs pc ls st n h := by
  intro p e s m args below meth c H locs cells slots mc ms ls' F h1 h2 hR hS hl
  have hts := F.2.2.2.2.2.1
  obtain ⟨w1, w2, w3, w4⟩ := hc
  have hB := aw_callB (d := d) (mc := mc) (ms := ms) (mc' := mc') (ms' := ms') F hm w1
  unfold am at hM
  rw [w4] at hB hM
  exact aw_back (va_runI (bytes := yi.2.1) (maxL := yi.2.2.1) ⟨F.1, F.2.1, F.2.2.1, F.2.2.2.2.1, hts⟩ hM ⟨hB, w3, hts _ w2⟩ (aw_pre F hR hS (.ref b :: As)) rfl hnp hl.1 hst (lv_room hrs) hd ⟨by show cells + mc' ≤ mc; omega, by show slots + ms' ≤ ms; omega⟩) F h1 h2 hS hl hbc hbs kk
theorem aw_callO {i ci b np mc' ms' bc' bs' : Nat} {x : MethodName} {yi : aw_M} {fs As rest : List Value} {Q' : aw_P} (hd : decode mi.2.1 pc = .ok (.invokevirtual i, 3)) (hm : aw_cm yi np) (hc : aw_cO mi.1.cls i ci x yi) (hh : h b = some (aO ci fs)) (hst : st = As.reverse ++ .ref b :: rest) (hnp : As.length = np) (hrs : (rest.map fun v => v.category).sum ≤ 8) (hM : am l E yi d mc' ms' (.ref b :: As) n h Q') (hbc : mc' + bc' ≤ bc) (hbs : ms' + bs' ≤ bs)
    (kk : ∀ (r : Option Value) (n' : Nat) (h' : ah), Q' r n' h' → aw l E mi Z (d + 1) bc' bs' (pc + 3) ls (r.toList ++ rest) n' h') : aw l E mi Z (d + 1) bc bs pc ls st n h := by
  intro p e s m args below meth c H locs cells slots mc ms ls' F h1 h2 hR hS hl
  obtain ⟨r, b0, m0, r0, hcr, w1, w2, w3, w4, w5, w6, en, ed, x1, x2⟩ := hc
  have hts := F.2.2.2.2.2.1
  have hP := aw_pre F hR hS (.ref b :: As)
  have hCU : va_CU (aw_rm (d + 1) mc ms) s args mi.1.cls r.1 x.cls i x yi.1 yi.2.1 yi.2.2.1 yi.2.2.2 (.code yi.1 yi.2.1 yi.2.2.1 yi.2.2.2 :: aw_T) (aw_rm d mc' ms') mc' ms' np :=
    va_cwO np hts (fun w hw => by
      have hm' : w ∈ aw_T := by
        simp only [va_wsO, List.cons_append, List.nil_append, List.mem_cons] at hw
        rcases hw with e | e | e | e | e | e | e | e
        · rw [e]; exact w1
        · rw [e]; exact w2
        · rw [e]; exact w3
        · rw [e]; exact w4
        · rw [e]; exact w5
        · rw [e]; exact hm.2.1
        · rw [e]; exact hm.1
        · exact e
      exact ⟨hm', good_of_word (aw_goodT hm')⟩) rfl rfl rfl w6 ⟨x1, x2, by rw [ed]; exact hm.2.2.1.2.2⟩ ⟨Nat.le_refl _, by have := hm.2.2.2; show 8 + (yi.2.2.1 + 11) + (34 * d + 10) ≤ 34 * (d + 1) + 10; omega⟩
  exact aw_back (va_runU (C := r.1) ⟨F.1, F.2.1, F.2.2.1, F.2.2.2.2.1, hts⟩ hM hCU ⟨hP.1, va_recv F.2.2.2.2.2.2.2.2.1 (aw_O hR hh) hcr (q0 := 0) rfl, hP.2⟩ rfl hnp hl.1 hst (lv_room hrs) hd ⟨by show cells + mc' ≤ mc; omega, by show slots + ms' ≤ ms; omega⟩) F h1 h2 hS hl hbc hbs kk
theorem aw_callU {i ci b np mc' ms' bc' bs' : Nat} {yi : aw_M} {fs As rest : List Value} {Q' : aw_P} (hd : decode mi.2.1 pc = .ok (.invokespecial i, 3)) (hm : aw_cm yi np) (hc : aw_cU mi.1.cls i yi) {r : vw_C} (hcr : vwCl[ci]? = some r) (hh : h b = some (aO ci fs)) (hst : st = As.reverse ++ .ref b :: rest) (hnp : As.length = np) (hrs : (rest.map fun v => v.category).sum ≤ 8) (hM : am l E yi d mc' ms' (.ref b :: As) n h Q') (hbc : mc' + bc' ≤ bc) (hbs : ms' + bs' ≤ bs)
    (kk : ∀ (r : Option Value) (n' : Nat) (h' : ah), Q' r n' h' → aw l E mi Z (d + 1) bc' bs' (pc + 3) ls (r.toList ++ rest) n' h') : aw l E mi Z (d + 1) bc bs pc ls st n h := by
  intro p e s m args below meth c H locs cells slots mc ms ls' F h1 h2 hR hS hl
  obtain ⟨w1, w2, w3, w4, w5⟩ := hc
  have hts := F.2.2.2.2.2.1
  have hP := aw_pre F hR hS (.ref b :: As)
  have hB := aw_callB (d := d) (mc := mc) (ms := ms) (mc' := mc') (ms' := ms') F hm w1
  have hK : va_K E.1 vwCl (aw_tys E) s := F.2.2.2.2.2.2.2.2.1
  obtain ⟨b1, b2, b3, b4, b5, b6, b7, b8, b9, b10, b11⟩ := hB
  exact aw_back (va_runSU (C := r.1) (hK.1 ci r hcr).2 ⟨F.1, F.2.1, F.2.2.1, F.2.2.2.2.1, hts⟩ hM ⟨⟨b1, b2, b3, b4, b5, b6⟩, hts _ w1, hts _ w2, hts _ w3, hts _ w4, b8, b7, w5, b10⟩ ⟨hP.1, va_recv F.2.2.2.2.2.2.2.2.1 (aw_O hR hh) hcr (q0 := 0) rfl, hP.2⟩ rfl hnp hl.1 hst (lv_room hrs) hd ⟨by show cells + mc' ≤ mc; omega, by show slots + ms' ≤ ms; omega⟩) F h1 h2 hS hl hbc hbs kk
end AWH
section AWE
variable {l : Launch} {E : aw_E} {mi : aw_M} {Q : aw_P} {d bc bs pc : Nat} {ls : List (Nat × Value)} {n : Nat} {h : ah}
theorem aw_zret {v : Int32} {ty : FieldType} (hd : decode mi.2.1 pc = .ok (.ireturn, 1)) (hr : mi.2.2.2 = some ty) (hn : narrow ty (.int v) = .int v) (hq : Q (some (.int v)) n h) : aw l E mi (aw_Z E Q) d bc bs pc ls [.int v] n h := by
  intro p e s m args below meth c H locs cells slots mc ms ls' F h1 h2 hR hS hl
  refine W.widen (k := mc) (n := ms) (by omega) (by omega) ?_
  exact W.zret (hlocks := F.2.2.2.2.2.2.1) F.1 F.2.1 (F.2.2.2.1.trans hr) hn (fun t ht hW => ⟨_, n, h, rfl, hq, by rw [ht]; exact hR, hS.F ht⟩) hS.2.2 hd
theorem aw_iret {v : Int32} (hd : decode mi.2.1 pc = .ok (.ireturn, 1)) (hr : mi.2.2.2 = some .int) (hq : Q (some (.int v)) n h) : aw l E mi (aw_Z E Q) d bc bs pc ls [.int v] n h := aw_zret hd hr rfl hq
theorem aw_lret {v : Int64} (hd : decode mi.2.1 pc = .ok (.lreturn, 1)) (hr : mi.2.2.2 = some .long) (hq : Q (some (.long v)) n h) : aw l E mi (aw_Z E Q) d bc bs pc ls [.long v] n h := by
  intro p e s m args below meth c H locs cells slots mc ms ls' F h1 h2 hR hS hl
  refine W.widen (k := mc) (n := ms) (by omega) (by omega) ?_
  exact W.lret (hlocks := F.2.2.2.2.2.2.1) F.1 F.2.1 (F.2.2.2.1.trans hr) (fun t ht hW => ⟨_, n, h, rfl, hq, by rw [ht]; exact hR, hS.F ht⟩) hS.2.2 hd
theorem aw_aret {v : Nat} {C : String} (hd : decode mi.2.1 pc = .ok (.areturn, 1)) (hr : mi.2.2.2 = some (.object C)) (hq : Q (some (.ref v)) n h) : aw l E mi (aw_Z E Q) d bc bs pc ls [.ref v] n h := by
  intro p e s m args below meth c H locs cells slots mc ms ls' F h1 h2 hR hS hl
  refine W.widen (k := mc) (n := ms) (by omega) (by omega) ?_
  exact W.aret (hlocks := F.2.2.2.2.2.2.1) F.1 F.2.1 (F.2.2.2.1.trans hr) (Or.inl ⟨_, rfl⟩) (Or.inr ⟨_, rfl⟩) (fun t ht hW => ⟨_, n, h, rfl, hq, by rw [ht]; exact hR, hS.F ht⟩) hS.2.2 hd
theorem aw_vret (hd : decode mi.2.1 pc = .ok (.return_, 1)) (hr : mi.2.2.2 = none) (hq : Q none n h) : aw l E mi (aw_Z E Q) d bc bs pc ls [] n h := by
  intro p e s m args below meth c H locs cells slots mc ms ls' F h1 h2 hR hS hl
  refine W.widen (k := mc) (n := ms) (by omega) (by omega) ?_
  exact W.vret (hlocks := F.2.2.2.2.2.2.1) F.1 F.2.1 (F.2.2.2.1.trans hr) (fun t ht hW => ⟨_, n, h, rfl, hq, by rw [ht]; exact hR, hS.F ht⟩) hS.2.2 hd
/-- A CONTRACT out of a walk of the body -/
theorem am_of {mc ms : Nat} {av : List Value} (hy : plainName mi.1.cls = true) (hN : (lg_sl av).length ≤ mi.2.2.1) (k : aw l E mi (aw_Z E Q) d mc ms 0 (lv_args 0 av) [] n h) : am l E mi d mc ms av n h Q := by
  refine Met.ofW (cc := mi.2.1) (maxL := mi.2.2.1) (ret := mi.2.2.2) hy rfl ?_
  intro p e s m args below meth c s₁ B hml hv
  obtain ⟨rfl, hR, hK, hV, hcl, hba⟩ := hv
  have hts := atoms_spec (ws := .code mi.1 mi.2.1 mi.2.2.1 mi.2.2.2 :: aw_T) B.pre
  have hown : s.vm.findClass mi.1.cls = some m.cls := findClass_of_methodNamed B.named
  rw [lg_entry_eq]
  exact k p e s m av.toArray below meth c s.heap [] 0 0 mc ms _ ⟨B.exec, B.bytes, hml, B.returns, hown, fun w hw => hts w (List.mem_cons_of_mem _ hw), B.notSynchronized, (name_of_methodNamed B.named B.method).1, hK, hV, hcl, hba⟩ (by omega) (by omega) hR va_S.rf (lv_entry av hN)
end AWE
end
