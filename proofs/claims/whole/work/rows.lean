section
-- ===== PART A: goes FIRST, ahead of the names: the tables' words, and 'selects' of the private methods out of them =====
/-- a private method of a class that the tables say can be made, by its rows of tables_1 -/
def lw_okq (q : MethodName × Nat) : Prop := (q.1.cls ≠ "java/lang/invoke/MethodHandle" ∧ q.1.cls ≠ "java/lang/invoke/VarHandle") ∧ Cond.instantiable q.1.cls q.2 ∈ tables_1 ∧ Cond.privateMethod q.1 ∈ tables_1 ∧ Cond.instanceMethod q.1 ∈ tables_1
theorem lw_p0 : lw_okq (⟨"HonestGold", "refuseBad", "()I"⟩, 10) := ⟨⟨by decide +kernel, by decide +kernel⟩, List.mem_of_getElem? (i := 21) (by decide +kernel), List.mem_of_getElem? (i := 257) (by decide +kernel), List.mem_of_getElem? (i := 258) (by decide +kernel)⟩
theorem lw_p1 : lw_okq (⟨"HonestGold", "refuseFull", "()I"⟩, 10) := ⟨⟨by decide +kernel, by decide +kernel⟩, List.mem_of_getElem? (i := 21) (by decide +kernel), List.mem_of_getElem? (i := 261) (by decide +kernel), List.mem_of_getElem? (i := 262) (by decide +kernel)⟩
theorem lw_p2 : lw_okq (⟨"HonestGold", "twoOfThem", "(II)Z"⟩, 10) := ⟨⟨by decide +kernel, by decide +kernel⟩, List.mem_of_getElem? (i := 21) (by decide +kernel), List.mem_of_getElem? (i := 277) (by decide +kernel), List.mem_of_getElem? (i := 278) (by decide +kernel)⟩
theorem lw_p3 : lw_okq (⟨"HonestGold$Reader", "step", "()V"⟩, 7) := ⟨⟨by decide +kernel, by decide +kernel⟩, List.mem_of_getElem? (i := 152) (by decide +kernel), List.mem_of_getElem? (i := 323) (by decide +kernel), List.mem_of_getElem? (i := 324) (by decide +kernel)⟩
theorem lw_p4 : lw_okq (⟨"HonestGold$Reader", "runEnd", "(III)I"⟩, 7) := ⟨⟨by decide +kernel, by decide +kernel⟩, List.mem_of_getElem? (i := 152) (by decide +kernel), List.mem_of_getElem? (i := 327) (by decide +kernel), List.mem_of_getElem? (i := 328) (by decide +kernel)⟩
theorem lw_p5 : lw_okq (⟨"HonestGold$Reader", "byteAt", "(I)I"⟩, 7) := ⟨⟨by decide +kernel, by decide +kernel⟩, List.mem_of_getElem? (i := 152) (by decide +kernel), List.mem_of_getElem? (i := 331) (by decide +kernel), List.mem_of_getElem? (i := 332) (by decide +kernel)⟩
theorem lw_p6 : lw_okq (⟨"HonestGold$Reader", "numberBetween", "(II)I"⟩, 7) := ⟨⟨by decide +kernel, by decide +kernel⟩, List.mem_of_getElem? (i := 152) (by decide +kernel), List.mem_of_getElem? (i := 335) (by decide +kernel), List.mem_of_getElem? (i := 336) (by decide +kernel)⟩
theorem lw_p7 : lw_okq (⟨"HonestGold$Reader", "takeGold", "()V"⟩, 7) := ⟨⟨by decide +kernel, by decide +kernel⟩, List.mem_of_getElem? (i := 152) (by decide +kernel), List.mem_of_getElem? (i := 339) (by decide +kernel), List.mem_of_getElem? (i := 340) (by decide +kernel)⟩
theorem lw_p8 : lw_okq (⟨"HonestGold$Reader", "isWord", "(Ljava/lang/String;)Z"⟩, 7) := ⟨⟨by decide +kernel, by decide +kernel⟩, List.mem_of_getElem? (i := 152) (by decide +kernel), List.mem_of_getElem? (i := 344) (by decide +kernel), List.mem_of_getElem? (i := 345) (by decide +kernel)⟩
theorem lw_p9 : lw_okq (⟨"HonestGold$Reader", "failHere", "()V"⟩, 7) := ⟨⟨by decide +kernel, by decide +kernel⟩, List.mem_of_getElem? (i := 152) (by decide +kernel), List.mem_of_getElem? (i := 396) (by decide +kernel), List.mem_of_getElem? (i := 397) (by decide +kernel)⟩
theorem lw_p10 : lw_okq (⟨"HonestGold$Reader", "takeStop", "()V"⟩, 7) := ⟨⟨by decide +kernel, by decide +kernel⟩, List.mem_of_getElem? (i := 152) (by decide +kernel), List.mem_of_getElem? (i := 400) (by decide +kernel), List.mem_of_getElem? (i := 401) (by decide +kernel)⟩
theorem lw_p11 : lw_okq (⟨"HonestGold$Reader", "takeOne", "(LHonestGold$Treasury;)V"⟩, 7) := ⟨⟨by decide +kernel, by decide +kernel⟩, List.mem_of_getElem? (i := 152) (by decide +kernel), List.mem_of_getElem? (i := 406) (by decide +kernel), List.mem_of_getElem? (i := 407) (by decide +kernel)⟩
theorem lw_p12 : lw_okq (⟨"HonestGold$Reader", "takeNumber", "(II)I"⟩, 7) := ⟨⟨by decide +kernel, by decide +kernel⟩, List.mem_of_getElem? (i := 152) (by decide +kernel), List.mem_of_getElem? (i := 410) (by decide +kernel), List.mem_of_getElem? (i := 411) (by decide +kernel)⟩
theorem lw_p13 : lw_okq (⟨"HonestGold$Reader", "takeHands", "(LHonestGold$Treasury;)V"⟩, 7) := ⟨⟨by decide +kernel, by decide +kernel⟩, List.mem_of_getElem? (i := 152) (by decide +kernel), List.mem_of_getElem? (i := 416) (by decide +kernel), List.mem_of_getElem? (i := 417) (by decide +kernel)⟩
theorem lw_p14 : lw_okq (⟨"HonestGold$Reader", "takeLie", "(LHonestGold$Treasury;)V"⟩, 7) := ⟨⟨by decide +kernel, by decide +kernel⟩, List.mem_of_getElem? (i := 152) (by decide +kernel), List.mem_of_getElem? (i := 422) (by decide +kernel), List.mem_of_getElem? (i := 423) (by decide +kernel)⟩
theorem lw_p15 : lw_okq (⟨"HonestGold$Treasury", "honestyBehindLie", "(II)I"⟩, 12) := ⟨⟨by decide +kernel, by decide +kernel⟩, List.mem_of_getElem? (i := 29) (by decide +kernel), List.mem_of_getElem? (i := 430) (by decide +kernel), List.mem_of_getElem? (i := 431) (by decide +kernel)⟩
def lw_privs_1 : List (MethodName × Nat) := [(⟨"HonestGold", "refuseBad", "()I"⟩, 10), (⟨"HonestGold", "refuseFull", "()I"⟩, 10), (⟨"HonestGold", "twoOfThem", "(II)Z"⟩, 10), (⟨"HonestGold$Reader", "step", "()V"⟩, 7), (⟨"HonestGold$Reader", "runEnd", "(III)I"⟩, 7), (⟨"HonestGold$Reader", "byteAt", "(I)I"⟩, 7), (⟨"HonestGold$Reader", "numberBetween", "(II)I"⟩, 7), (⟨"HonestGold$Reader", "takeGold", "()V"⟩, 7), (⟨"HonestGold$Reader", "isWord", "(Ljava/lang/String;)Z"⟩, 7), (⟨"HonestGold$Reader", "failHere", "()V"⟩, 7), (⟨"HonestGold$Reader", "takeStop", "()V"⟩, 7), (⟨"HonestGold$Reader", "takeOne", "(LHonestGold$Treasury;)V"⟩, 7), (⟨"HonestGold$Reader", "takeNumber", "(II)I"⟩, 7), (⟨"HonestGold$Reader", "takeHands", "(LHonestGold$Treasury;)V"⟩, 7), (⟨"HonestGold$Reader", "takeLie", "(LHonestGold$Treasury;)V"⟩, 7), (⟨"HonestGold$Treasury", "honestyBehindLie", "(II)I"⟩, 12)]
theorem lw_r1 : ∀ q ∈ lw_privs_1, lw_okq q := List.forall_mem_cons.mpr ⟨lw_p0, List.forall_mem_cons.mpr ⟨lw_p1, List.forall_mem_cons.mpr ⟨lw_p2, List.forall_mem_cons.mpr ⟨lw_p3, List.forall_mem_cons.mpr ⟨lw_p4, List.forall_mem_cons.mpr ⟨lw_p5, List.forall_mem_cons.mpr ⟨lw_p6, List.forall_mem_cons.mpr ⟨lw_p7, List.forall_mem_cons.mpr ⟨lw_p8, List.forall_mem_cons.mpr ⟨lw_p9, List.forall_mem_cons.mpr ⟨lw_p10, List.forall_mem_cons.mpr ⟨lw_p11, List.forall_mem_cons.mpr ⟨lw_p12, List.forall_mem_cons.mpr ⟨lw_p13, List.forall_mem_cons.mpr ⟨lw_p14, List.forall_mem_cons.mpr ⟨lw_p15, fun _ h => absurd h List.not_mem_nil⟩⟩⟩⟩⟩⟩⟩⟩⟩⟩⟩⟩⟩⟩⟩⟩
theorem lw_p16 : lw_okq (⟨"HonestGold$Treasury", "kindNumbered", "(I)LHonestGold$Plain;"⟩, 12) := ⟨⟨by decide +kernel, by decide +kernel⟩, List.mem_of_getElem? (i := 29) (by decide +kernel), List.mem_of_getElem? (i := 442) (by decide +kernel), List.mem_of_getElem? (i := 443) (by decide +kernel)⟩
theorem lw_p17 : lw_okq (⟨"HonestGold$Past", "placeOf", "(I)I"⟩, 2) := ⟨⟨by decide +kernel, by decide +kernel⟩, List.mem_of_getElem? (i := 101) (by decide +kernel), List.mem_of_getElem? (i := 501) (by decide +kernel), List.mem_of_getElem? (i := 502) (by decide +kernel)⟩
theorem lw_p18 : lw_okq (⟨"HonestGold", "refuseNo", "()I"⟩, 10) := ⟨⟨by decide +kernel, by decide +kernel⟩, List.mem_of_getElem? (i := 21) (by decide +kernel), List.mem_of_getElem? (i := 515) (by decide +kernel), List.mem_of_getElem? (i := 516) (by decide +kernel)⟩
theorem lw_p19 : lw_okq (⟨"HonestGold$Treasury", "honestyAfter", "(II)I"⟩, 12) := ⟨⟨by decide +kernel, by decide +kernel⟩, List.mem_of_getElem? (i := 29) (by decide +kernel), List.mem_of_getElem? (i := 531) (by decide +kernel), List.mem_of_getElem? (i := 532) (by decide +kernel)⟩
theorem lw_p20 : lw_okq (⟨"HonestGold$Ways", "weighEach", "(LHonestGold$Treasury;I)V"⟩, 4) := ⟨⟨by decide +kernel, by decide +kernel⟩, List.mem_of_getElem? (i := 180) (by decide +kernel), List.mem_of_getElem? (i := 649) (by decide +kernel), List.mem_of_getElem? (i := 650) (by decide +kernel)⟩
theorem lw_p21 : lw_okq (⟨"HonestGold$Ways", "heftOf", "(I)I"⟩, 4) := ⟨⟨by decide +kernel, by decide +kernel⟩, List.mem_of_getElem? (i := 180) (by decide +kernel), List.mem_of_getElem? (i := 656) (by decide +kernel), List.mem_of_getElem? (i := 657) (by decide +kernel)⟩
theorem lw_p22 : lw_okq (⟨"HonestGold$Ways", "measure", "(LHonestGold$Treasury;III)I"⟩, 4) := ⟨⟨by decide +kernel, by decide +kernel⟩, List.mem_of_getElem? (i := 180) (by decide +kernel), List.mem_of_getElem? (i := 660) (by decide +kernel), List.mem_of_getElem? (i := 661) (by decide +kernel)⟩
theorem lw_p23 : lw_okq (⟨"HonestGold$Ways", "handsToOneAt", "(LHonestGold$Treasury;II)Z"⟩, 4) := ⟨⟨by decide +kernel, by decide +kernel⟩, List.mem_of_getElem? (i := 180) (by decide +kernel), List.mem_of_getElem? (i := 664) (by decide +kernel), List.mem_of_getElem? (i := 665) (by decide +kernel)⟩
theorem lw_p24 : lw_okq (⟨"HonestGold$Ways", "farOf", "(I)I"⟩, 4) := ⟨⟨by decide +kernel, by decide +kernel⟩, List.mem_of_getElem? (i := 180) (by decide +kernel), List.mem_of_getElem? (i := 669) (by decide +kernel), List.mem_of_getElem? (i := 670) (by decide +kernel)⟩
theorem lw_p25 : lw_okq (⟨"HonestGold$Ways", "nearerHand", "(LHonestGold$Treasury;I)I"⟩, 4) := ⟨⟨by decide +kernel, by decide +kernel⟩, List.mem_of_getElem? (i := 180) (by decide +kernel), List.mem_of_getElem? (i := 677) (by decide +kernel), List.mem_of_getElem? (i := 678) (by decide +kernel)⟩
theorem lw_p26 : lw_okq (⟨"HonestGold$Ways", "weighBags", "(LHonestGold$Treasury;II)V"⟩, 4) := ⟨⟨by decide +kernel, by decide +kernel⟩, List.mem_of_getElem? (i := 180) (by decide +kernel), List.mem_of_getElem? (i := 714) (by decide +kernel), List.mem_of_getElem? (i := 715) (by decide +kernel)⟩
theorem lw_p27 : lw_okq (⟨"HonestGold$Ways", "lightestWith", "(II)I"⟩, 4) := ⟨⟨by decide +kernel, by decide +kernel⟩, List.mem_of_getElem? (i := 180) (by decide +kernel), List.mem_of_getElem? (i := 719) (by decide +kernel), List.mem_of_getElem? (i := 720) (by decide +kernel)⟩
theorem lw_p28 : lw_okq (⟨"HonestGold$Ways", "bagWeight", "(II)I"⟩, 4) := ⟨⟨by decide +kernel, by decide +kernel⟩, List.mem_of_getElem? (i := 180) (by decide +kernel), List.mem_of_getElem? (i := 729) (by decide +kernel), List.mem_of_getElem? (i := 730) (by decide +kernel)⟩
theorem lw_p29 : lw_okq (⟨"HonestGold$Ways", "lightestOf", "(I)I"⟩, 4) := ⟨⟨by decide +kernel, by decide +kernel⟩, List.mem_of_getElem? (i := 180) (by decide +kernel), List.mem_of_getElem? (i := 733) (by decide +kernel), List.mem_of_getElem? (i := 734) (by decide +kernel)⟩
theorem lw_p30 : lw_okq (⟨"HonestGold$Ways", "putLightest", "(II)V"⟩, 4) := ⟨⟨by decide +kernel, by decide +kernel⟩, List.mem_of_getElem? (i := 180) (by decide +kernel), List.mem_of_getElem? (i := 739) (by decide +kernel), List.mem_of_getElem? (i := 740) (by decide +kernel)⟩
theorem lw_p31 : lw_okq (⟨"HonestGold$Ways", "firstBag", "(II)I"⟩, 4) := ⟨⟨by decide +kernel, by decide +kernel⟩, List.mem_of_getElem? (i := 180) (by decide +kernel), List.mem_of_getElem? (i := 747) (by decide +kernel), List.mem_of_getElem? (i := 748) (by decide +kernel)⟩
def lw_privs_2 : List (MethodName × Nat) := [(⟨"HonestGold$Treasury", "kindNumbered", "(I)LHonestGold$Plain;"⟩, 12), (⟨"HonestGold$Past", "placeOf", "(I)I"⟩, 2), (⟨"HonestGold", "refuseNo", "()I"⟩, 10), (⟨"HonestGold$Treasury", "honestyAfter", "(II)I"⟩, 12), (⟨"HonestGold$Ways", "weighEach", "(LHonestGold$Treasury;I)V"⟩, 4), (⟨"HonestGold$Ways", "heftOf", "(I)I"⟩, 4), (⟨"HonestGold$Ways", "measure", "(LHonestGold$Treasury;III)I"⟩, 4), (⟨"HonestGold$Ways", "handsToOneAt", "(LHonestGold$Treasury;II)Z"⟩, 4), (⟨"HonestGold$Ways", "farOf", "(I)I"⟩, 4), (⟨"HonestGold$Ways", "nearerHand", "(LHonestGold$Treasury;I)I"⟩, 4), (⟨"HonestGold$Ways", "weighBags", "(LHonestGold$Treasury;II)V"⟩, 4), (⟨"HonestGold$Ways", "lightestWith", "(II)I"⟩, 4), (⟨"HonestGold$Ways", "bagWeight", "(II)I"⟩, 4), (⟨"HonestGold$Ways", "lightestOf", "(I)I"⟩, 4), (⟨"HonestGold$Ways", "putLightest", "(II)V"⟩, 4), (⟨"HonestGold$Ways", "firstBag", "(II)I"⟩, 4)]
theorem lw_r2 : ∀ q ∈ lw_privs_2, lw_okq q := List.forall_mem_cons.mpr ⟨lw_p16, List.forall_mem_cons.mpr ⟨lw_p17, List.forall_mem_cons.mpr ⟨lw_p18, List.forall_mem_cons.mpr ⟨lw_p19, List.forall_mem_cons.mpr ⟨lw_p20, List.forall_mem_cons.mpr ⟨lw_p21, List.forall_mem_cons.mpr ⟨lw_p22, List.forall_mem_cons.mpr ⟨lw_p23, List.forall_mem_cons.mpr ⟨lw_p24, List.forall_mem_cons.mpr ⟨lw_p25, List.forall_mem_cons.mpr ⟨lw_p26, List.forall_mem_cons.mpr ⟨lw_p27, List.forall_mem_cons.mpr ⟨lw_p28, List.forall_mem_cons.mpr ⟨lw_p29, List.forall_mem_cons.mpr ⟨lw_p30, List.forall_mem_cons.mpr ⟨lw_p31, fun _ h => absurd h List.not_mem_nil⟩⟩⟩⟩⟩⟩⟩⟩⟩⟩⟩⟩⟩⟩⟩⟩
theorem lw_p32 : lw_okq (⟨"HonestGold$Notes", "allFit", "(LHonestGold$Treasury;III)Z"⟩, 5) := ⟨⟨by decide +kernel, by decide +kernel⟩, List.mem_of_getElem? (i := 78) (by decide +kernel), List.mem_of_getElem? (i := 781) (by decide +kernel), List.mem_of_getElem? (i := 782) (by decide +kernel)⟩
theorem lw_p33 : lw_okq (⟨"HonestGold", "keepFraction", "(JJ)V"⟩, 10) := ⟨⟨by decide +kernel, by decide +kernel⟩, List.mem_of_getElem? (i := 21) (by decide +kernel), List.mem_of_getElem? (i := 819) (by decide +kernel), List.mem_of_getElem? (i := 820) (by decide +kernel)⟩
theorem lw_p34 : lw_okq (⟨"HonestGold", "counted", "(I)I"⟩, 10) := ⟨⟨by decide +kernel, by decide +kernel⟩, List.mem_of_getElem? (i := 21) (by decide +kernel), List.mem_of_getElem? (i := 855) (by decide +kernel), List.mem_of_getElem? (i := 856) (by decide +kernel)⟩
theorem lw_p35 : lw_okq (⟨"HonestGoldModel", "begin", "()V"⟩, 33) := ⟨⟨by decide +kernel, by decide +kernel⟩, List.mem_of_getElem? (i := 886) (by decide +kernel), List.mem_of_getElem? (i := 892) (by decide +kernel), List.mem_of_getElem? (i := 893) (by decide +kernel)⟩
theorem lw_p36 : lw_okq (⟨"HonestGoldModel", "bad", "()I"⟩, 33) := ⟨⟨by decide +kernel, by decide +kernel⟩, List.mem_of_getElem? (i := 886) (by decide +kernel), List.mem_of_getElem? (i := 1007) (by decide +kernel), List.mem_of_getElem? (i := 1008) (by decide +kernel)⟩
theorem lw_p37 : lw_okq (⟨"HonestGoldModel", "full", "()I"⟩, 33) := ⟨⟨by decide +kernel, by decide +kernel⟩, List.mem_of_getElem? (i := 886) (by decide +kernel), List.mem_of_getElem? (i := 1011) (by decide +kernel), List.mem_of_getElem? (i := 1012) (by decide +kernel)⟩
theorem lw_p38 : lw_okq (⟨"HonestGoldModel", "addOne", "(IIII)I"⟩, 33) := ⟨⟨by decide +kernel, by decide +kernel⟩, List.mem_of_getElem? (i := 886) (by decide +kernel), List.mem_of_getElem? (i := 1015) (by decide +kernel), List.mem_of_getElem? (i := 1016) (by decide +kernel)⟩
theorem lw_p39 : lw_okq (⟨"HonestGoldModel", "isOne", "(I)Z"⟩, 33) := ⟨⟨by decide +kernel, by decide +kernel⟩, List.mem_of_getElem? (i := 886) (by decide +kernel), List.mem_of_getElem? (i := 1023) (by decide +kernel), List.mem_of_getElem? (i := 1024) (by decide +kernel)⟩
theorem lw_p40 : lw_okq (⟨"HonestGoldModel", "readsGold", "()I"⟩, 33) := ⟨⟨by decide +kernel, by decide +kernel⟩, List.mem_of_getElem? (i := 886) (by decide +kernel), List.mem_of_getElem? (i := 1039) (by decide +kernel), List.mem_of_getElem? (i := 1040) (by decide +kernel)⟩
theorem lw_p41 : lw_okq (⟨"HonestGoldModel", "skip", "()V"⟩, 33) := ⟨⟨by decide +kernel, by decide +kernel⟩, List.mem_of_getElem? (i := 886) (by decide +kernel), List.mem_of_getElem? (i := 1043) (by decide +kernel), List.mem_of_getElem? (i := 1044) (by decide +kernel)⟩
theorem lw_p42 : lw_okq (⟨"HonestGoldModel", "here", "()I"⟩, 33) := ⟨⟨by decide +kernel, by decide +kernel⟩, List.mem_of_getElem? (i := 886) (by decide +kernel), List.mem_of_getElem? (i := 1047) (by decide +kernel), List.mem_of_getElem? (i := 1048) (by decide +kernel)⟩
theorem lw_p43 : lw_okq (⟨"HonestGoldModel", "wordHere", "()I"⟩, 33) := ⟨⟨by decide +kernel, by decide +kernel⟩, List.mem_of_getElem? (i := 886) (by decide +kernel), List.mem_of_getElem? (i := 1051) (by decide +kernel), List.mem_of_getElem? (i := 1052) (by decide +kernel)⟩
theorem lw_p44 : lw_okq (⟨"HonestGoldModel", "wordSize", "()I"⟩, 33) := ⟨⟨by decide +kernel, by decide +kernel⟩, List.mem_of_getElem? (i := 886) (by decide +kernel), List.mem_of_getElem? (i := 1055) (by decide +kernel), List.mem_of_getElem? (i := 1056) (by decide +kernel)⟩
theorem lw_p45 : lw_okq (⟨"HonestGoldModel", "spells", "(IIII)Z"⟩, 33) := ⟨⟨by decide +kernel, by decide +kernel⟩, List.mem_of_getElem? (i := 886) (by decide +kernel), List.mem_of_getElem? (i := 1062) (by decide +kernel), List.mem_of_getElem? (i := 1063) (by decide +kernel)⟩
theorem lw_p46 : lw_okq (⟨"HonestGoldModel", "letter", "(I)I"⟩, 33) := ⟨⟨by decide +kernel, by decide +kernel⟩, List.mem_of_getElem? (i := 886) (by decide +kernel), List.mem_of_getElem? (i := 1066) (by decide +kernel), List.mem_of_getElem? (i := 1067) (by decide +kernel)⟩
theorem lw_p47 : lw_okq (⟨"HonestGoldModel", "ends", "()Z"⟩, 33) := ⟨⟨by decide +kernel, by decide +kernel⟩, List.mem_of_getElem? (i := 886) (by decide +kernel), List.mem_of_getElem? (i := 1070) (by decide +kernel), List.mem_of_getElem? (i := 1071) (by decide +kernel)⟩
def lw_privs_3 : List (MethodName × Nat) := [(⟨"HonestGold$Notes", "allFit", "(LHonestGold$Treasury;III)Z"⟩, 5), (⟨"HonestGold", "keepFraction", "(JJ)V"⟩, 10), (⟨"HonestGold", "counted", "(I)I"⟩, 10), (⟨"HonestGoldModel", "begin", "()V"⟩, 33), (⟨"HonestGoldModel", "bad", "()I"⟩, 33), (⟨"HonestGoldModel", "full", "()I"⟩, 33), (⟨"HonestGoldModel", "addOne", "(IIII)I"⟩, 33), (⟨"HonestGoldModel", "isOne", "(I)Z"⟩, 33), (⟨"HonestGoldModel", "readsGold", "()I"⟩, 33), (⟨"HonestGoldModel", "skip", "()V"⟩, 33), (⟨"HonestGoldModel", "here", "()I"⟩, 33), (⟨"HonestGoldModel", "wordHere", "()I"⟩, 33), (⟨"HonestGoldModel", "wordSize", "()I"⟩, 33), (⟨"HonestGoldModel", "spells", "(IIII)Z"⟩, 33), (⟨"HonestGoldModel", "letter", "(I)I"⟩, 33), (⟨"HonestGoldModel", "ends", "()Z"⟩, 33)]
theorem lw_r3 : ∀ q ∈ lw_privs_3, lw_okq q := List.forall_mem_cons.mpr ⟨lw_p32, List.forall_mem_cons.mpr ⟨lw_p33, List.forall_mem_cons.mpr ⟨lw_p34, List.forall_mem_cons.mpr ⟨lw_p35, List.forall_mem_cons.mpr ⟨lw_p36, List.forall_mem_cons.mpr ⟨lw_p37, List.forall_mem_cons.mpr ⟨lw_p38, List.forall_mem_cons.mpr ⟨lw_p39, List.forall_mem_cons.mpr ⟨lw_p40, List.forall_mem_cons.mpr ⟨lw_p41, List.forall_mem_cons.mpr ⟨lw_p42, List.forall_mem_cons.mpr ⟨lw_p43, List.forall_mem_cons.mpr ⟨lw_p44, List.forall_mem_cons.mpr ⟨lw_p45, List.forall_mem_cons.mpr ⟨lw_p46, List.forall_mem_cons.mpr ⟨lw_p47, fun _ h => absurd h List.not_mem_nil⟩⟩⟩⟩⟩⟩⟩⟩⟩⟩⟩⟩⟩⟩⟩⟩
theorem lw_p48 : lw_okq (⟨"HonestGoldModel", "readsItem", "()Z"⟩, 33) := ⟨⟨by decide +kernel, by decide +kernel⟩, List.mem_of_getElem? (i := 886) (by decide +kernel), List.mem_of_getElem? (i := 1074) (by decide +kernel), List.mem_of_getElem? (i := 1075) (by decide +kernel)⟩
theorem lw_p49 : lw_okq (⟨"HonestGoldModel", "readsOne", "()Z"⟩, 33) := ⟨⟨by decide +kernel, by decide +kernel⟩, List.mem_of_getElem? (i := 886) (by decide +kernel), List.mem_of_getElem? (i := 1078) (by decide +kernel), List.mem_of_getElem? (i := 1079) (by decide +kernel)⟩
theorem lw_p50 : lw_okq (⟨"HonestGoldModel", "number", "(II)Z"⟩, 33) := ⟨⟨by decide +kernel, by decide +kernel⟩, List.mem_of_getElem? (i := 886) (by decide +kernel), List.mem_of_getElem? (i := 1082) (by decide +kernel), List.mem_of_getElem? (i := 1083) (by decide +kernel)⟩
theorem lw_p51 : lw_okq (⟨"HonestGoldModel", "readsHands", "()Z"⟩, 33) := ⟨⟨by decide +kernel, by decide +kernel⟩, List.mem_of_getElem? (i := 886) (by decide +kernel), List.mem_of_getElem? (i := 1089) (by decide +kernel), List.mem_of_getElem? (i := 1090) (by decide +kernel)⟩
theorem lw_p52 : lw_okq (⟨"HonestGoldModel", "readsLie", "()Z"⟩, 33) := ⟨⟨by decide +kernel, by decide +kernel⟩, List.mem_of_getElem? (i := 886) (by decide +kernel), List.mem_of_getElem? (i := 1093) (by decide +kernel), List.mem_of_getElem? (i := 1094) (by decide +kernel)⟩
theorem lw_p53 : lw_okq (⟨"HonestGoldModel", "notes", "()V"⟩, 33) := ⟨⟨by decide +kernel, by decide +kernel⟩, List.mem_of_getElem? (i := 886) (by decide +kernel), List.mem_of_getElem? (i := 1104) (by decide +kernel), List.mem_of_getElem? (i := 1105) (by decide +kernel)⟩
theorem lw_p54 : lw_okq (⟨"HonestGoldModel", "lays", "([II)V"⟩, 33) := ⟨⟨by decide +kernel, by decide +kernel⟩, List.mem_of_getElem? (i := 886) (by decide +kernel), List.mem_of_getElem? (i := 1108) (by decide +kernel), List.mem_of_getElem? (i := 1109) (by decide +kernel)⟩
theorem lw_p55 : lw_okq (⟨"HonestGoldModel", "lies", "(II)V"⟩, 33) := ⟨⟨by decide +kernel, by decide +kernel⟩, List.mem_of_getElem? (i := 886) (by decide +kernel), List.mem_of_getElem? (i := 1112) (by decide +kernel), List.mem_of_getElem? (i := 1113) (by decide +kernel)⟩
theorem lw_p56 : lw_okq (⟨"HonestGoldModel", "honestBehind", "(II)I"⟩, 33) := ⟨⟨by decide +kernel, by decide +kernel⟩, List.mem_of_getElem? (i := 886) (by decide +kernel), List.mem_of_getElem? (i := 1116) (by decide +kernel), List.mem_of_getElem? (i := 1117) (by decide +kernel)⟩
theorem lw_p57 : lw_okq (⟨"HonestGoldModel", "no", "()I"⟩, 33) := ⟨⟨by decide +kernel, by decide +kernel⟩, List.mem_of_getElem? (i := 886) (by decide +kernel), List.mem_of_getElem? (i := 1127) (by decide +kernel), List.mem_of_getElem? (i := 1128) (by decide +kernel)⟩
theorem lw_p58 : lw_okq (⟨"HonestGoldModel", "pass", "()V"⟩, 33) := ⟨⟨by decide +kernel, by decide +kernel⟩, List.mem_of_getElem? (i := 886) (by decide +kernel), List.mem_of_getElem? (i := 1135) (by decide +kernel), List.mem_of_getElem? (i := 1136) (by decide +kernel)⟩
theorem lw_p59 : lw_okq (⟨"HonestGoldModel", "takes", "([II)V"⟩, 33) := ⟨⟨by decide +kernel, by decide +kernel⟩, List.mem_of_getElem? (i := 886) (by decide +kernel), List.mem_of_getElem? (i := 1146) (by decide +kernel), List.mem_of_getElem? (i := 1147) (by decide +kernel)⟩
theorem lw_p60 : lw_okq (⟨"HonestGoldModel", "ownWeight", "(I)I"⟩, 33) := ⟨⟨by decide +kernel, by decide +kernel⟩, List.mem_of_getElem? (i := 886) (by decide +kernel), List.mem_of_getElem? (i := 1154) (by decide +kernel), List.mem_of_getElem? (i := 1155) (by decide +kernel)⟩
theorem lw_p61 : lw_okq (⟨"HonestGoldModel", "weight", "(II)I"⟩, 33) := ⟨⟨by decide +kernel, by decide +kernel⟩, List.mem_of_getElem? (i := 886) (by decide +kernel), List.mem_of_getElem? (i := 1158) (by decide +kernel), List.mem_of_getElem? (i := 1159) (by decide +kernel)⟩
theorem lw_p62 : lw_okq (⟨"HonestGoldModel", "ten", "()I"⟩, 33) := ⟨⟨by decide +kernel, by decide +kernel⟩, List.mem_of_getElem? (i := 886) (by decide +kernel), List.mem_of_getElem? (i := 1181) (by decide +kernel), List.mem_of_getElem? (i := 1182) (by decide +kernel)⟩
theorem lw_p63 : lw_okq (⟨"HonestGoldModel", "setSteps", "(IIII)I"⟩, 33) := ⟨⟨by decide +kernel, by decide +kernel⟩, List.mem_of_getElem? (i := 886) (by decide +kernel), List.mem_of_getElem? (i := 1185) (by decide +kernel), List.mem_of_getElem? (i := 1186) (by decide +kernel)⟩
def lw_privs_4 : List (MethodName × Nat) := [(⟨"HonestGoldModel", "readsItem", "()Z"⟩, 33), (⟨"HonestGoldModel", "readsOne", "()Z"⟩, 33), (⟨"HonestGoldModel", "number", "(II)Z"⟩, 33), (⟨"HonestGoldModel", "readsHands", "()Z"⟩, 33), (⟨"HonestGoldModel", "readsLie", "()Z"⟩, 33), (⟨"HonestGoldModel", "notes", "()V"⟩, 33), (⟨"HonestGoldModel", "lays", "([II)V"⟩, 33), (⟨"HonestGoldModel", "lies", "(II)V"⟩, 33), (⟨"HonestGoldModel", "honestBehind", "(II)I"⟩, 33), (⟨"HonestGoldModel", "no", "()I"⟩, 33), (⟨"HonestGoldModel", "pass", "()V"⟩, 33), (⟨"HonestGoldModel", "takes", "([II)V"⟩, 33), (⟨"HonestGoldModel", "ownWeight", "(I)I"⟩, 33), (⟨"HonestGoldModel", "weight", "(II)I"⟩, 33), (⟨"HonestGoldModel", "ten", "()I"⟩, 33), (⟨"HonestGoldModel", "setSteps", "(IIII)I"⟩, 33)]
theorem lw_r4 : ∀ q ∈ lw_privs_4, lw_okq q := List.forall_mem_cons.mpr ⟨lw_p48, List.forall_mem_cons.mpr ⟨lw_p49, List.forall_mem_cons.mpr ⟨lw_p50, List.forall_mem_cons.mpr ⟨lw_p51, List.forall_mem_cons.mpr ⟨lw_p52, List.forall_mem_cons.mpr ⟨lw_p53, List.forall_mem_cons.mpr ⟨lw_p54, List.forall_mem_cons.mpr ⟨lw_p55, List.forall_mem_cons.mpr ⟨lw_p56, List.forall_mem_cons.mpr ⟨lw_p57, List.forall_mem_cons.mpr ⟨lw_p58, List.forall_mem_cons.mpr ⟨lw_p59, List.forall_mem_cons.mpr ⟨lw_p60, List.forall_mem_cons.mpr ⟨lw_p61, List.forall_mem_cons.mpr ⟨lw_p62, List.forall_mem_cons.mpr ⟨lw_p63, fun _ h => absurd h List.not_mem_nil⟩⟩⟩⟩⟩⟩⟩⟩⟩⟩⟩⟩⟩⟩⟩⟩
theorem lw_p64 : lw_okq (⟨"HonestGoldModel", "nextBags", "()Z"⟩, 33) := ⟨⟨by decide +kernel, by decide +kernel⟩, List.mem_of_getElem? (i := 886) (by decide +kernel), List.mem_of_getElem? (i := 1202) (by decide +kernel), List.mem_of_getElem? (i := 1203) (by decide +kernel)⟩
theorem lw_p65 : lw_okq (⟨"HonestGoldModel", "kindsOf", "(I)I"⟩, 33) := ⟨⟨by decide +kernel, by decide +kernel⟩, List.mem_of_getElem? (i := 886) (by decide +kernel), List.mem_of_getElem? (i := 1218) (by decide +kernel), List.mem_of_getElem? (i := 1219) (by decide +kernel)⟩
theorem lw_p66 : lw_okq (⟨"HonestGoldModel", "isSo", "(III)Z"⟩, 33) := ⟨⟨by decide +kernel, by decide +kernel⟩, List.mem_of_getElem? (i := 886) (by decide +kernel), List.mem_of_getElem? (i := 1222) (by decide +kernel), List.mem_of_getElem? (i := 1223) (by decide +kernel)⟩
theorem lw_p67 : lw_okq (⟨"HonestGoldModel", "alike", "(III)I"⟩, 33) := ⟨⟨by decide +kernel, by decide +kernel⟩, List.mem_of_getElem? (i := 886) (by decide +kernel), List.mem_of_getElem? (i := 1230) (by decide +kernel), List.mem_of_getElem? (i := 1231) (by decide +kernel)⟩
theorem lw_p68 : lw_okq (⟨"HonestGoldModel", "gets", "(IZZ)I"⟩, 33) := ⟨⟨by decide +kernel, by decide +kernel⟩, List.mem_of_getElem? (i := 886) (by decide +kernel), List.mem_of_getElem? (i := 1238) (by decide +kernel), List.mem_of_getElem? (i := 1239) (by decide +kernel)⟩
theorem lw_p69 : lw_okq (⟨"HonestGoldModel", "lay", "(JJ)V"⟩, 33) := ⟨⟨by decide +kernel, by decide +kernel⟩, List.mem_of_getElem? (i := 886) (by decide +kernel), List.mem_of_getElem? (i := 1247) (by decide +kernel), List.mem_of_getElem? (i := 1248) (by decide +kernel)⟩
theorem lw_p70 : lw_okq (⟨"HonestGoldModel", "puts", "()V"⟩, 33) := ⟨⟨by decide +kernel, by decide +kernel⟩, List.mem_of_getElem? (i := 886) (by decide +kernel), List.mem_of_getElem? (i := 1256) (by decide +kernel), List.mem_of_getElem? (i := 1257) (by decide +kernel)⟩
theorem lw_p71 : lw_okq (⟨"HonestGoldModel", "back", "()V"⟩, 33) := ⟨⟨by decide +kernel, by decide +kernel⟩, List.mem_of_getElem? (i := 886) (by decide +kernel), List.mem_of_getElem? (i := 1268) (by decide +kernel), List.mem_of_getElem? (i := 1269) (by decide +kernel)⟩
theorem lw_p72 : lw_okq (⟨"HonestGoldModel", "countOf", "(I)I"⟩, 33) := ⟨⟨by decide +kernel, by decide +kernel⟩, List.mem_of_getElem? (i := 886) (by decide +kernel), List.mem_of_getElem? (i := 1292) (by decide +kernel), List.mem_of_getElem? (i := 1293) (by decide +kernel)⟩
theorem lw_p73 : lw_okq (⟨"HonestGoldModel", "allPieces", "()I"⟩, 33) := ⟨⟨by decide +kernel, by decide +kernel⟩, List.mem_of_getElem? (i := 886) (by decide +kernel), List.mem_of_getElem? (i := 1296) (by decide +kernel), List.mem_of_getElem? (i := 1297) (by decide +kernel)⟩
theorem lw_p74 : lw_okq (⟨"HonestGoldModel", "mix", "(J)V"⟩, 33) := ⟨⟨by decide +kernel, by decide +kernel⟩, List.mem_of_getElem? (i := 886) (by decide +kernel), List.mem_of_getElem? (i := 1308) (by decide +kernel), List.mem_of_getElem? (i := 1309) (by decide +kernel)⟩
def lw_privs_5 : List (MethodName × Nat) := [(⟨"HonestGoldModel", "nextBags", "()Z"⟩, 33), (⟨"HonestGoldModel", "kindsOf", "(I)I"⟩, 33), (⟨"HonestGoldModel", "isSo", "(III)Z"⟩, 33), (⟨"HonestGoldModel", "alike", "(III)I"⟩, 33), (⟨"HonestGoldModel", "gets", "(IZZ)I"⟩, 33), (⟨"HonestGoldModel", "lay", "(JJ)V"⟩, 33), (⟨"HonestGoldModel", "puts", "()V"⟩, 33), (⟨"HonestGoldModel", "back", "()V"⟩, 33), (⟨"HonestGoldModel", "countOf", "(I)I"⟩, 33), (⟨"HonestGoldModel", "allPieces", "()I"⟩, 33), (⟨"HonestGoldModel", "mix", "(J)V"⟩, 33)]
theorem lw_r5 : ∀ q ∈ lw_privs_5, lw_okq q := List.forall_mem_cons.mpr ⟨lw_p64, List.forall_mem_cons.mpr ⟨lw_p65, List.forall_mem_cons.mpr ⟨lw_p66, List.forall_mem_cons.mpr ⟨lw_p67, List.forall_mem_cons.mpr ⟨lw_p68, List.forall_mem_cons.mpr ⟨lw_p69, List.forall_mem_cons.mpr ⟨lw_p70, List.forall_mem_cons.mpr ⟨lw_p71, List.forall_mem_cons.mpr ⟨lw_p72, List.forall_mem_cons.mpr ⟨lw_p73, List.forall_mem_cons.mpr ⟨lw_p74, fun _ h => absurd h List.not_mem_nil⟩⟩⟩⟩⟩⟩⟩⟩⟩⟩⟩
def lw_privs : List (MethodName × Nat) := lw_privs_1 ++ (lw_privs_2 ++ (lw_privs_3 ++ (lw_privs_4 ++ (lw_privs_5))))
def lw_tbl : List Cond := k2_sels lw_privs ++ tables_1
theorem lw_privs_ok : ∀ q ∈ lw_privs, lw_okq q := by
  show ∀ q ∈ lw_privs_1 ++ (lw_privs_2 ++ (lw_privs_3 ++ (lw_privs_4 ++ (lw_privs_5)))), lw_okq q
  exact List.forall_mem_append.mpr ⟨lw_r1, List.forall_mem_append.mpr ⟨lw_r2, List.forall_mem_append.mpr ⟨lw_r3, List.forall_mem_append.mpr ⟨lw_r4, lw_r5⟩⟩⟩⟩
-- ===== end of PART A; then your names; then what follows =====
end
section
def RX0 : String := "HonestGold$Banker"
def TX0 : u_T := fun k => match k with
  | _ => ("", "", "", false)
def tyX0 : Nat → FieldType := fun k => match k with
  | _ => .int
abbrev wsX00 : List Cond := u_ws RX0 TX0 0
theorem nmX0 : ∀ a, a < 0 → ∀ b, b < 0 → a ≠ b → (TX0 a).2.1 ≠ (TX0 b).2.1 := by decide +kernel
theorem tyX0_ok : ∀ k, k < 0 → parseFieldDescriptor (TX0 k).2.2.1 = some (tyX0 k) := by decide +kernel
abbrev cX0_init : ByteArray := prog_2_method_1_code
def yX0_init : MethodName := ⟨RX0, "<init>", "()V"⟩
abbrev cX0_weight : ByteArray := prog_2_method_2_code
def yX0_weight : MethodName := ⟨RX0, "weight", "(III)I"⟩
def RX1 : String := "HonestGold$Child"
def TX1 : u_T := fun k => match k with
  | _ => ("", "", "", false)
def tyX1 : Nat → FieldType := fun k => match k with
  | _ => .int
abbrev wsX10 : List Cond := u_ws RX1 TX1 0
theorem nmX1 : ∀ a, a < 0 → ∀ b, b < 0 → a ≠ b → (TX1 a).2.1 ≠ (TX1 b).2.1 := by decide +kernel
theorem tyX1_ok : ∀ k, k < 0 → parseFieldDescriptor (TX1 k).2.2.1 = some (tyX1 k) := by decide +kernel
abbrev cX1_init : ByteArray := prog_3_method_1_code
def yX1_init : MethodName := ⟨RX1, "<init>", "()V"⟩
abbrev cX1_weight : ByteArray := prog_3_method_2_code
def yX1_weight : MethodName := ⟨RX1, "weight", "(III)I"⟩
abbrev cX1_loss : ByteArray := prog_3_method_3_code
def yX1_loss : MethodName := ⟨RX1, "loss", "(I)I"⟩
def RX2 : String := "HonestGold$Half"
def TX2 : u_T := fun k => match k with
  | _ => ("", "", "", false)
def tyX2 : Nat → FieldType := fun k => match k with
  | _ => .int
abbrev wsX20 : List Cond := u_ws RX2 TX2 0
theorem nmX2 : ∀ a, a < 0 → ∀ b, b < 0 → a ≠ b → (TX2 a).2.1 ≠ (TX2 b).2.1 := by decide +kernel
theorem tyX2_ok : ∀ k, k < 0 → parseFieldDescriptor (TX2 k).2.2.1 = some (tyX2 k) := by decide +kernel
abbrev cX2_init : ByteArray := prog_4_method_1_code
def yX2_init : MethodName := ⟨RX2, "<init>", "()V"⟩
abbrev cX2_weight : ByteArray := prog_4_method_2_code
def yX2_weight : MethodName := ⟨RX2, "weight", "(III)I"⟩
abbrev cX2_loss : ByteArray := prog_4_method_3_code
def yX2_loss : MethodName := ⟨RX2, "loss", "(I)I"⟩
def RX3 : String := "HonestGold$Minister"
def TX3 : u_T := fun k => match k with
  | _ => ("", "", "", false)
def tyX3 : Nat → FieldType := fun k => match k with
  | _ => .int
abbrev wsX30 : List Cond := u_ws RX3 TX3 0
theorem nmX3 : ∀ a, a < 0 → ∀ b, b < 0 → a ≠ b → (TX3 a).2.1 ≠ (TX3 b).2.1 := by decide +kernel
theorem tyX3_ok : ∀ k, k < 0 → parseFieldDescriptor (TX3 k).2.2.1 = some (tyX3 k) := by decide +kernel
abbrev cX3_init : ByteArray := prog_5_method_1_code
def yX3_init : MethodName := ⟨RX3, "<init>", "()V"⟩
abbrev cX3_weight : ByteArray := prog_5_method_2_code
def yX3_weight : MethodName := ⟨RX3, "weight", "(III)I"⟩
def RX4 : String := "HonestGold$Notes"
def TX4 : u_T := fun k => match k with
  | 0 => ("HonestGold$Notes", "who", "[I", true)
  | 1 => ("HonestGold$Notes", "pieces", "[I", true)
  | 2 => ("HonestGold$Notes", "weight", "[I", true)
  | 3 => ("HonestGold$Notes", "day", "[I", true)
  | _ => ("HonestGold$Notes", "size", "I", false)
def tyX4 : Nat → FieldType := fun k => match k with
  | 0 => .array .int
  | 1 => .array .int
  | 2 => .array .int
  | 3 => .array .int
  | _ => .int
abbrev wsX40 : List Cond := u_ws RX4 TX4 5
theorem nmX4 : ∀ a, a < 5 → ∀ b, b < 5 → a ≠ b → (TX4 a).2.1 ≠ (TX4 b).2.1 := by decide +kernel
theorem tyX4_ok : ∀ k, k < 5 → parseFieldDescriptor (TX4 k).2.2.1 = some (tyX4 k) := by decide +kernel
abbrev cX4_init : ByteArray := prog_6_method_1_code
def yX4_init : MethodName := ⟨RX4, "<init>", "()V"⟩
abbrev cX4_size : ByteArray := prog_6_method_2_code
def yX4_size : MethodName := ⟨RX4, "size", "()I"⟩
abbrev cX4_drop : ByteArray := prog_6_method_3_code
def yX4_drop : MethodName := ⟨RX4, "drop", "()V"⟩
abbrev cX4_add : ByteArray := prog_6_method_4_code
def yX4_add : MethodName := ⟨RX4, "add", "(IIII)I"⟩
abbrev cX4_copyFrom : ByteArray := prog_6_method_5_code
def yX4_copyFrom : MethodName := ⟨RX4, "copyFrom", "(LHonestGold$Notes;)V"⟩
abbrev cX4_kindsThatFit : ByteArray := prog_6_method_6_code
def yX4_kindsThatFit : MethodName := ⟨RX4, "kindsThatFit", "(LHonestGold$Treasury;I)I"⟩
abbrev cX4_honestiesThatFit : ByteArray := prog_6_method_7_code
def yX4_honestiesThatFit : MethodName := ⟨RX4, "honestiesThatFit", "(LHonestGold$Treasury;I)I"⟩
abbrev cX4_bestWeighing : ByteArray := prog_6_method_8_code
def yX4_bestWeighing : MethodName := ⟨RX4, "bestWeighing", "(LHonestGold$Treasury;II)I"⟩
abbrev cX4_mixInto : ByteArray := prog_6_method_9_code
def yX4_mixInto : MethodName := ⟨RX4, "mixInto", "(J)J"⟩
abbrev cX4_allFit : ByteArray := prog_6_method_10_code
def yX4_allFit : MethodName := ⟨RX4, "allFit", "(LHonestGold$Treasury;III)Z"⟩
abbrev cX4_mostAlike : ByteArray := prog_6_method_11_code
def yX4_mostAlike : MethodName := ⟨RX4, "mostAlike", "(LHonestGold$Treasury;III)I"⟩
def RX5 : String := "HonestGold$Past"
def TX5 : u_T := fun k => match k with
  | 0 => ("HonestGold$Past", "rows", "[I", true)
  | _ => ("HonestGold$Past", "steps", "I", false)
def tyX5 : Nat → FieldType := fun k => match k with
  | 0 => .array .int
  | _ => .int
abbrev wsX50 : List Cond := u_ws RX5 TX5 2
theorem nmX5 : ∀ a, a < 2 → ∀ b, b < 2 → a ≠ b → (TX5 a).2.1 ≠ (TX5 b).2.1 := by decide +kernel
theorem tyX5_ok : ∀ k, k < 2 → parseFieldDescriptor (TX5 k).2.2.1 = some (tyX5 k) := by decide +kernel
abbrev cX5_init : ByteArray := prog_7_method_1_code
def yX5_init : MethodName := ⟨RX5, "<init>", "()V"⟩
abbrev cX5_size : ByteArray := prog_7_method_2_code
def yX5_size : MethodName := ⟨RX5, "size", "()I"⟩
abbrev cX5_drop : ByteArray := prog_7_method_3_code
def yX5_drop : MethodName := ⟨RX5, "drop", "()V"⟩
abbrev cX5_dropLast : ByteArray := prog_7_method_4_code
def yX5_dropLast : MethodName := ⟨RX5, "dropLast", "()V"⟩
abbrev cX5_open : ByteArray := prog_7_method_5_code
def yX5_open : MethodName := ⟨RX5, "open", "()V"⟩
abbrev cX5_put : ByteArray := prog_7_method_6_code
def yX5_put : MethodName := ⟨RX5, "put", "(II)V"⟩
abbrev cX5_last : ByteArray := prog_7_method_7_code
def yX5_last : MethodName := ⟨RX5, "last", "(I)I"⟩
abbrev cX5_copyFrom : ByteArray := prog_7_method_8_code
def yX5_copyFrom : MethodName := ⟨RX5, "copyFrom", "(LHonestGold$Past;)V"⟩
abbrev cX5_placeOf : ByteArray := prog_7_method_9_code
def yX5_placeOf : MethodName := ⟨RX5, "placeOf", "(I)I"⟩
def RX6 : String := "HonestGold$Plain"
def TX6 : u_T := fun k => match k with
  | _ => ("", "", "", false)
def tyX6 : Nat → FieldType := fun k => match k with
  | _ => .int
abbrev wsX60 : List Cond := u_ws RX6 TX6 0
theorem nmX6 : ∀ a, a < 0 → ∀ b, b < 0 → a ≠ b → (TX6 a).2.1 ≠ (TX6 b).2.1 := by decide +kernel
theorem tyX6_ok : ∀ k, k < 0 → parseFieldDescriptor (TX6 k).2.2.1 = some (tyX6 k) := by decide +kernel
abbrev cX6_init : ByteArray := prog_8_method_1_code
def yX6_init : MethodName := ⟨RX6, "<init>", "()V"⟩
abbrev cX6_weight : ByteArray := prog_8_method_2_code
def yX6_weight : MethodName := ⟨RX6, "weight", "(III)I"⟩
abbrev cX6_loss : ByteArray := prog_8_method_3_code
def yX6_loss : MethodName := ⟨RX6, "loss", "(I)I"⟩
def RX7 : String := "HonestGold$Reader"
def TX7 : u_T := fun k => match k with
  | 0 => ("HonestGold$Reader", "text", "[I", true)
  | 1 => ("HonestGold$Reader", "length", "I", false)
  | 2 => ("HonestGold$Reader", "tokenStart", "I", false)
  | 3 => ("HonestGold$Reader", "tokenEnd", "I", false)
  | 4 => ("HonestGold$Reader", "token", "I", false)
  | 5 => ("HonestGold$Reader", "number", "I", false)
  | _ => ("HonestGold$Reader", "fault", "I", false)
def tyX7 : Nat → FieldType := fun k => match k with
  | 0 => .array .int
  | 1 => .int
  | 2 => .int
  | 3 => .int
  | 4 => .int
  | 5 => .int
  | _ => .int
abbrev wsX70 : List Cond := u_ws RX7 TX7 7
theorem nmX7 : ∀ a, a < 7 → ∀ b, b < 7 → a ≠ b → (TX7 a).2.1 ≠ (TX7 b).2.1 := by decide +kernel
theorem tyX7_ok : ∀ k, k < 7 → parseFieldDescriptor (TX7 k).2.2.1 = some (tyX7 k) := by decide +kernel
abbrev cX7_init : ByteArray := prog_9_method_1_code
def yX7_init : MethodName := ⟨RX7, "<init>", "()V"⟩
abbrev cX7_length : ByteArray := prog_9_method_2_code
def yX7_length : MethodName := ⟨RX7, "length", "()I"⟩
abbrev cX7_drop : ByteArray := prog_9_method_3_code
def yX7_drop : MethodName := ⟨RX7, "drop", "()V"⟩
abbrev cX7_append : ByteArray := prog_9_method_4_code
def yX7_append : MethodName := ⟨RX7, "append", "(I)I"⟩
abbrev cX7_faultAt : ByteArray := prog_9_method_5_code
def yX7_faultAt : MethodName := ⟨RX7, "faultAt", "()I"⟩
abbrev cX7_readInto : ByteArray := prog_9_method_6_code
def yX7_readInto : MethodName := ⟨RX7, "readInto", "(LHonestGold$Treasury;)I"⟩
abbrev cX7_takeGold : ByteArray := prog_9_method_7_code
def yX7_takeGold : MethodName := ⟨RX7, "takeGold", "()V"⟩
abbrev cX7_takeOne : ByteArray := prog_9_method_8_code
def yX7_takeOne : MethodName := ⟨RX7, "takeOne", "(LHonestGold$Treasury;)V"⟩
abbrev cX7_takeHands : ByteArray := prog_9_method_9_code
def yX7_takeHands : MethodName := ⟨RX7, "takeHands", "(LHonestGold$Treasury;)V"⟩
abbrev cX7_takeLie : ByteArray := prog_9_method_10_code
def yX7_takeLie : MethodName := ⟨RX7, "takeLie", "(LHonestGold$Treasury;)V"⟩
abbrev cX7_takeNumber : ByteArray := prog_9_method_11_code
def yX7_takeNumber : MethodName := ⟨RX7, "takeNumber", "(II)I"⟩
abbrev cX7_takeStop : ByteArray := prog_9_method_12_code
def yX7_takeStop : MethodName := ⟨RX7, "takeStop", "()V"⟩
abbrev cX7_failHere : ByteArray := prog_9_method_13_code
def yX7_failHere : MethodName := ⟨RX7, "failHere", "()V"⟩
abbrev cX7_isWord : ByteArray := prog_9_method_14_code
def yX7_isWord : MethodName := ⟨RX7, "isWord", "(Ljava/lang/String;)Z"⟩
abbrev cX7_step : ByteArray := prog_9_method_15_code
def yX7_step : MethodName := ⟨RX7, "step", "()V"⟩
abbrev cX7_runEnd : ByteArray := prog_9_method_16_code
def yX7_runEnd : MethodName := ⟨RX7, "runEnd", "(III)I"⟩
abbrev cX7_numberBetween : ByteArray := prog_9_method_17_code
def yX7_numberBetween : MethodName := ⟨RX7, "numberBetween", "(II)I"⟩
abbrev cX7_byteAt : ByteArray := prog_9_method_18_code
def yX7_byteAt : MethodName := ⟨RX7, "byteAt", "(I)I"⟩
def RX8 : String := "HonestGold$Smith"
def TX8 : u_T := fun k => match k with
  | _ => ("", "", "", false)
def tyX8 : Nat → FieldType := fun k => match k with
  | _ => .int
abbrev wsX80 : List Cond := u_ws RX8 TX8 0
theorem nmX8 : ∀ a, a < 0 → ∀ b, b < 0 → a ≠ b → (TX8 a).2.1 ≠ (TX8 b).2.1 := by decide +kernel
theorem tyX8_ok : ∀ k, k < 0 → parseFieldDescriptor (TX8 k).2.2.1 = some (tyX8 k) := by decide +kernel
abbrev cX8_init : ByteArray := prog_10_method_1_code
def yX8_init : MethodName := ⟨RX8, "<init>", "()V"⟩
abbrev cX8_weight : ByteArray := prog_10_method_2_code
def yX8_weight : MethodName := ⟨RX8, "weight", "(III)I"⟩
abbrev cX8_loss : ByteArray := prog_10_method_3_code
def yX8_loss : MethodName := ⟨RX8, "loss", "(I)I"⟩
def RX9 : String := "HonestGold$Treasury"
def TX9 : u_T := fun k => match k with
  | 0 => ("HonestGold$Treasury", "plain", "LHonestGold$Plain;", true)
  | 1 => ("HonestGold$Treasury", "kinds", "[LHonestGold$Plain;", true)
  | 2 => ("HonestGold$Treasury", "kind", "[I", true)
  | 3 => ("HonestGold$Treasury", "honesty", "[I", true)
  | 4 => ("HonestGold$Treasury", "pieces", "[I", true)
  | 5 => ("HonestGold$Treasury", "pay", "[I", true)
  | 6 => ("HonestGold$Treasury", "hands", "[I", true)
  | 7 => ("HonestGold$Treasury", "notes", "LHonestGold$Notes;", true)
  | 8 => ("HonestGold$Treasury", "past", "LHonestGold$Past;", true)
  | 9 => ("HonestGold$Treasury", "people", "I", false)
  | 10 => ("HonestGold$Treasury", "day", "I", false)
  | _ => ("HonestGold$Treasury", "lied", "I", false)
def tyX9 : Nat → FieldType := fun k => match k with
  | 0 => .object "HonestGold$Plain"
  | 1 => .array (.object "HonestGold$Plain")
  | 2 => .array .int
  | 3 => .array .int
  | 4 => .array .int
  | 5 => .array .int
  | 6 => .array .int
  | 7 => .object "HonestGold$Notes"
  | 8 => .object "HonestGold$Past"
  | 9 => .int
  | 10 => .int
  | _ => .int
abbrev wsX90 : List Cond := u_ws RX9 TX9 12
theorem nmX9 : ∀ a, a < 12 → ∀ b, b < 12 → a ≠ b → (TX9 a).2.1 ≠ (TX9 b).2.1 := by decide +kernel
theorem tyX9_ok : ∀ k, k < 12 → parseFieldDescriptor (TX9 k).2.2.1 = some (tyX9 k) := by decide +kernel
abbrev cX9_init : ByteArray := prog_11_method_1_code
def yX9_init : MethodName := ⟨RX9, "<init>", "()V"⟩
abbrev cX9_empty : ByteArray := prog_11_method_2_code
def yX9_empty : MethodName := ⟨RX9, "empty", "()V"⟩
abbrev cX9_copyFrom : ByteArray := prog_11_method_3_code
def yX9_copyFrom : MethodName := ⟨RX9, "copyFrom", "(LHonestGold$Treasury;)V"⟩
abbrev cX9_people : ByteArray := prog_11_method_4_code
def yX9_people : MethodName := ⟨RX9, "people", "()I"⟩
abbrev cX9_isThere : ByteArray := prog_11_method_5_code
def yX9_isThere : MethodName := ⟨RX9, "isThere", "(I)Z"⟩
abbrev cX9_kindOf : ByteArray := prog_11_method_6_code
def yX9_kindOf : MethodName := ⟨RX9, "kindOf", "(I)I"⟩
abbrev cX9_honestyOf : ByteArray := prog_11_method_7_code
def yX9_honestyOf : MethodName := ⟨RX9, "honestyOf", "(I)I"⟩
abbrev cX9_piecesOf : ByteArray := prog_11_method_8_code
def yX9_piecesOf : MethodName := ⟨RX9, "piecesOf", "(I)I"⟩
abbrev cX9_payOf : ByteArray := prog_11_method_9_code
def yX9_payOf : MethodName := ⟨RX9, "payOf", "(I)I"⟩
abbrev cX9_handsOf : ByteArray := prog_11_method_10_code
def yX9_handsOf : MethodName := ⟨RX9, "handsOf", "(I)I"⟩
abbrev cX9_liedOf : ByteArray := prog_11_method_11_code
def yX9_liedOf : MethodName := ⟨RX9, "liedOf", "(I)I"⟩
abbrev cX9_today : ByteArray := prog_11_method_12_code
def yX9_today : MethodName := ⟨RX9, "today", "()I"⟩
abbrev cX9_liars : ByteArray := prog_11_method_13_code
def yX9_liars : MethodName := ⟨RX9, "liars", "()I"⟩
abbrev cX9_notes : ByteArray := prog_11_method_14_code
def yX9_notes : MethodName := ⟨RX9, "notes", "()LHonestGold$Notes;"⟩
abbrev cX9_allPieces : ByteArray := prog_11_method_15_code
def yX9_allPieces : MethodName := ⟨RX9, "allPieces", "()I"⟩
abbrev cX9_join : ByteArray := prog_11_method_16_code
def yX9_join : MethodName := ⟨RX9, "join", "(IIII)I"⟩
abbrev cX9_tellHands : ByteArray := prog_11_method_17_code
def yX9_tellHands : MethodName := ⟨RX9, "tellHands", "(II)V"⟩
abbrev cX9_tellLie : ByteArray := prog_11_method_18_code
def yX9_tellLie : MethodName := ⟨RX9, "tellLie", "(II)V"⟩
abbrev cX9_handOn : ByteArray := prog_11_method_19_code
def yX9_handOn : MethodName := ⟨RX9, "handOn", "(III)V"⟩
abbrev cX9_passDay : ByteArray := prog_11_method_20_code
def yX9_passDay : MethodName := ⟨RX9, "passDay", "()V"⟩
abbrev cX9_steps : ByteArray := prog_11_method_21_code
def yX9_steps : MethodName := ⟨RX9, "steps", "()I"⟩
abbrev cX9_forgetSteps : ByteArray := prog_11_method_22_code
def yX9_forgetSteps : MethodName := ⟨RX9, "forgetSteps", "()V"⟩
abbrev cX9_keepStep : ByteArray := prog_11_method_23_code
def yX9_keepStep : MethodName := ⟨RX9, "keepStep", "()V"⟩
abbrev cX9_stepBack : ByteArray := prog_11_method_24_code
def yX9_stepBack : MethodName := ⟨RX9, "stepBack", "()V"⟩
abbrev cX9_weightBy : ByteArray := prog_11_method_25_code
def yX9_weightBy : MethodName := ⟨RX9, "weightBy", "(IIII)I"⟩
abbrev cX9_weightWith : ByteArray := prog_11_method_26_code
def yX9_weightWith : MethodName := ⟨RX9, "weightWith", "(II)I"⟩
abbrev cX9_ownWeight : ByteArray := prog_11_method_27_code
def yX9_ownWeight : MethodName := ⟨RX9, "ownWeight", "(I)I"⟩
abbrev cX9_allWeight : ByteArray := prog_11_method_28_code
def yX9_allWeight : MethodName := ⟨RX9, "allWeight", "()I"⟩
abbrev cX9_daysUntil : ByteArray := prog_11_method_29_code
def yX9_daysUntil : MethodName := ⟨RX9, "daysUntil", "(II)I"⟩
abbrev cX9_fewestPieces : ByteArray := prog_11_method_30_code
def yX9_fewestPieces : MethodName := ⟨RX9, "fewestPieces", "(II)I"⟩
abbrev cX9_truthWorth : ByteArray := prog_11_method_31_code
def yX9_truthWorth : MethodName := ⟨RX9, "truthWorth", "(I)I"⟩
abbrev cX9_mixInto : ByteArray := prog_11_method_32_code
def yX9_mixInto : MethodName := ⟨RX9, "mixInto", "(J)J"⟩
abbrev cX9_kindNumbered : ByteArray := prog_11_method_33_code
def yX9_kindNumbered : MethodName := ⟨RX9, "kindNumbered", "(I)LHonestGold$Plain;"⟩
abbrev cX9_honestyBehindLie : ByteArray := prog_11_method_34_code
def yX9_honestyBehindLie : MethodName := ⟨RX9, "honestyBehindLie", "(II)I"⟩
abbrev cX9_honestyAfter : ByteArray := prog_11_method_35_code
def yX9_honestyAfter : MethodName := ⟨RX9, "honestyAfter", "(II)I"⟩
def RX10 : String := "HonestGold$Ways"
def TX10 : u_T := fun k => match k with
  | 0 => ("HonestGold$Ways", "heft", "[I", true)
  | 1 => ("HonestGold$Ways", "far", "[I", true)
  | 2 => ("HonestGold$Ways", "lightest", "[I", true)
  | _ => ("HonestGold$Ways", "bagWeights", "[I", true)
def tyX10 : Nat → FieldType := fun k => match k with
  | 0 => .array .int
  | 1 => .array .int
  | 2 => .array .int
  | _ => .array .int
abbrev wsX100 : List Cond := u_ws RX10 TX10 4
theorem nmX10 : ∀ a, a < 4 → ∀ b, b < 4 → a ≠ b → (TX10 a).2.1 ≠ (TX10 b).2.1 := by decide +kernel
theorem tyX10_ok : ∀ k, k < 4 → parseFieldDescriptor (TX10 k).2.2.1 = some (tyX10 k) := by decide +kernel
abbrev cX10_init : ByteArray := prog_12_method_1_code
def yX10_init : MethodName := ⟨RX10, "<init>", "()V"⟩
abbrev cX10_carry : ByteArray := prog_12_method_2_code
def yX10_carry : MethodName := ⟨RX10, "carry", "(LHonestGold$Treasury;III)I"⟩
abbrev cX10_handAt : ByteArray := prog_12_method_3_code
def yX10_handAt : MethodName := ⟨RX10, "handAt", "(LHonestGold$Treasury;II)I"⟩
abbrev cX10_nearerHand : ByteArray := prog_12_method_4_code
def yX10_nearerHand : MethodName := ⟨RX10, "nearerHand", "(LHonestGold$Treasury;I)I"⟩
abbrev cX10_measure : ByteArray := prog_12_method_5_code
def yX10_measure : MethodName := ⟨RX10, "measure", "(LHonestGold$Treasury;III)I"⟩
abbrev cX10_handsToOneAt : ByteArray := prog_12_method_6_code
def yX10_handsToOneAt : MethodName := ⟨RX10, "handsToOneAt", "(LHonestGold$Treasury;II)Z"⟩
abbrev cX10_weighers : ByteArray := prog_12_method_7_code
def yX10_weighers : MethodName := ⟨RX10, "weighers", "(LHonestGold$Treasury;II)I"⟩
abbrev cX10_weightTogether : ByteArray := prog_12_method_8_code
def yX10_weightTogether : MethodName := ⟨RX10, "weightTogether", "(I)I"⟩
abbrev cX10_payTogether : ByteArray := prog_12_method_9_code
def yX10_payTogether : MethodName := ⟨RX10, "payTogether", "(LHonestGold$Treasury;I)I"⟩
abbrev cX10_shelve : ByteArray := prog_12_method_10_code
def yX10_shelve : MethodName := ⟨RX10, "shelve", "(LHonestGold$Treasury;II)I"⟩
abbrev cX10_bagOf : ByteArray := prog_12_method_11_code
def yX10_bagOf : MethodName := ⟨RX10, "bagOf", "(II)I"⟩
abbrev cX10_firstBag : ByteArray := prog_12_method_12_code
def yX10_firstBag : MethodName := ⟨RX10, "firstBag", "(II)I"⟩
abbrev cX10_lightestWith : ByteArray := prog_12_method_13_code
def yX10_lightestWith : MethodName := ⟨RX10, "lightestWith", "(II)I"⟩
abbrev cX10_weighBags : ByteArray := prog_12_method_14_code
def yX10_weighBags : MethodName := ⟨RX10, "weighBags", "(LHonestGold$Treasury;II)V"⟩
abbrev cX10_bagWeight : ByteArray := prog_12_method_15_code
def yX10_bagWeight : MethodName := ⟨RX10, "bagWeight", "(II)I"⟩
abbrev cX10_weighEach : ByteArray := prog_12_method_16_code
def yX10_weighEach : MethodName := ⟨RX10, "weighEach", "(LHonestGold$Treasury;I)V"⟩
abbrev cX10_heftOf : ByteArray := prog_12_method_17_code
def yX10_heftOf : MethodName := ⟨RX10, "heftOf", "(I)I"⟩
abbrev cX10_farOf : ByteArray := prog_12_method_18_code
def yX10_farOf : MethodName := ⟨RX10, "farOf", "(I)I"⟩
abbrev cX10_lightestOf : ByteArray := prog_12_method_19_code
def yX10_lightestOf : MethodName := ⟨RX10, "lightestOf", "(I)I"⟩
abbrev cX10_putLightest : ByteArray := prog_12_method_20_code
def yX10_putLightest : MethodName := ⟨RX10, "putLightest", "(II)V"⟩
def RX11 : String := "HonestGold"
def TX11 : u_T := fun k => match k with
  | 0 => ("HonestGold", "now", "LHonestGold$Treasury;", true)
  | 1 => ("HonestGold", "aside", "LHonestGold$Treasury;", true)
  | 2 => ("HonestGold", "images", "[LHonestGold$Treasury;", true)
  | 3 => ("HonestGold", "reader", "LHonestGold$Reader;", true)
  | 4 => ("HonestGold", "ways", "LHonestGold$Ways;", true)
  | 5 => ("HonestGold", "above", "J", false)
  | 6 => ("HonestGold", "below", "J", false)
  | 7 => ("HonestGold", "badCalls", "I", false)
  | 8 => ("HonestGold", "noCalls", "I", false)
  | _ => ("HonestGold", "fullCalls", "I", false)
def tyX11 : Nat → FieldType := fun k => match k with
  | 0 => .object "HonestGold$Treasury"
  | 1 => .object "HonestGold$Treasury"
  | 2 => .array (.object "HonestGold$Treasury")
  | 3 => .object "HonestGold$Reader"
  | 4 => .object "HonestGold$Ways"
  | 5 => .long
  | 6 => .long
  | 7 => .int
  | 8 => .int
  | _ => .int
abbrev wsX110 : List Cond := u_ws RX11 TX11 10
theorem nmX11 : ∀ a, a < 10 → ∀ b, b < 10 → a ≠ b → (TX11 a).2.1 ≠ (TX11 b).2.1 := by decide +kernel
theorem tyX11_ok : ∀ k, k < 10 → parseFieldDescriptor (TX11 k).2.2.1 = some (tyX11 k) := by decide +kernel
abbrev cX11_init : ByteArray := prog_1_method_1_code
def yX11_init : MethodName := ⟨RX11, "<init>", "()V"⟩
abbrev cX11_gold : ByteArray := prog_1_method_2_code
def yX11_gold : MethodName := ⟨RX11, "gold", "()I"⟩
abbrev cX11_one : ByteArray := prog_1_method_3_code
def yX11_one : MethodName := ⟨RX11, "one", "(IIII)I"⟩
abbrev cX11_hands : ByteArray := prog_1_method_4_code
def yX11_hands : MethodName := ⟨RX11, "hands", "(III)I"⟩
abbrev cX11_type : ByteArray := prog_1_method_5_code
def yX11_type : MethodName := ⟨RX11, "type", "(I)I"⟩
abbrev cX11_clear : ByteArray := prog_1_method_6_code
def yX11_clear : MethodName := ⟨RX11, "clear", "()I"⟩
abbrev cX11_read : ByteArray := prog_1_method_7_code
def yX11_read : MethodName := ⟨RX11, "read", "()I"⟩
abbrev cX11_lie : ByteArray := prog_1_method_8_code
def yX11_lie : MethodName := ⟨RX11, "lie", "(II)I"⟩
abbrev cX11_give : ByteArray := prog_1_method_9_code
def yX11_give : MethodName := ⟨RX11, "give", "(III)I"⟩
abbrev cX11_day : ByteArray := prog_1_method_10_code
def yX11_day : MethodName := ⟨RX11, "day", "()I"⟩
abbrev cX11_undo : ByteArray := prog_1_method_11_code
def yX11_undo : MethodName := ⟨RX11, "undo", "()I"⟩
abbrev cX11_of : ByteArray := prog_1_method_12_code
def yX11_of : MethodName := ⟨RX11, "of", "(II)I"⟩
abbrev cX11_weighs : ByteArray := prog_1_method_13_code
def yX11_weighs : MethodName := ⟨RX11, "weighs", "(II)I"⟩
abbrev cX11_all : ByteArray := prog_1_method_14_code
def yX11_all : MethodName := ⟨RX11, "all", "()I"⟩
abbrev cX11_when : ByteArray := prog_1_method_15_code
def yX11_when : MethodName := ⟨RX11, "when", "(II)I"⟩
abbrev cX11_bag : ByteArray := prog_1_method_16_code
def yX11_bag : MethodName := ⟨RX11, "bag", "(IIII)I"⟩
abbrev cX11_debt : ByteArray := prog_1_method_17_code
def yX11_debt : MethodName := ⟨RX11, "debt", "(II)I"⟩
abbrev cX11_hire : ByteArray := prog_1_method_18_code
def yX11_hire : MethodName := ⟨RX11, "hire", "(III)I"⟩
abbrev cX11_shelves : ByteArray := prog_1_method_19_code
def yX11_shelves : MethodName := ⟨RX11, "shelves", "(III)I"⟩
abbrev cX11_note : ByteArray := prog_1_method_20_code
def yX11_note : MethodName := ⟨RX11, "note", "(IIII)I"⟩
abbrev cX11_forget : ByteArray := prog_1_method_21_code
def yX11_forget : MethodName := ⟨RX11, "forget", "()I"⟩
abbrev cX11_is : ByteArray := prog_1_method_22_code
def yX11_is : MethodName := ⟨RX11, "is", "(II)I"⟩
abbrev cX11_next : ByteArray := prog_1_method_23_code
def yX11_next : MethodName := ⟨RX11, "next", "(I)I"⟩
abbrev cX11_two : ByteArray := prog_1_method_24_code
def yX11_two : MethodName := ⟨RX11, "two", "(II)I"⟩
abbrev cX11_winds : ByteArray := prog_1_method_25_code
def yX11_winds : MethodName := ⟨RX11, "winds", "(II)I"⟩
abbrev cX11_years : ByteArray := prog_1_method_26_code
def yX11_years : MethodName := ⟨RX11, "years", "(II)I"⟩
abbrev cX11_part : ByteArray := prog_1_method_27_code
def yX11_part : MethodName := ⟨RX11, "part", "(I)J"⟩
abbrev cX11_image : ByteArray := prog_1_method_28_code
def yX11_image : MethodName := ⟨RX11, "image", "(I)I"⟩
abbrev cX11_from : ByteArray := prog_1_method_29_code
def yX11_from : MethodName := ⟨RX11, "from", "(I)I"⟩
abbrev cX11_status : ByteArray := prog_1_method_30_code
def yX11_status : MethodName := ⟨RX11, "status", "(I)I"⟩
abbrev cX11_count : ByteArray := prog_1_method_31_code
def yX11_count : MethodName := ⟨RX11, "count", "(I)I"⟩
abbrev cX11_digest : ByteArray := prog_1_method_32_code
def yX11_digest : MethodName := ⟨RX11, "digest", "()J"⟩
abbrev cX11_within : ByteArray := prog_1_method_33_code
def yX11_within : MethodName := ⟨RX11, "within", "(III)Z"⟩
abbrev cX11_twoOfThem : ByteArray := prog_1_method_34_code
def yX11_twoOfThem : MethodName := ⟨RX11, "twoOfThem", "(II)Z"⟩
abbrev cX11_refuseBad : ByteArray := prog_1_method_35_code
def yX11_refuseBad : MethodName := ⟨RX11, "refuseBad", "()I"⟩
abbrev cX11_refuseNo : ByteArray := prog_1_method_36_code
def yX11_refuseNo : MethodName := ⟨RX11, "refuseNo", "()I"⟩
abbrev cX11_refuseFull : ByteArray := prog_1_method_37_code
def yX11_refuseFull : MethodName := ⟨RX11, "refuseFull", "()I"⟩
abbrev cX11_counted : ByteArray := prog_1_method_38_code
def yX11_counted : MethodName := ⟨RX11, "counted", "(I)I"⟩
abbrev cX11_isContent : ByteArray := prog_1_method_39_code
def yX11_isContent : MethodName := ⟨RX11, "isContent", "(IZZ)Z"⟩
abbrev cX11_keepFraction : ByteArray := prog_1_method_40_code
def yX11_keepFraction : MethodName := ⟨RX11, "keepFraction", "(JJ)V"⟩
def RX12 : String := "HonestGoldModel"
def TX12 : u_T := fun k => match k with
  | 0 => ("HonestGoldModel", "refused", "[I", true)
  | 1 => ("HonestGoldModel", "many", "I", false)
  | 2 => ("HonestGoldModel", "now", "I", false)
  | 3 => ("HonestGoldModel", "lied", "I", false)
  | 4 => ("HonestGoldModel", "noteMany", "I", false)
  | 5 => ("HonestGoldModel", "kinds", "[I", true)
  | 6 => ("HonestGoldModel", "honesty", "[I", true)
  | 7 => ("HonestGoldModel", "pieces", "[I", true)
  | 8 => ("HonestGoldModel", "pays", "[I", true)
  | 9 => ("HonestGoldModel", "handed", "[I", true)
  | 10 => ("HonestGoldModel", "noteOne", "[I", true)
  | 11 => ("HonestGoldModel", "notePieces", "[I", true)
  | 12 => ("HonestGoldModel", "noteWeight", "[I", true)
  | 13 => ("HonestGoldModel", "noteDay", "[I", true)
  | 14 => ("HonestGoldModel", "text", "[I", true)
  | 15 => ("HonestGoldModel", "typed", "I", false)
  | 16 => ("HonestGoldModel", "readAt", "I", false)
  | 17 => ("HonestGoldModel", "readMany", "I", false)
  | 18 => ("HonestGoldModel", "readLied", "I", false)
  | 19 => ("HonestGoldModel", "readOnes", "[I", true)
  | 20 => ("HonestGoldModel", "readNumber", "I", false)
  | 21 => ("HonestGoldModel", "ahead", "[I", true)
  | 22 => ("HonestGoldModel", "undoMany", "I", false)
  | 23 => ("HonestGoldModel", "aside", "[I", true)
  | 24 => ("HonestGoldModel", "steps", "[I", true)
  | 25 => ("HonestGoldModel", "line", "[I", true)
  | 26 => ("HonestGoldModel", "bags", "[I", true)
  | 27 => ("HonestGoldModel", "bestBags", "[I", true)
  | 28 => ("HonestGoldModel", "above", "J", false)
  | 29 => ("HonestGoldModel", "below", "J", false)
  | 30 => ("HonestGoldModel", "images", "[I", true)
  | 31 => ("HonestGoldModel", "isKept", "[I", true)
  | _ => ("HonestGoldModel", "h0", "J", false)
def tyX12 : Nat → FieldType := fun k => match k with
  | 0 => .array .int
  | 1 => .int
  | 2 => .int
  | 3 => .int
  | 4 => .int
  | 5 => .array .int
  | 6 => .array .int
  | 7 => .array .int
  | 8 => .array .int
  | 9 => .array .int
  | 10 => .array .int
  | 11 => .array .int
  | 12 => .array .int
  | 13 => .array .int
  | 14 => .array .int
  | 15 => .int
  | 16 => .int
  | 17 => .int
  | 18 => .int
  | 19 => .array .int
  | 20 => .int
  | 21 => .array .int
  | 22 => .int
  | 23 => .array .int
  | 24 => .array .int
  | 25 => .array .int
  | 26 => .array .int
  | 27 => .array .int
  | 28 => .long
  | 29 => .long
  | 30 => .array .int
  | 31 => .array .int
  | _ => .long
abbrev wsX120 : List Cond := u_ws RX12 TX12 33
theorem nmX12 : ∀ a, a < 33 → ∀ b, b < 33 → a ≠ b → (TX12 a).2.1 ≠ (TX12 b).2.1 := by decide +kernel
theorem tyX12_ok : ∀ k, k < 33 → parseFieldDescriptor (TX12 k).2.2.1 = some (tyX12 k) := by decide +kernel
abbrev cX12_bad : ByteArray := prog_14_method_1_code
def yX12_bad : MethodName := ⟨RX12, "bad", "()I"⟩
abbrev cX12_ten : ByteArray := prog_14_method_2_code
def yX12_ten : MethodName := ⟨RX12, "ten", "()I"⟩
abbrev cX12_no : ByteArray := prog_14_method_3_code
def yX12_no : MethodName := ⟨RX12, "no", "()I"⟩
abbrev cX12_full : ByteArray := prog_14_method_4_code
def yX12_full : MethodName := ⟨RX12, "full", "()I"⟩
abbrev cX12_in : ByteArray := prog_14_method_5_code
def yX12_in : MethodName := ⟨RX12, "in", "(III)Z"⟩
abbrev cX12_has : ByteArray := prog_14_method_6_code
def yX12_has : MethodName := ⟨RX12, "has", "(II)Z"⟩
abbrev cX12_lesser : ByteArray := prog_14_method_7_code
def yX12_lesser : MethodName := ⟨RX12, "lesser", "(II)I"⟩
abbrev cX12_init : ByteArray := prog_14_method_8_code
def yX12_init : MethodName := ⟨RX12, "<init>", "()V"⟩
abbrev cX12_begin : ByteArray := prog_14_method_9_code
def yX12_begin : MethodName := ⟨RX12, "begin", "()V"⟩
abbrev cX12_isOne : ByteArray := prog_14_method_10_code
def yX12_isOne : MethodName := ⟨RX12, "isOne", "(I)Z"⟩
abbrev cX12_gold : ByteArray := prog_14_method_11_code
def yX12_gold : MethodName := ⟨RX12, "gold", "()I"⟩
abbrev cX12_addOne : ByteArray := prog_14_method_12_code
def yX12_addOne : MethodName := ⟨RX12, "addOne", "(IIII)I"⟩
abbrev cX12_one : ByteArray := prog_14_method_13_code
def yX12_one : MethodName := ⟨RX12, "one", "(IIII)I"⟩
abbrev cX12_hands : ByteArray := prog_14_method_14_code
def yX12_hands : MethodName := ⟨RX12, "hands", "(III)I"⟩
abbrev cX12_type : ByteArray := prog_14_method_15_code
def yX12_type : MethodName := ⟨RX12, "type", "(I)I"⟩
abbrev cX12_clear : ByteArray := prog_14_method_16_code
def yX12_clear : MethodName := ⟨RX12, "clear", "()I"⟩
abbrev cX12_here : ByteArray := prog_14_method_17_code
def yX12_here : MethodName := ⟨RX12, "here", "()I"⟩
abbrev cX12_skip : ByteArray := prog_14_method_18_code
def yX12_skip : MethodName := ⟨RX12, "skip", "()V"⟩
abbrev cX12_isLetter : ByteArray := prog_14_method_19_code
def yX12_isLetter : MethodName := ⟨RX12, "isLetter", "(I)Z"⟩
abbrev cX12_isFigure : ByteArray := prog_14_method_20_code
def yX12_isFigure : MethodName := ⟨RX12, "isFigure", "(I)Z"⟩
abbrev cX12_wordSize : ByteArray := prog_14_method_21_code
def yX12_wordSize : MethodName := ⟨RX12, "wordSize", "()I"⟩
abbrev cX12_letter : ByteArray := prog_14_method_22_code
def yX12_letter : MethodName := ⟨RX12, "letter", "(I)I"⟩
abbrev cX12_spells : ByteArray := prog_14_method_23_code
def yX12_spells : MethodName := ⟨RX12, "spells", "(IIII)Z"⟩
abbrev cX12_wordHere : ByteArray := prog_14_method_24_code
def yX12_wordHere : MethodName := ⟨RX12, "wordHere", "()I"⟩
abbrev cX12_number : ByteArray := prog_14_method_25_code
def yX12_number : MethodName := ⟨RX12, "number", "(II)Z"⟩
abbrev cX12_ends : ByteArray := prog_14_method_26_code
def yX12_ends : MethodName := ⟨RX12, "ends", "()Z"⟩
abbrev cX12_readsOne : ByteArray := prog_14_method_27_code
def yX12_readsOne : MethodName := ⟨RX12, "readsOne", "()Z"⟩
abbrev cX12_readsHands : ByteArray := prog_14_method_28_code
def yX12_readsHands : MethodName := ⟨RX12, "readsHands", "()Z"⟩
abbrev cX12_readsLie : ByteArray := prog_14_method_29_code
def yX12_readsLie : MethodName := ⟨RX12, "readsLie", "()Z"⟩
abbrev cX12_readsItem : ByteArray := prog_14_method_30_code
def yX12_readsItem : MethodName := ⟨RX12, "readsItem", "()Z"⟩
abbrev cX12_readsGold : ByteArray := prog_14_method_31_code
def yX12_readsGold : MethodName := ⟨RX12, "readsGold", "()I"⟩
abbrev cX12_read : ByteArray := prog_14_method_32_code
def yX12_read : MethodName := ⟨RX12, "read", "()I"⟩
abbrev cX12_weightBy : ByteArray := prog_14_method_33_code
def yX12_weightBy : MethodName := ⟨RX12, "weightBy", "(IIII)I"⟩
abbrev cX12_lieBy : ByteArray := prog_14_method_34_code
def yX12_lieBy : MethodName := ⟨RX12, "lieBy", "(II)I"⟩
abbrev cX12_weight : ByteArray := prog_14_method_35_code
def yX12_weight : MethodName := ⟨RX12, "weight", "(II)I"⟩
abbrev cX12_ownWeight : ByteArray := prog_14_method_36_code
def yX12_ownWeight : MethodName := ⟨RX12, "ownWeight", "(I)I"⟩
abbrev cX12_honestBehind : ByteArray := prog_14_method_37_code
def yX12_honestBehind : MethodName := ⟨RX12, "honestBehind", "(II)I"⟩
abbrev cX12_lays : ByteArray := prog_14_method_38_code
def yX12_lays : MethodName := ⟨RX12, "lays", "([II)V"⟩
abbrev cX12_takes : ByteArray := prog_14_method_39_code
def yX12_takes : MethodName := ⟨RX12, "takes", "([II)V"⟩
abbrev cX12_notes : ByteArray := prog_14_method_40_code
def yX12_notes : MethodName := ⟨RX12, "notes", "()V"⟩
abbrev cX12_puts : ByteArray := prog_14_method_41_code
def yX12_puts : MethodName := ⟨RX12, "puts", "()V"⟩
abbrev cX12_back : ByteArray := prog_14_method_42_code
def yX12_back : MethodName := ⟨RX12, "back", "()V"⟩
abbrev cX12_lies : ByteArray := prog_14_method_43_code
def yX12_lies : MethodName := ⟨RX12, "lies", "(II)V"⟩
abbrev cX12_pass : ByteArray := prog_14_method_44_code
def yX12_pass : MethodName := ⟨RX12, "pass", "()V"⟩
abbrev cX12_lie : ByteArray := prog_14_method_45_code
def yX12_lie : MethodName := ⟨RX12, "lie", "(II)I"⟩
abbrev cX12_give : ByteArray := prog_14_method_46_code
def yX12_give : MethodName := ⟨RX12, "give", "(III)I"⟩
abbrev cX12_day : ByteArray := prog_14_method_47_code
def yX12_day : MethodName := ⟨RX12, "day", "()I"⟩
abbrev cX12_undo : ByteArray := prog_14_method_48_code
def yX12_undo : MethodName := ⟨RX12, "undo", "()I"⟩
abbrev cX12_of : ByteArray := prog_14_method_49_code
def yX12_of : MethodName := ⟨RX12, "of", "(II)I"⟩
abbrev cX12_weighs : ByteArray := prog_14_method_50_code
def yX12_weighs : MethodName := ⟨RX12, "weighs", "(II)I"⟩
abbrev cX12_all : ByteArray := prog_14_method_51_code
def yX12_all : MethodName := ⟨RX12, "all", "()I"⟩
abbrev cX12_when : ByteArray := prog_14_method_52_code
def yX12_when : MethodName := ⟨RX12, "when", "(II)I"⟩
abbrev cX12_setSteps : ByteArray := prog_14_method_53_code
def yX12_setSteps : MethodName := ⟨RX12, "setSteps", "(IIII)I"⟩
abbrev cX12_bag : ByteArray := prog_14_method_54_code
def yX12_bag : MethodName := ⟨RX12, "bag", "(IIII)I"⟩
abbrev cX12_debt : ByteArray := prog_14_method_55_code
def yX12_debt : MethodName := ⟨RX12, "debt", "(II)I"⟩
abbrev cX12_hire : ByteArray := prog_14_method_56_code
def yX12_hire : MethodName := ⟨RX12, "hire", "(III)I"⟩
abbrev cX12_nextBags : ByteArray := prog_14_method_57_code
def yX12_nextBags : MethodName := ⟨RX12, "nextBags", "()Z"⟩
abbrev cX12_shelves : ByteArray := prog_14_method_58_code
def yX12_shelves : MethodName := ⟨RX12, "shelves", "(III)I"⟩
abbrev cX12_note : ByteArray := prog_14_method_59_code
def yX12_note : MethodName := ⟨RX12, "note", "(IIII)I"⟩
abbrev cX12_forget : ByteArray := prog_14_method_60_code
def yX12_forget : MethodName := ⟨RX12, "forget", "()I"⟩
abbrev cX12_isSo : ByteArray := prog_14_method_61_code
def yX12_isSo : MethodName := ⟨RX12, "isSo", "(III)Z"⟩
abbrev cX12_kindsOf : ByteArray := prog_14_method_62_code
def yX12_kindsOf : MethodName := ⟨RX12, "kindsOf", "(I)I"⟩
abbrev cX12_is : ByteArray := prog_14_method_63_code
def yX12_is : MethodName := ⟨RX12, "is", "(II)I"⟩
abbrev cX12_alike : ByteArray := prog_14_method_64_code
def yX12_alike : MethodName := ⟨RX12, "alike", "(III)I"⟩
abbrev cX12_next : ByteArray := prog_14_method_65_code
def yX12_next : MethodName := ⟨RX12, "next", "(I)I"⟩
abbrev cX12_gets : ByteArray := prog_14_method_66_code
def yX12_gets : MethodName := ⟨RX12, "gets", "(IZZ)I"⟩
abbrev cX12_two : ByteArray := prog_14_method_67_code
def yX12_two : MethodName := ⟨RX12, "two", "(II)I"⟩
abbrev cX12_lay : ByteArray := prog_14_method_68_code
def yX12_lay : MethodName := ⟨RX12, "lay", "(JJ)V"⟩
abbrev cX12_winds : ByteArray := prog_14_method_69_code
def yX12_winds : MethodName := ⟨RX12, "winds", "(II)I"⟩
abbrev cX12_years : ByteArray := prog_14_method_70_code
def yX12_years : MethodName := ⟨RX12, "years", "(II)I"⟩
abbrev cX12_part : ByteArray := prog_14_method_71_code
def yX12_part : MethodName := ⟨RX12, "part", "(I)J"⟩
abbrev cX12_image : ByteArray := prog_14_method_72_code
def yX12_image : MethodName := ⟨RX12, "image", "(I)I"⟩
abbrev cX12_from : ByteArray := prog_14_method_73_code
def yX12_from : MethodName := ⟨RX12, "from", "(I)I"⟩
abbrev cX12_status : ByteArray := prog_14_method_74_code
def yX12_status : MethodName := ⟨RX12, "status", "(I)I"⟩
abbrev cX12_bits : ByteArray := prog_14_method_75_code
def yX12_bits : MethodName := ⟨RX12, "bits", "(I)I"⟩
abbrev cX12_allPieces : ByteArray := prog_14_method_76_code
def yX12_allPieces : MethodName := ⟨RX12, "allPieces", "()I"⟩
abbrev cX12_countOf : ByteArray := prog_14_method_77_code
def yX12_countOf : MethodName := ⟨RX12, "countOf", "(I)I"⟩
abbrev cX12_count : ByteArray := prog_14_method_78_code
def yX12_count : MethodName := ⟨RX12, "count", "(I)I"⟩
abbrev cX12_mix : ByteArray := prog_14_method_79_code
def yX12_mix : MethodName := ⟨RX12, "mix", "(J)V"⟩
abbrev cX12_digest : ByteArray := prog_14_method_80_code
def yX12_digest : MethodName := ⟨RX12, "digest", "()J"⟩
def RJ6 : String := "java/lang/Integer"
def TJ6 : u_T := fun k => match k with
  | _ => ("", "", "", false)
def tyJ6 : Nat → FieldType := fun k => match k with
  | _ => .int
abbrev wsJ60 : List Cond := u_ws RJ6 TJ6 0
theorem nmJ6 : ∀ a, a < 0 → ∀ b, b < 0 → a ≠ b → (TJ6 a).2.1 ≠ (TJ6 b).2.1 := by decide +kernel
theorem tyJ6_ok : ∀ k, k < 0 → parseFieldDescriptor (TJ6 k).2.2.1 = some (tyJ6 k) := by decide +kernel
abbrev cJ6_bitCount_0f7a4 : ByteArray := prog_15_method_49_code
def yJ6_bitCount_0f7a4 : MethodName := ⟨RJ6, "bitCount", "(I)I"⟩
def RJ9 : String := "java/lang/Math"
def TJ9 : u_T := fun k => match k with
  | _ => ("", "", "", false)
def tyJ9 : Nat → FieldType := fun k => match k with
  | _ => .int
abbrev wsJ90 : List Cond := u_ws RJ9 TJ9 0
theorem nmJ9 : ∀ a, a < 0 → ∀ b, b < 0 → a ≠ b → (TJ9 a).2.1 ≠ (TJ9 b).2.1 := by decide +kernel
theorem tyJ9_ok : ∀ k, k < 0 → parseFieldDescriptor (TJ9 k).2.2.1 = some (tyJ9 k) := by decide +kernel
abbrev cJ9_max_7cf53 : ByteArray := prog_16_method_65_code
def yJ9_max_7cf53 : MethodName := ⟨RJ9, "max", "(II)I"⟩
abbrev cJ9_min_7cf53 : ByteArray := prog_16_method_69_code
def yJ9_min_7cf53 : MethodName := ⟨RJ9, "min", "(II)I"⟩
def RJ0 : String := "java/lang/String"
def TJ0 : u_T := fun k => match k with
  | _ => ("", "", "", false)
def tyJ0 : Nat → FieldType := fun k => match k with
  | _ => .int
abbrev wsJ00 : List Cond := u_ws RJ0 TJ0 0
theorem nmJ0 : ∀ a, a < 0 → ∀ b, b < 0 → a ≠ b → (TJ0 a).2.1 ≠ (TJ0 b).2.1 := by decide +kernel
theorem tyJ0_ok : ∀ k, k < 0 → parseFieldDescriptor (TJ0 k).2.2.1 = some (tyJ0 k) := by decide +kernel
abbrev cJ0_length_8abf5 : ByteArray := prog_17_method_54_code
def yJ0_length_8abf5 : MethodName := ⟨RJ0, "length", "()I"⟩
abbrev cJ0_charAt_5068e : ByteArray := prog_17_method_56_code
def yJ0_charAt_5068e : MethodName := ⟨RJ0, "charAt", "(I)C"⟩
abbrev cJ0_coder_7d493 : ByteArray := prog_17_method_152_code
def yJ0_coder_7d493 : MethodName := ⟨RJ0, "coder", "()B"⟩
abbrev cJ0_isLatin1_aae02 : ByteArray := prog_17_method_154_code
def yJ0_isLatin1_aae02 : MethodName := ⟨RJ0, "isLatin1", "()Z"⟩
abbrev cJ0_checkIndex_df160 : ByteArray := prog_17_method_155_code
def yJ0_checkIndex_df160 : MethodName := ⟨RJ0, "checkIndex", "(II)V"⟩
def RJ1 : String := "java/lang/StringLatin1"
def TJ1 : u_T := fun k => match k with
  | _ => ("", "", "", false)
def tyJ1 : Nat → FieldType := fun k => match k with
  | _ => .int
abbrev wsJ10 : List Cond := u_ws RJ1 TJ1 0
theorem nmJ1 : ∀ a, a < 0 → ∀ b, b < 0 → a ≠ b → (TJ1 a).2.1 ≠ (TJ1 b).2.1 := by decide +kernel
theorem tyJ1_ok : ∀ k, k < 0 → parseFieldDescriptor (TJ1 k).2.2.1 = some (tyJ1 k) := by decide +kernel
abbrev cJ1_charAt_3b067 : ByteArray := prog_18_method_2_code
def yJ1_charAt_3b067 : MethodName := ⟨RJ1, "charAt", "([BI)C"⟩
def RJ2 : String := "java/lang/StringUTF16"
def TJ2 : u_T := fun k => match k with
  | _ => ("", "", "", false)
def tyJ2 : Nat → FieldType := fun k => match k with
  | _ => .int
abbrev wsJ20 : List Cond := u_ws RJ2 TJ2 0
theorem nmJ2 : ∀ a, a < 0 → ∀ b, b < 0 → a ≠ b → (TJ2 a).2.1 ≠ (TJ2 b).2.1 := by decide +kernel
theorem tyJ2_ok : ∀ k, k < 0 → parseFieldDescriptor (TJ2 k).2.2.1 = some (tyJ2 k) := by decide +kernel
abbrev cJ2_getChar_3b067 : ByteArray := prog_19_method_5_code
def yJ2_getChar_3b067 : MethodName := ⟨RJ2, "getChar", "([BI)C"⟩
abbrev cJ2_length_9d52b : ByteArray := prog_19_method_6_code
def yJ2_length_9d52b : MethodName := ⟨RJ2, "length", "([B)I"⟩
abbrev cJ2_charAt_3b067 : ByteArray := prog_19_method_83_code
def yJ2_charAt_3b067 : MethodName := ⟨RJ2, "charAt", "([BI)C"⟩
abbrev cJ2_checkIndex_2214a : ByteArray := prog_19_method_91_code
def yJ2_checkIndex_2214a : MethodName := ⟨RJ2, "checkIndex", "(I[B)V"⟩
def RJ3 : String := "jdk/internal/util/Preconditions"
def TJ3 : u_T := fun k => match k with
  | _ => ("", "", "", false)
def tyJ3 : Nat → FieldType := fun k => match k with
  | _ => .int
abbrev wsJ30 : List Cond := u_ws RJ3 TJ3 0
theorem nmJ3 : ∀ a, a < 0 → ∀ b, b < 0 → a ≠ b → (TJ3 a).2.1 ≠ (TJ3 b).2.1 := by decide +kernel
theorem tyJ3_ok : ∀ k, k < 0 → parseFieldDescriptor (TJ3 k).2.2.1 = some (tyJ3 k) := by decide +kernel
abbrev cJ3_checkIndex_8e157 : ByteArray := prog_20_method_11_code
def yJ3_checkIndex_8e157 : MethodName := ⟨RJ3, "checkIndex", "(IILjava/util/function/BiFunction;)I"⟩
def RL : String := "HonestGoldLaw"
abbrev cL_law : ByteArray := code
def yL_law : MethodName := ⟨RL, "law", "([I)Z"⟩
abbrev vwCl : List vw_C := [(RX0, TX0, 0), (RX1, TX1, 0), (RX2, TX2, 0), (RX3, TX3, 0), (RX4, TX4, 5), (RX5, TX5, 2), (RX6, TX6, 0), (RX7, TX7, 7), (RX8, TX8, 0), (RX9, TX9, 12), (RX10, TX10, 4), (RX11, TX11, 10), (RX12, TX12, 33)]
end
section
/-! THE ABSTRACT WALK. A cell: an int array, an array of references, an object; a heap: what is known of each address. -/
abbrev ae : Type := (Nat × (Nat → Int32)) ⊕ (Nat × Nat × (Nat → Option Nat)) ⊕ (Nat × List Value)
abbrev aI (n : Nat) (f : Nat → Int32) : ae := .inl (n, f)
abbrev aR (t n : Nat) (g : Nat → Option Nat) : ae := .inr (.inl (t, n, g))
abbrev aO (c : Nat) (fs : List Value) : ae := .inr (.inr (c, fs))
abbrev ah : Type := Nat → Option ae
def ah_set (h : ah) (a : Nat) (e : ae) : ah := fun b => if b = a then some e else h b
theorem ah_set_eq (h : ah) (a : Nat) (e : ae) : ah_set h a e a = some e := if_pos rfl
theorem ah_set_ne (h : ah) {a b : Nat} (e : ae) (hb : b ≠ a) : ah_set h a e b = h b := if_neg hb
/-- the machine's own numbers: the classes', the array classes', the first address that is ours, what stays of the rest -/
abbrev aw_E : Type := va_G × (Nat → ClassId) × Nat × (State → Heap → Prop)
/-- a method: its name, bytes, locals, answer -/
abbrev aw_M : Type := MethodName × ByteArray × Nat × Option FieldType
def aw_A (E : aw_E) : Nat → Prop := fun q => E.2.2.1 ≤ q
def aw_at (E : aw_E) (a : Nat) (e : ae) (H : Heap) : Prop := match e with
  | .inl (n, f) => H[a]? = some (vp_cell (E.2.1 0) (n, .inl f))
  | .inr (.inl (t, n, g)) => (t = 1 ∨ t = 2) ∧ H[a]? = some (vp_cell (E.2.1 t) (n, .inr (.inr (.inr (.inr g)))))
  | .inr (.inr o) => va_at E.1 vwCl (a, .inr o) H
def aw_R (E : aw_E) (n : Nat) (h : ah) (H : Heap) : Prop := H.size = n ∧ ∀ (a : Nat) (e : ae), h a = some e → E.2.2.1 ≤ a ∧ aw_at E a e H
abbrev aw_tys (E : aw_E) : List (ClassId × FieldType) := [(E.2.1 0, .int), (E.2.1 1, .object "HonestGold$Plain"), (E.2.1 2, .object "HonestGold$Treasury")]
def aw_K (E : aw_E) (U : State) : Prop := va_K E.1 vwCl (aw_tys E) U
def aw_cl (E : aw_E) : Prop := ∀ (s U : State) (H H1 : Heap), s.WarmedH U.vm → (∀ a : Nat, a < H.size → a < E.2.2.1 → H1[a]? = H[a]?) → E.2.2.2 s H → E.2.2.2 U H1
/-- the words that a call may hand on -/
def aw_T : List Cond := lw_tbl.filter goodWord
theorem aw_mem {w : Cond} (i : Nat) (hi : lw_tbl[i]? = some w) (hg : goodWord w = true) : w ∈ aw_T := List.mem_filter.mpr ⟨List.mem_of_getElem? hi, hg⟩
def aw_rm (d mc ms : Nat) : Room := { frames := d, cells := mc, slots := ms, locals := 34 * d + 10 }
def aw_F (E : aw_E) (mi : aw_M) (p : Program) (s : State) (m : MethodId) (args : Array Value) (meth : Method) (c : Code) : Prop :=
  p.tables.exec = Jvm.exec ∧ c.code = mi.2.1 ∧ c.maxLocals = mi.2.2.1 ∧ meth.sig.returnType = mi.2.2.2 ∧ s.vm.findClass mi.1.cls = some m.cls ∧ (∀ w ∈ aw_T, w.before args s = true) ∧ meth.locks = false ∧ meth.name = mi.1.name ∧ aw_K E s ∧ E.2.2.2 s s.heap ∧ aw_cl E ∧ E.2.2.1 ≤ s.heap.size
abbrev aw_Zt : Type := List Frame → Array Value → State → Nat → Nat → State → Prop
def aw (l : Launch) (E : aw_E) (mi : aw_M) (Z : aw_Zt) (d bc bs pc : Nat) (ls : List (Nat × Value)) (st : List Value) (n : Nat) (h : ah) : Prop :=
  ∀ (p : Program) (e : Env) (s : State) (m : MethodId) (args : Array Value) (below : List Frame) (meth : Method) (c : Code) (H : Heap) (locs : List Loc) (cells slots mc ms : Nat) (ls' : Array Slot),
    aw_F E mi p s m args meth c → cells + bc ≤ mc → slots + bs ≤ ms → aw_R E n h H → va_S (aw_A E) s.heap H locs → lv_has ls' mi.2.2.1 ls →
    W p l e (aw_rm d mc ms) s m args below meth c H locs cells slots (Z below args s mc ms) (F0 m pc ls' st)
/-- what a method's end says -/
abbrev aw_P : Type := Option Value → Nat → ah → Prop
def aw_Qc (E : aw_E) (Q : aw_P) : Array Value → State → Outcome → State → Prop := fun _ st oc t => ∃ (r : Option Value) (n : Nat) (h : ah), oc = .returned r ∧ Q r n h ∧ aw_R E n h t.heap ∧ va_F (aw_A E) st t
def aw_Z (E : aw_E) (Q : aw_P) : aw_Zt := fun below args s mc ms => MQ below (aw_Qc E Q) args s mc ms (aw_A E)
def aw_Pc (E : aw_E) (n : Nat) (h : ah) (U : State) : Prop := aw_R E n h U.heap ∧ aw_K E U ∧ E.2.2.2 U U.heap ∧ aw_cl E ∧ E.2.2.1 ≤ U.heap.size
/-- THE CONTRACT of a method: from these arguments and this heap it returns, and Q holds of the answer and the heap then; d frames at most below it, mc cells of ms slots made -/
def am (l : Launch) (E : aw_E) (mi : aw_M) (d mc ms : Nat) (av : List Value) (n : Nat) (h : ah) (Q : aw_P) : Prop :=
  Met l mi.1 (.code mi.1 mi.2.1 mi.2.2.1 mi.2.2.2 :: aw_T) (aw_rm d mc ms) (va_Pc av (aw_Pc E n h)) (aw_Qc E Q) mc ms (aw_A E)
def aw_lk : List (Nat × Value) → Nat → Option Value
  | [], _ => none
  | q :: t, i => if q.1 = i then some q.2 else aw_lk t i
theorem aw_lk_mem : ∀ {ls : List (Nat × Value)} {i : Nat} {v : Value}, aw_lk ls i = some v → (i, v) ∈ ls
  | [], _, _, h => by cases h
  | q :: t, i, v, h => by
    unfold aw_lk at h
    by_cases hq : q.1 = i
    · rw [if_pos hq] at h
      have h2 : q = (i, v) := Prod.ext hq (Option.some.inj h)
      rw [h2]; exact List.mem_cons_self
    · rw [if_neg hq] at h
      exact List.mem_cons_of_mem _ (aw_lk_mem h)
def aw_st1 (i : Nat) (v : Value) (ls : List (Nat × Value)) : List (Nat × Value) := (i, v) :: ls.filter (fun q => !(q.1 == i) && !(q.1 + 1 == i && q.2.category == 2))
def aw_st2 (i : Nat) (v : Value) (ls : List (Nat × Value)) : List (Nat × Value) := (i, v) :: ls.filter (fun q => !(q.1 == i) && (!(q.1 == i + 1) && !(q.1 + 1 == i && q.2.category == 2)))
def aw_pk (ls : List (Nat × Value)) (ks : List Nat) : List (Nat × Value) := ks.filterMap (fun i => (aw_lk ls i).map (fun v => (i, v)))
theorem aw_pk_mem {ls : List (Nat × Value)} {ks : List Nat} {q : Nat × Value} (h : q ∈ aw_pk ls ks) : q ∈ ls := by
  unfold aw_pk at h
  obtain ⟨i, -, hi⟩ := List.mem_filterMap.mp h
  cases hv : aw_lk ls i with
  | none => rw [hv] at hi; cases hi
  | some v => rw [hv] at hi; cases hi; exact aw_lk_mem hv
theorem aw_cl_of {E : aw_E} (hc : aw_cl E) {s U : State} {H : Heap} {locs : List Loc} (hW : s.WarmedH U.vm) (hS : va_S (aw_A E) s.heap H locs) (h : E.2.2.2 s s.heap) : E.2.2.2 U H :=
  hc s U s.heap H hW (fun a h1 h2 => hS.2.1 a h1 (Nat.not_le.mpr h2)) h
section AW
variable {l : Launch} {E : aw_E} {mi : aw_M} {Z : aw_Zt} {d bc bs pc : Nat} {ls : List (Nat × Value)} {st : List Value} {n : Nat} {h : ah}
theorem aw_loc {ls2 : List (Nat × Value)} (ks : List Nat) (hl : aw_pk ls ks = ls2) (k : aw l E mi Z d bc bs pc ls2 st n h) : aw l E mi Z d bc bs pc ls st n h := by
  intro p e s m args below meth c H locs cells slots mc ms ls' F h1 h2 hR hS hl'
  exact k p e s m args below meth c H locs cells slots mc ms ls' F h1 h2 hR hS ⟨hl'.1, hl'.2.1, fun q hq => hl'.2.2 q (aw_pk_mem (by rw [hl]; exact hq))⟩
theorem aw_bud {bc' bs' : Nat} (k : aw l E mi Z d bc' bs' pc ls st n h) (hc : bc' ≤ bc) (hs : bs' ≤ bs) : aw l E mi Z d bc bs pc ls st n h := by
  intro p e s m args below meth c H locs cells slots mc ms ls' F h1 h2 hR hS hl'
  exact k p e s m args below meth c H locs cells slots mc ms ls' F (by omega) (by omega) hR hS hl'
theorem aw_iconst {z : Int} {v : Int32} (hd : decode mi.2.1 pc = .ok (.iconst z, 1)) (hv : Int32.ofInt z = v) (k : aw l E mi Z d bc bs (pc + 1) ls (.int v :: st) n h) : aw l E mi Z d bc bs pc ls (st) n h := by
  intro p e s m args below meth c H locs cells slots mc ms ls' F h1 h2 hR hS hl
  exact lv_iconst F.1 F.2.1 hd hv (k p e s m args below meth c H locs cells slots mc ms ls' F h1 h2 hR hS hl)
theorem aw_bipush {z : Int} {v : Int32} (hd : decode mi.2.1 pc = .ok (.bipush z, 2)) (hv : (Int8.ofInt z).toInt32 = v) (k : aw l E mi Z d bc bs (pc + 2) ls (.int v :: st) n h) : aw l E mi Z d bc bs pc ls (st) n h := by
  intro p e s m args below meth c H locs cells slots mc ms ls' F h1 h2 hR hS hl
  exact lv_bipush F.1 F.2.1 hd hv (k p e s m args below meth c H locs cells slots mc ms ls' F h1 h2 hR hS hl)
theorem aw_sipush {z : Int} {v : Int32} (hd : decode mi.2.1 pc = .ok (.sipush z, 3)) (hv : (Int16.ofInt z).toInt32 = v) (k : aw l E mi Z d bc bs (pc + 3) ls (.int v :: st) n h) : aw l E mi Z d bc bs pc ls (st) n h := by
  intro p e s m args below meth c H locs cells slots mc ms ls' F h1 h2 hR hS hl
  exact lv_sipush F.1 F.2.1 hd hv (k p e s m args below meth c H locs cells slots mc ms ls' F h1 h2 hR hS hl)
theorem aw_lconst {z : Fin 2} {v : Int64} (hd : decode mi.2.1 pc = .ok (.lconst z, 1)) (hv : Int64.ofNat (z : Nat) = v) (k : aw l E mi Z d bc bs (pc + 1) ls (.long v :: st) n h) : aw l E mi Z d bc bs pc ls (st) n h := by
  intro p e s m args below meth c H locs cells slots mc ms ls' F h1 h2 hR hS hl
  exact lv_lconst F.1 F.2.1 hd hv (k p e s m args below meth c H locs cells slots mc ms ls' F h1 h2 hR hS hl)
theorem aw_iload_n {z : Fin 4} {v : Int32} (hd : decode mi.2.1 pc = .ok (.iload_n z, 1)) (hv : aw_lk ls z.val = some (.int v)) (k : aw l E mi Z d bc bs (pc + 1) ls (.int v :: st) n h) : aw l E mi Z d bc bs pc ls (st) n h := by
  intro p e s m args below meth c H locs cells slots mc ms ls' F h1 h2 hR hS hl
  exact lv_iload_n F.1 F.2.1 hd rfl (hl.2.2 _ (aw_lk_mem hv)) (k p e s m args below meth c H locs cells slots mc ms ls' F h1 h2 hR hS hl)
theorem aw_iload {i : Nat} {v : Int32} (hd : decode mi.2.1 pc = .ok (.iload i, 2)) (hv : aw_lk ls i = some (.int v)) (k : aw l E mi Z d bc bs (pc + 2) ls (.int v :: st) n h) : aw l E mi Z d bc bs pc ls (st) n h := by
  intro p e s m args below meth c H locs cells slots mc ms ls' F h1 h2 hR hS hl
  exact lv_iload F.1 F.2.1 hd (hl.2.2 _ (aw_lk_mem hv)) (k p e s m args below meth c H locs cells slots mc ms ls' F h1 h2 hR hS hl)
theorem aw_lload_n {z : Fin 4} {v : Int64} (hd : decode mi.2.1 pc = .ok (.lload_n z, 1)) (hv : aw_lk ls z.val = some (.long v)) (k : aw l E mi Z d bc bs (pc + 1) ls (.long v :: st) n h) : aw l E mi Z d bc bs pc ls (st) n h := by
  intro p e s m args below meth c H locs cells slots mc ms ls' F h1 h2 hR hS hl
  exact lv_lload_n F.1 F.2.1 hd rfl (hl.2.2 _ (aw_lk_mem hv)) (k p e s m args below meth c H locs cells slots mc ms ls' F h1 h2 hR hS hl)
theorem aw_lload {i : Nat} {v : Int64} (hd : decode mi.2.1 pc = .ok (.lload i, 2)) (hv : aw_lk ls i = some (.long v)) (k : aw l E mi Z d bc bs (pc + 2) ls (.long v :: st) n h) : aw l E mi Z d bc bs pc ls (st) n h := by
  intro p e s m args below meth c H locs cells slots mc ms ls' F h1 h2 hR hS hl
  exact lv_lload F.1 F.2.1 hd (hl.2.2 _ (aw_lk_mem hv)) (k p e s m args below meth c H locs cells slots mc ms ls' F h1 h2 hR hS hl)
theorem aw_aload_n {z : Fin 4} {v : Nat} (hd : decode mi.2.1 pc = .ok (.aload_n z, 1)) (hv : aw_lk ls z.val = some (.ref v)) (k : aw l E mi Z d bc bs (pc + 1) ls (.ref v :: st) n h) : aw l E mi Z d bc bs pc ls (st) n h := by
  intro p e s m args below meth c H locs cells slots mc ms ls' F h1 h2 hR hS hl
  exact lv_aload_n F.1 F.2.1 hd rfl (hl.2.2 _ (aw_lk_mem hv)) (k p e s m args below meth c H locs cells slots mc ms ls' F h1 h2 hR hS hl)
theorem aw_aload {i : Nat} {v : Nat} (hd : decode mi.2.1 pc = .ok (.aload i, 2)) (hv : aw_lk ls i = some (.ref v)) (k : aw l E mi Z d bc bs (pc + 2) ls (.ref v :: st) n h) : aw l E mi Z d bc bs pc ls (st) n h := by
  intro p e s m args below meth c H locs cells slots mc ms ls' F h1 h2 hR hS hl
  exact lv_aload F.1 F.2.1 hd (hl.2.2 _ (aw_lk_mem hv)) (k p e s m args below meth c H locs cells slots mc ms ls' F h1 h2 hR hS hl)
theorem aw_aload_nN {z : Fin 4} (hd : decode mi.2.1 pc = .ok (.aload_n z, 1)) (hv : aw_lk ls z.val = some .null) (k : aw l E mi Z d bc bs (pc + 1) ls (.null :: st) n h) : aw l E mi Z d bc bs pc ls (st) n h := by
  intro p e s m args below meth c H locs cells slots mc ms ls' F h1 h2 hR hS hl
  exact lv_aload_nN F.1 F.2.1 hd rfl (hl.2.2 _ (aw_lk_mem hv)) (k p e s m args below meth c H locs cells slots mc ms ls' F h1 h2 hR hS hl)
theorem aw_istore_n {z : Fin 4} {v : Int32} (hd : decode mi.2.1 pc = .ok (.istore_n z, 1)) (hn : z.val < mi.2.2.1) (k : aw l E mi Z d bc bs (pc + 1) (aw_st1 z.val (.int v) ls) st n h) : aw l E mi Z d bc bs pc ls (.int v :: st) n h := by
  intro p e s m args below meth c H locs cells slots mc ms ls' F h1 h2 hR hS hl
  exact lv_istore_n F.1 F.2.1 hd rfl hl hn rfl (fun ls2 hl2 => k p e s m args below meth c H locs cells slots mc ms ls2 F h1 h2 hR hS hl2)
theorem aw_istore {i : Nat} {v : Int32} (hd : decode mi.2.1 pc = .ok (.istore i, 2)) (hn : i < mi.2.2.1) (k : aw l E mi Z d bc bs (pc + 2) (aw_st1 i (.int v) ls) st n h) : aw l E mi Z d bc bs pc ls (.int v :: st) n h := by
  intro p e s m args below meth c H locs cells slots mc ms ls' F h1 h2 hR hS hl
  exact lv_istore F.1 F.2.1 hd hl hn rfl (fun ls2 hl2 => k p e s m args below meth c H locs cells slots mc ms ls2 F h1 h2 hR hS hl2)
theorem aw_lstore_n {z : Fin 4} {v : Int64} (hd : decode mi.2.1 pc = .ok (.lstore_n z, 1)) (hn : z.val + 1 < mi.2.2.1) (k : aw l E mi Z d bc bs (pc + 1) (aw_st2 z.val (.long v) ls) st n h) : aw l E mi Z d bc bs pc ls (.long v :: st) n h := by
  intro p e s m args below meth c H locs cells slots mc ms ls' F h1 h2 hR hS hl
  exact lv_lstore_n F.1 F.2.1 hd rfl hl hn rfl (fun ls2 hl2 => k p e s m args below meth c H locs cells slots mc ms ls2 F h1 h2 hR hS hl2)
theorem aw_lstore {i : Nat} {v : Int64} (hd : decode mi.2.1 pc = .ok (.lstore i, 2)) (hn : i + 1 < mi.2.2.1) (k : aw l E mi Z d bc bs (pc + 2) (aw_st2 i (.long v) ls) st n h) : aw l E mi Z d bc bs pc ls (.long v :: st) n h := by
  intro p e s m args below meth c H locs cells slots mc ms ls' F h1 h2 hR hS hl
  exact lv_lstore F.1 F.2.1 hd hl hn rfl (fun ls2 hl2 => k p e s m args below meth c H locs cells slots mc ms ls2 F h1 h2 hR hS hl2)
theorem aw_astore_n {z : Fin 4} {v : Nat} (hd : decode mi.2.1 pc = .ok (.astore_n z, 1)) (hn : z.val < mi.2.2.1) (k : aw l E mi Z d bc bs (pc + 1) (aw_st1 z.val (.ref v) ls) st n h) : aw l E mi Z d bc bs pc ls (.ref v :: st) n h := by
  intro p e s m args below meth c H locs cells slots mc ms ls' F h1 h2 hR hS hl
  exact lv_astore_n F.1 F.2.1 hd rfl hl hn rfl (fun ls2 hl2 => k p e s m args below meth c H locs cells slots mc ms ls2 F h1 h2 hR hS hl2)
theorem aw_astore {i : Nat} {v : Nat} (hd : decode mi.2.1 pc = .ok (.astore i, 2)) (hn : i < mi.2.2.1) (k : aw l E mi Z d bc bs (pc + 2) (aw_st1 i (.ref v) ls) st n h) : aw l E mi Z d bc bs pc ls (.ref v :: st) n h := by
  intro p e s m args below meth c H locs cells slots mc ms ls' F h1 h2 hR hS hl
  exact lv_astore F.1 F.2.1 hd hl hn rfl (fun ls2 hl2 => k p e s m args below meth c H locs cells slots mc ms ls2 F h1 h2 hR hS hl2)
theorem aw_iinc {i : Nat} {z : Int} {x v : Int32} (hd : decode mi.2.1 pc = .ok (.iinc i z, 3)) (hv : aw_lk ls i = some (.int x)) (hx : x + Int32.ofInt z = v) (hn : i < mi.2.2.1) (k : aw l E mi Z d bc bs (pc + 3) (aw_st1 i (.int v) ls) st n h) : aw l E mi Z d bc bs pc ls st n h := by
  intro p e s m args below meth c H locs cells slots mc ms ls' F h1 h2 hR hS hl
  obtain ⟨j, hj⟩ := List.mem_iff_getElem?.mp (aw_lk_mem hv)
  exact lv_iinc F.1 F.2.1 hd hl hj hx hn rfl (fun ls2 hl2 => k p e s m args below meth c H locs cells slots mc ms ls2 F h1 h2 hR hS hl2)
theorem aw_iadd {x y : Int32} (hd : decode mi.2.1 pc = .ok (.iadd, 1))  (k : aw l E mi Z d bc bs (pc + 1) ls (.int (x + y) :: st) n h) : aw l E mi Z d bc bs pc ls (.int y :: .int x :: st) n h := by
  intro p e s m args below meth c H locs cells slots mc ms ls' F h1 h2 hR hS hl
  exact lv_iadd F.1 F.2.1 hd  (k p e s m args below meth c H locs cells slots mc ms ls' F h1 h2 hR hS hl)
theorem aw_isub {x y : Int32} (hd : decode mi.2.1 pc = .ok (.isub, 1))  (k : aw l E mi Z d bc bs (pc + 1) ls (.int (x - y) :: st) n h) : aw l E mi Z d bc bs pc ls (.int y :: .int x :: st) n h := by
  intro p e s m args below meth c H locs cells slots mc ms ls' F h1 h2 hR hS hl
  exact lv_isub F.1 F.2.1 hd  (k p e s m args below meth c H locs cells slots mc ms ls' F h1 h2 hR hS hl)
theorem aw_imul {x y : Int32} (hd : decode mi.2.1 pc = .ok (.imul, 1))  (k : aw l E mi Z d bc bs (pc + 1) ls (.int (x * y) :: st) n h) : aw l E mi Z d bc bs pc ls (.int y :: .int x :: st) n h := by
  intro p e s m args below meth c H locs cells slots mc ms ls' F h1 h2 hR hS hl
  exact lv_imul F.1 F.2.1 hd  (k p e s m args below meth c H locs cells slots mc ms ls' F h1 h2 hR hS hl)
theorem aw_iand {x y : Int32} (hd : decode mi.2.1 pc = .ok (.iand, 1))  (k : aw l E mi Z d bc bs (pc + 1) ls (.int (x &&& y) :: st) n h) : aw l E mi Z d bc bs pc ls (.int y :: .int x :: st) n h := by
  intro p e s m args below meth c H locs cells slots mc ms ls' F h1 h2 hR hS hl
  exact lv_iand F.1 F.2.1 hd  (k p e s m args below meth c H locs cells slots mc ms ls' F h1 h2 hR hS hl)
theorem aw_ior {x y : Int32} (hd : decode mi.2.1 pc = .ok (.ior, 1))  (k : aw l E mi Z d bc bs (pc + 1) ls (.int (x ||| y) :: st) n h) : aw l E mi Z d bc bs pc ls (.int y :: .int x :: st) n h := by
  intro p e s m args below meth c H locs cells slots mc ms ls' F h1 h2 hR hS hl
  exact lv_ior F.1 F.2.1 hd  (k p e s m args below meth c H locs cells slots mc ms ls' F h1 h2 hR hS hl)
theorem aw_ixor {x y : Int32} (hd : decode mi.2.1 pc = .ok (.ixor, 1))  (k : aw l E mi Z d bc bs (pc + 1) ls (.int (x ^^^ y) :: st) n h) : aw l E mi Z d bc bs pc ls (.int y :: .int x :: st) n h := by
  intro p e s m args below meth c H locs cells slots mc ms ls' F h1 h2 hR hS hl
  exact lv_ixor F.1 F.2.1 hd  (k p e s m args below meth c H locs cells slots mc ms ls' F h1 h2 hR hS hl)
theorem aw_idiv {x y : Int32} (hd : decode mi.2.1 pc = .ok (.idiv, 1)) (hne : ¬ y = 0) (k : aw l E mi Z d bc bs (pc + 1) ls (.int (x / y) :: st) n h) : aw l E mi Z d bc bs pc ls (.int y :: .int x :: st) n h := by
  intro p e s m args below meth c H locs cells slots mc ms ls' F h1 h2 hR hS hl
  exact lv_idiv F.1 F.2.1 hd hne (k p e s m args below meth c H locs cells slots mc ms ls' F h1 h2 hR hS hl)
theorem aw_irem {x y : Int32} (hd : decode mi.2.1 pc = .ok (.irem, 1)) (hne : ¬ y = 0) (k : aw l E mi Z d bc bs (pc + 1) ls (.int (x - x / y * y) :: st) n h) : aw l E mi Z d bc bs pc ls (.int y :: .int x :: st) n h := by
  intro p e s m args below meth c H locs cells slots mc ms ls' F h1 h2 hR hS hl
  exact lv_irem F.1 F.2.1 hd hne (k p e s m args below meth c H locs cells slots mc ms ls' F h1 h2 hR hS hl)
theorem aw_ladd {x y : Int64} (hd : decode mi.2.1 pc = .ok (.ladd, 1))  (k : aw l E mi Z d bc bs (pc + 1) ls (.long (x + y) :: st) n h) : aw l E mi Z d bc bs pc ls (.long y :: .long x :: st) n h := by
  intro p e s m args below meth c H locs cells slots mc ms ls' F h1 h2 hR hS hl
  exact lv_ladd F.1 F.2.1 hd  (k p e s m args below meth c H locs cells slots mc ms ls' F h1 h2 hR hS hl)
theorem aw_lsub {x y : Int64} (hd : decode mi.2.1 pc = .ok (.lsub, 1))  (k : aw l E mi Z d bc bs (pc + 1) ls (.long (x - y) :: st) n h) : aw l E mi Z d bc bs pc ls (.long y :: .long x :: st) n h := by
  intro p e s m args below meth c H locs cells slots mc ms ls' F h1 h2 hR hS hl
  exact lv_lsub F.1 F.2.1 hd  (k p e s m args below meth c H locs cells slots mc ms ls' F h1 h2 hR hS hl)
theorem aw_lmul {x y : Int64} (hd : decode mi.2.1 pc = .ok (.lmul, 1))  (k : aw l E mi Z d bc bs (pc + 1) ls (.long (x * y) :: st) n h) : aw l E mi Z d bc bs pc ls (.long y :: .long x :: st) n h := by
  intro p e s m args below meth c H locs cells slots mc ms ls' F h1 h2 hR hS hl
  exact lv_lmul F.1 F.2.1 hd  (k p e s m args below meth c H locs cells slots mc ms ls' F h1 h2 hR hS hl)
theorem aw_ldiv {x y : Int64} (hd : decode mi.2.1 pc = .ok (.ldiv, 1)) (hne : ¬ y = 0) (k : aw l E mi Z d bc bs (pc + 1) ls (.long (x / y) :: st) n h) : aw l E mi Z d bc bs pc ls (.long y :: .long x :: st) n h := by
  intro p e s m args below meth c H locs cells slots mc ms ls' F h1 h2 hR hS hl
  exact lv_ldiv F.1 F.2.1 hd hne (k p e s m args below meth c H locs cells slots mc ms ls' F h1 h2 hR hS hl)
theorem aw_lrem {x y : Int64} (hd : decode mi.2.1 pc = .ok (.lrem, 1)) (hne : ¬ y = 0) (k : aw l E mi Z d bc bs (pc + 1) ls (.long (x - x / y * y) :: st) n h) : aw l E mi Z d bc bs pc ls (.long y :: .long x :: st) n h := by
  intro p e s m args below meth c H locs cells slots mc ms ls' F h1 h2 hR hS hl
  exact lv_lrem F.1 F.2.1 hd hne (k p e s m args below meth c H locs cells slots mc ms ls' F h1 h2 hR hS hl)
theorem aw_ishl {x y : Int32} (hd : decode mi.2.1 pc = .ok (.ishl, 1))  (k : aw l E mi Z d bc bs (pc + 1) ls (.int (x <<< (y &&& 31)) :: st) n h) : aw l E mi Z d bc bs pc ls (.int y :: .int x :: st) n h := by
  intro p e s m args below meth c H locs cells slots mc ms ls' F h1 h2 hR hS hl
  exact lv_ishl F.1 F.2.1 hd  (k p e s m args below meth c H locs cells slots mc ms ls' F h1 h2 hR hS hl)
theorem aw_ishr {x y : Int32} (hd : decode mi.2.1 pc = .ok (.ishr, 1))  (k : aw l E mi Z d bc bs (pc + 1) ls (.int (x >>> (y &&& 31)) :: st) n h) : aw l E mi Z d bc bs pc ls (.int y :: .int x :: st) n h := by
  intro p e s m args below meth c H locs cells slots mc ms ls' F h1 h2 hR hS hl
  exact lv_ishr F.1 F.2.1 hd  (k p e s m args below meth c H locs cells slots mc ms ls' F h1 h2 hR hS hl)
theorem aw_iushr {x y v : Int32} (hd : decode mi.2.1 pc = .ok (.iushr, 1)) (hv : (x.toUInt32 >>> (y.toUInt32 &&& Int32.toUInt32 31)).toInt32 = v) (k : aw l E mi Z d bc bs (pc + 1) ls (.int v :: st) n h) : aw l E mi Z d bc bs pc ls (.int y :: .int x :: st) n h := by
  intro p e s m args below meth c H locs cells slots mc ms ls' F h1 h2 hR hS hl
  exact lv_iushr F.1 F.2.1 hd hv (k p e s m args below meth c H locs cells slots mc ms ls' F h1 h2 hR hS hl)
theorem aw_ineg {x : Int32} (hd : decode mi.2.1 pc = .ok (.ineg, 1))  (k : aw l E mi Z d bc bs (pc + 1) ls (.int (-x) :: st) n h) : aw l E mi Z d bc bs pc ls (.int x :: st) n h := by
  intro p e s m args below meth c H locs cells slots mc ms ls' F h1 h2 hR hS hl
  exact lv_ineg F.1 F.2.1 hd  (k p e s m args below meth c H locs cells slots mc ms ls' F h1 h2 hR hS hl)
theorem aw_i2l {x : Int32} {v : Int64} (hd : decode mi.2.1 pc = .ok (.i2l, 1)) (hv : x.toInt64 = v) (k : aw l E mi Z d bc bs (pc + 1) ls (.long v :: st) n h) : aw l E mi Z d bc bs pc ls (.int x :: st) n h := by
  intro p e s m args below meth c H locs cells slots mc ms ls' F h1 h2 hR hS hl
  exact lv_i2l F.1 F.2.1 hd hv (k p e s m args below meth c H locs cells slots mc ms ls' F h1 h2 hR hS hl)
theorem aw_l2i {x : Int64} {v : Int32} (hd : decode mi.2.1 pc = .ok (.l2i, 1)) (hv : x.toInt32 = v) (k : aw l E mi Z d bc bs (pc + 1) ls (.int v :: st) n h) : aw l E mi Z d bc bs pc ls (.long x :: st) n h := by
  intro p e s m args below meth c H locs cells slots mc ms ls' F h1 h2 hR hS hl
  exact lv_l2i F.1 F.2.1 hd hv (k p e s m args below meth c H locs cells slots mc ms ls' F h1 h2 hR hS hl)
theorem aw_i2c {x v : Int32} (hd : decode mi.2.1 pc = .ok (.i2c, 1)) (hv : (x.toUInt32 % 65536).toInt32 = v) (k : aw l E mi Z d bc bs (pc + 1) ls (.int v :: st) n h) : aw l E mi Z d bc bs pc ls (.int x :: st) n h := by
  intro p e s m args below meth c H locs cells slots mc ms ls' F h1 h2 hR hS hl
  exact lv_i2c F.1 F.2.1 hd hv (k p e s m args below meth c H locs cells slots mc ms ls' F h1 h2 hR hS hl)
theorem aw_lcmp {x y : Int64} (hd : decode mi.2.1 pc = .ok (.lcmp, 1))  (k : aw l E mi Z d bc bs (pc + 1) ls (.int (lg_cmp x y) :: st) n h) : aw l E mi Z d bc bs pc ls (.long y :: .long x :: st) n h := by
  intro p e s m args below meth c H locs cells slots mc ms ls' F h1 h2 hR hS hl
  exact W.lcmp F.1 F.2.1 hd  (k p e s m args below meth c H locs cells slots mc ms ls' F h1 h2 hR hS hl)
theorem aw_dup {va : Value} (hd : decode mi.2.1 pc = .ok (.dup, 1)) (hva : va.category = 1) (k : aw l E mi Z d bc bs (pc + 1) ls (va :: va :: st) n h) : aw l E mi Z d bc bs pc ls (va :: st) n h := by
  intro p e s m args below meth c H locs cells slots mc ms ls' F h1 h2 hR hS hl
  exact lv_dup F.1 F.2.1 hd hva (k p e s m args below meth c H locs cells slots mc ms ls' F h1 h2 hR hS hl)
theorem aw_pop {va : Value} (hd : decode mi.2.1 pc = .ok (.pop, 1)) (hva : va.category = 1) (k : aw l E mi Z d bc bs (pc + 1) ls (st) n h) : aw l E mi Z d bc bs pc ls (va :: st) n h := by
  intro p e s m args below meth c H locs cells slots mc ms ls' F h1 h2 hR hS hl
  exact lv_pop F.1 F.2.1 hd hva (k p e s m args below meth c H locs cells slots mc ms ls' F h1 h2 hR hS hl)
theorem aw_dup2 {va vb : Value} (hd : decode mi.2.1 pc = .ok (.dup2, 1)) (hva : va.category = 1) (hvb : vb.category = 1) (k : aw l E mi Z d bc bs (pc + 1) ls (va :: vb :: va :: vb :: st) n h) : aw l E mi Z d bc bs pc ls (va :: vb :: st) n h := by
  intro p e s m args below meth c H locs cells slots mc ms ls' F h1 h2 hR hS hl
  exact lv_dup2_11 F.1 F.2.1 hd hva hvb (k p e s m args below meth c H locs cells slots mc ms ls' F h1 h2 hR hS hl)
theorem aw_dup_x1 {va vb : Value} (hd : decode mi.2.1 pc = .ok (.dup_x1, 1)) (hva : va.category = 1) (hvb : vb.category = 1) (k : aw l E mi Z d bc bs (pc + 1) ls (va :: vb :: va :: st) n h) : aw l E mi Z d bc bs pc ls (va :: vb :: st) n h := by
  intro p e s m args below meth c H locs cells slots mc ms ls' F h1 h2 hR hS hl
  exact lv_dup_x1 F.1 F.2.1 hd hva hvb (k p e s m args below meth c H locs cells slots mc ms ls' F h1 h2 hR hS hl)
theorem aw_if_eq {x : Int32} {off : Int} {tgt : Nat} (hd : decode mi.2.1 pc = .ok (.ifCond .eq off, 3)) (ht : (pc : Int) + off = (tgt : Int)) (kt : x = 0 → aw l E mi Z d bc bs tgt ls st n h) (kf : ¬ x = 0 → aw l E mi Z d bc bs (pc + 3) ls st n h) : aw l E mi Z d bc bs pc ls (.int x :: st) n h := by
  intro p e s m args below meth c H locs cells slots mc ms ls' F h1 h2 hR hS hl
  exact lv_if_eq F.1 F.2.1 hd ht (fun cq => kt cq p e s m args below meth c H locs cells slots mc ms ls' F h1 h2 hR hS hl) (fun cq => kf cq p e s m args below meth c H locs cells slots mc ms ls' F h1 h2 hR hS hl)
theorem aw_icmp_eq {x y : Int32} {off : Int} {tgt : Nat} (hd : decode mi.2.1 pc = .ok (.if_icmp .eq off, 3)) (ht : (pc : Int) + off = (tgt : Int)) (kt : x = y → aw l E mi Z d bc bs tgt ls st n h) (kf : ¬ x = y → aw l E mi Z d bc bs (pc + 3) ls st n h) : aw l E mi Z d bc bs pc ls (.int y :: .int x :: st) n h := by
  intro p e s m args below meth c H locs cells slots mc ms ls' F h1 h2 hR hS hl
  exact lv_icmp_eq F.1 F.2.1 hd ht (fun cq => kt cq p e s m args below meth c H locs cells slots mc ms ls' F h1 h2 hR hS hl) (fun cq => kf cq p e s m args below meth c H locs cells slots mc ms ls' F h1 h2 hR hS hl)
theorem aw_if_ne {x : Int32} {off : Int} {tgt : Nat} (hd : decode mi.2.1 pc = .ok (.ifCond .ne off, 3)) (ht : (pc : Int) + off = (tgt : Int)) (kt : ¬ x = 0 → aw l E mi Z d bc bs tgt ls st n h) (kf : x = 0 → aw l E mi Z d bc bs (pc + 3) ls st n h) : aw l E mi Z d bc bs pc ls (.int x :: st) n h := by
  intro p e s m args below meth c H locs cells slots mc ms ls' F h1 h2 hR hS hl
  exact lv_if_ne F.1 F.2.1 hd ht (fun cq => kt cq p e s m args below meth c H locs cells slots mc ms ls' F h1 h2 hR hS hl) (fun cq => kf cq p e s m args below meth c H locs cells slots mc ms ls' F h1 h2 hR hS hl)
theorem aw_icmp_ne {x y : Int32} {off : Int} {tgt : Nat} (hd : decode mi.2.1 pc = .ok (.if_icmp .ne off, 3)) (ht : (pc : Int) + off = (tgt : Int)) (kt : ¬ x = y → aw l E mi Z d bc bs tgt ls st n h) (kf : x = y → aw l E mi Z d bc bs (pc + 3) ls st n h) : aw l E mi Z d bc bs pc ls (.int y :: .int x :: st) n h := by
  intro p e s m args below meth c H locs cells slots mc ms ls' F h1 h2 hR hS hl
  exact lv_icmp_ne F.1 F.2.1 hd ht (fun cq => kt cq p e s m args below meth c H locs cells slots mc ms ls' F h1 h2 hR hS hl) (fun cq => kf cq p e s m args below meth c H locs cells slots mc ms ls' F h1 h2 hR hS hl)
theorem aw_if_lt {x : Int32} {off : Int} {tgt : Nat} (hd : decode mi.2.1 pc = .ok (.ifCond .lt off, 3)) (ht : (pc : Int) + off = (tgt : Int)) (kt : x < 0 → aw l E mi Z d bc bs tgt ls st n h) (kf : ¬ x < 0 → aw l E mi Z d bc bs (pc + 3) ls st n h) : aw l E mi Z d bc bs pc ls (.int x :: st) n h := by
  intro p e s m args below meth c H locs cells slots mc ms ls' F h1 h2 hR hS hl
  exact lv_if_lt F.1 F.2.1 hd ht (fun cq => kt cq p e s m args below meth c H locs cells slots mc ms ls' F h1 h2 hR hS hl) (fun cq => kf cq p e s m args below meth c H locs cells slots mc ms ls' F h1 h2 hR hS hl)
theorem aw_icmp_lt {x y : Int32} {off : Int} {tgt : Nat} (hd : decode mi.2.1 pc = .ok (.if_icmp .lt off, 3)) (ht : (pc : Int) + off = (tgt : Int)) (kt : x < y → aw l E mi Z d bc bs tgt ls st n h) (kf : ¬ x < y → aw l E mi Z d bc bs (pc + 3) ls st n h) : aw l E mi Z d bc bs pc ls (.int y :: .int x :: st) n h := by
  intro p e s m args below meth c H locs cells slots mc ms ls' F h1 h2 hR hS hl
  exact lv_icmp_lt F.1 F.2.1 hd ht (fun cq => kt cq p e s m args below meth c H locs cells slots mc ms ls' F h1 h2 hR hS hl) (fun cq => kf cq p e s m args below meth c H locs cells slots mc ms ls' F h1 h2 hR hS hl)
theorem aw_if_ge {x : Int32} {off : Int} {tgt : Nat} (hd : decode mi.2.1 pc = .ok (.ifCond .ge off, 3)) (ht : (pc : Int) + off = (tgt : Int)) (kt : 0 ≤ x → aw l E mi Z d bc bs tgt ls st n h) (kf : ¬ 0 ≤ x → aw l E mi Z d bc bs (pc + 3) ls st n h) : aw l E mi Z d bc bs pc ls (.int x :: st) n h := by
  intro p e s m args below meth c H locs cells slots mc ms ls' F h1 h2 hR hS hl
  exact lv_if_ge F.1 F.2.1 hd ht (fun cq => kt cq p e s m args below meth c H locs cells slots mc ms ls' F h1 h2 hR hS hl) (fun cq => kf cq p e s m args below meth c H locs cells slots mc ms ls' F h1 h2 hR hS hl)
theorem aw_icmp_ge {x y : Int32} {off : Int} {tgt : Nat} (hd : decode mi.2.1 pc = .ok (.if_icmp .ge off, 3)) (ht : (pc : Int) + off = (tgt : Int)) (kt : y ≤ x → aw l E mi Z d bc bs tgt ls st n h) (kf : ¬ y ≤ x → aw l E mi Z d bc bs (pc + 3) ls st n h) : aw l E mi Z d bc bs pc ls (.int y :: .int x :: st) n h := by
  intro p e s m args below meth c H locs cells slots mc ms ls' F h1 h2 hR hS hl
  exact lv_icmp_ge F.1 F.2.1 hd ht (fun cq => kt cq p e s m args below meth c H locs cells slots mc ms ls' F h1 h2 hR hS hl) (fun cq => kf cq p e s m args below meth c H locs cells slots mc ms ls' F h1 h2 hR hS hl)
theorem aw_if_gt {x : Int32} {off : Int} {tgt : Nat} (hd : decode mi.2.1 pc = .ok (.ifCond .gt off, 3)) (ht : (pc : Int) + off = (tgt : Int)) (kt : 0 < x → aw l E mi Z d bc bs tgt ls st n h) (kf : ¬ 0 < x → aw l E mi Z d bc bs (pc + 3) ls st n h) : aw l E mi Z d bc bs pc ls (.int x :: st) n h := by
  intro p e s m args below meth c H locs cells slots mc ms ls' F h1 h2 hR hS hl
  exact lv_if_gt F.1 F.2.1 hd ht (fun cq => kt cq p e s m args below meth c H locs cells slots mc ms ls' F h1 h2 hR hS hl) (fun cq => kf cq p e s m args below meth c H locs cells slots mc ms ls' F h1 h2 hR hS hl)
theorem aw_icmp_gt {x y : Int32} {off : Int} {tgt : Nat} (hd : decode mi.2.1 pc = .ok (.if_icmp .gt off, 3)) (ht : (pc : Int) + off = (tgt : Int)) (kt : y < x → aw l E mi Z d bc bs tgt ls st n h) (kf : ¬ y < x → aw l E mi Z d bc bs (pc + 3) ls st n h) : aw l E mi Z d bc bs pc ls (.int y :: .int x :: st) n h := by
  intro p e s m args below meth c H locs cells slots mc ms ls' F h1 h2 hR hS hl
  exact lv_icmp_gt F.1 F.2.1 hd ht (fun cq => kt cq p e s m args below meth c H locs cells slots mc ms ls' F h1 h2 hR hS hl) (fun cq => kf cq p e s m args below meth c H locs cells slots mc ms ls' F h1 h2 hR hS hl)
theorem aw_if_le {x : Int32} {off : Int} {tgt : Nat} (hd : decode mi.2.1 pc = .ok (.ifCond .le off, 3)) (ht : (pc : Int) + off = (tgt : Int)) (kt : x ≤ 0 → aw l E mi Z d bc bs tgt ls st n h) (kf : ¬ x ≤ 0 → aw l E mi Z d bc bs (pc + 3) ls st n h) : aw l E mi Z d bc bs pc ls (.int x :: st) n h := by
  intro p e s m args below meth c H locs cells slots mc ms ls' F h1 h2 hR hS hl
  exact lv_if_le F.1 F.2.1 hd ht (fun cq => kt cq p e s m args below meth c H locs cells slots mc ms ls' F h1 h2 hR hS hl) (fun cq => kf cq p e s m args below meth c H locs cells slots mc ms ls' F h1 h2 hR hS hl)
theorem aw_icmp_le {x y : Int32} {off : Int} {tgt : Nat} (hd : decode mi.2.1 pc = .ok (.if_icmp .le off, 3)) (ht : (pc : Int) + off = (tgt : Int)) (kt : x ≤ y → aw l E mi Z d bc bs tgt ls st n h) (kf : ¬ x ≤ y → aw l E mi Z d bc bs (pc + 3) ls st n h) : aw l E mi Z d bc bs pc ls (.int y :: .int x :: st) n h := by
  intro p e s m args below meth c H locs cells slots mc ms ls' F h1 h2 hR hS hl
  exact lv_icmp_le F.1 F.2.1 hd ht (fun cq => kt cq p e s m args below meth c H locs cells slots mc ms ls' F h1 h2 hR hS hl) (fun cq => kf cq p e s m args below meth c H locs cells slots mc ms ls' F h1 h2 hR hS hl)
theorem aw_goto {off : Int} {tgt : Nat} (hd : decode mi.2.1 pc = .ok (.goto off, 3)) (ht : (pc : Int) + off = (tgt : Int)) (k : aw l E mi Z d bc bs tgt ls st n h) : aw l E mi Z d bc bs pc ls st n h := by
  intro p e s m args below meth c H locs cells slots mc ms ls' F h1 h2 hR hS hl
  exact lv_goto F.1 F.2.1 hd ht (k p e s m args below meth c H locs cells slots mc ms ls' F h1 h2 hR hS hl)
theorem aw_ifnonnull {x : Nat} {off : Int} {tgt : Nat} (hd : decode mi.2.1 pc = .ok (.ifnonnull off, 3)) (ht : (pc : Int) + off = (tgt : Int)) (k : aw l E mi Z d bc bs tgt ls st n h) : aw l E mi Z d bc bs pc ls (.ref x :: st) n h := by
  intro p e s m args below meth c H locs cells slots mc ms ls' F h1 h2 hR hS hl
  exact lv_ifnonnull F.1 F.2.1 hd ht (k p e s m args below meth c H locs cells slots mc ms ls' F h1 h2 hR hS hl)
theorem aw_ifnonnullN {off : Int} (hd : decode mi.2.1 pc = .ok (.ifnonnull off, 3)) (k : aw l E mi Z d bc bs (pc + 3) ls st n h) : aw l E mi Z d bc bs pc ls (.null :: st) n h := by
  intro p e s m args below meth c H locs cells slots mc ms ls' F h1 h2 hR hS hl
  exact lv_ifnonnullN F.1 F.2.1 hd (k p e s m args below meth c H locs cells slots mc ms ls' F h1 h2 hR hS hl)
theorem aw_tableOut {dflt lo hi : Int} {offs : Array Int} {len : Nat} {x : Int32} {tgt : Nat} (hd : decode mi.2.1 pc = .ok (.tableswitch dflt lo hi offs, len)) (hx : x.toInt < lo ∨ hi < x.toInt) (ht : (pc : Int) + dflt = (tgt : Int)) (k : aw l E mi Z d bc bs tgt ls st n h) : aw l E mi Z d bc bs pc ls (.int x :: st) n h := by
  intro p e s m args below meth c H locs cells slots mc ms ls' F h1 h2 hR hS hl
  exact lv_tableOut F.1 F.2.1 hd hx ht (k p e s m args below meth c H locs cells slots mc ms ls' F h1 h2 hR hS hl)
theorem aw_tableIn {dflt lo hi : Int} {offs : Array Int} {len : Nat} {x : Int32} {off : Int} {tgt : Nat} (hd : decode mi.2.1 pc = .ok (.tableswitch dflt lo hi offs, len)) (hx1 : ¬ x.toInt < lo) (hx2 : ¬ hi < x.toInt) (ho : offs[(x.toInt - lo).toNat]? = some off) (ht : (pc : Int) + off = (tgt : Int)) (k : aw l E mi Z d bc bs tgt ls st n h) : aw l E mi Z d bc bs pc ls (.int x :: st) n h := by
  intro p e s m args below meth c H locs cells slots mc ms ls' F h1 h2 hR hS hl
  exact lv_tableIn F.1 F.2.1 hd hx1 hx2 ho ht (k p e s m args below meth c H locs cells slots mc ms ls' F h1 h2 hR hS hl)
theorem aw_lookup {dflt : Int} {ps : Array (Int × Int)} {len : Nat} {x : Int32} {off : Int} {tgt : Nat} (hd : decode mi.2.1 pc = .ok (.lookupswitch dflt ps, len)) (hp : (ps.toList.zip (ps.toList.drop 1)).all (fun (a, next) => a.1 < next.1) = true) (ho : Op.lookupswitch.offset ps.toList dflt x.toInt = off) (ht : (pc : Int) + off = (tgt : Int)) (k : aw l E mi Z d bc bs tgt ls st n h) : aw l E mi Z d bc bs pc ls (.int x :: st) n h := by
  intro p e s m args below meth c H locs cells slots mc ms ls' F h1 h2 hR hS hl
  exact lv_lookup F.1 F.2.1 hd hp ho ht (k p e s m args below meth c H locs cells slots mc ms ls' F h1 h2 hR hS hl)
theorem aw_ldc {i : Nat} {v : Int32} (hd : decode mi.2.1 pc = .ok (.ldc i, 2)) (hc : Cond.constant mi.1.cls i v ∈ aw_T) (k : aw l E mi Z d bc bs (pc + 2) ls (.int v :: st) n h) : aw l E mi Z d bc bs pc ls st n h := by
  intro p e s m args below meth c H locs cells slots mc ms ls' F h1 h2 hR hS hl
  exact lv_ldc F.1 F.2.1 F.2.2.2.2.1 (F.2.2.2.2.2.1 _ hc) hd (k p e s m args below meth c H locs cells slots mc ms ls' F h1 h2 hR hS hl)
theorem aw_ldcw {i : Nat} {v : Int32} (hd : decode mi.2.1 pc = .ok (.ldc_w i, 3)) (hc : Cond.constant mi.1.cls i v ∈ aw_T) (k : aw l E mi Z d bc bs (pc + 3) ls (.int v :: st) n h) : aw l E mi Z d bc bs pc ls st n h := by
  intro p e s m args below meth c H locs cells slots mc ms ls' F h1 h2 hR hS hl
  exact lv_ldcw F.1 F.2.1 F.2.2.2.2.1 (F.2.2.2.2.2.1 _ hc) hd (k p e s m args below meth c H locs cells slots mc ms ls' F h1 h2 hR hS hl)
theorem aw_ldc2 {i : Nat} {v : Int64} (hd : decode mi.2.1 pc = .ok (.ldc2_w i, 3)) (hc : Cond.constantLong mi.1.cls i v ∈ aw_T) (k : aw l E mi Z d bc bs (pc + 3) ls (.long v :: st) n h) : aw l E mi Z d bc bs pc ls st n h := by
  intro p e s m args below meth c H locs cells slots mc ms ls' F h1 h2 hR hS hl
  exact lv_ldc2 F.1 F.2.1 F.2.2.2.2.1 (F.2.2.2.2.2.1 _ hc) hd (k p e s m args below meth c H locs cells slots mc ms ls' F h1 h2 hR hS hl)
end AW
end
section
/-! ROWS OF THE ABSTRACT WALK that touch the heap, calls, ends. -/
theorem aw_goodT {w : Cond} (h : w ∈ aw_T) : goodWord w = true := (List.mem_filter.mp h).2
theorem aw_goodIn {w : Cond} (h : w ∈ aw_T) : GoodIn aw_T (w :: aw_T) := by
  intro v hv
  have hm : v ∈ aw_T := by
    rcases List.mem_cons.mp hv with e | e
    · rw [e]; exact h
    · exact e
  exact ⟨hm, good_of_word (aw_goodT hm)⟩
theorem aw_P1 {D : va_G} {cl : List vw_C} {q : Nat × va_E} {H : Heap} (h : va_at D cl q H) : va_P D cl [q] H := by
  intro k q' hq
  match k, hq with
  | 0, hq => cases hq; exact h
  | k + 1, hq => simp at hq
theorem aw_at_kept {E : aw_E} {a : Nat} {e : ae} {H H1 : Heap} (h : aw_at E a e H) (hq : H1[a]? = H[a]?) : aw_at E a e H1 := by
  obtain ⟨n, f⟩ | ⟨t, n, g⟩ | o := e
  · show H1[a]? = _
    rw [hq]; exact h
  · exact ⟨h.1, by rw [hq]; exact h.2⟩
  · exact va_at.kept (D := E.1) (cl := vwCl) (q := (a, .inr o)) h hq
theorem aw_O {E : aw_E} {n a ci : Nat} {fs : List Value} {h : ah} {H : Heap} (hR : aw_R E n h H) (hh : h a = some (aO ci fs)) : va_P E.1 vwCl [(a, .inr (ci, fs))] H := aw_P1 (q := (a, .inr (ci, fs))) (hR.2 a _ hh).2
theorem aw_at_lt {E : aw_E} {a : Nat} {e : ae} {H : Heap} (h : aw_at E a e H) : a < H.size := by
  obtain ⟨n, f⟩ | ⟨t, n, g⟩ | o := e
  · exact (Array.getElem?_eq_some_iff.mp (show H[a]? = some _ from h)).1
  · exact (Array.getElem?_eq_some_iff.mp h.2).1
  · exact va_at.lt (q := (a, .inr o)) h
theorem aw_R_set {E : aw_E} {n a : Nat} {h : ah} {e : ae} {H H1 : Heap} (hR : aw_R E n h H) (ha : E.2.2.1 ≤ a) (hz : H1.size = H.size) (ho : ∀ q : Nat, q ≠ a → H1[q]? = H[q]?) (hat : aw_at E a e H1) : aw_R E n (ah_set h a e) H1 := by
  refine ⟨hz.trans hR.1, fun b e' hb => ?_⟩
  by_cases hq : b = a
  · subst hq
    rw [ah_set_eq] at hb
    cases hb
    exact ⟨ha, hat⟩
  · rw [ah_set_ne h e hq] at hb
    exact ⟨(hR.2 b e' hb).1, aw_at_kept (hR.2 b e' hb).2 (ho b hq)⟩
theorem aw_R_new {E : aw_E} {n : Nat} {h : ah} {e : ae} {H H1 : Heap} (hR : aw_R E n h H) (hE : E.2.2.1 ≤ H.size) (hz : H1.size = H.size + 1) (ho : ∀ q : Nat, q < H.size → H1[q]? = H[q]?) (hat : aw_at E n e H1) : aw_R E (n + 1) (ah_set h n e) H1 := by
  refine ⟨by rw [hz, hR.1], fun b e' hb => ?_⟩
  by_cases hq : b = n
  · subst hq
    rw [ah_set_eq] at hb
    cases hb
    exact ⟨by rw [← hR.1]; exact hE, hat⟩
  · rw [ah_set_ne h e hq] at hb
    exact ⟨(hR.2 b e' hb).1, aw_at_kept (hR.2 b e' hb).2 (ho b (aw_at_lt (hR.2 b e' hb).2))⟩
/-- the field that entry idx of own's pool names is number k of class ci -/
def aw_fl (own : String) (idx ci k : Nat) : Prop := ∃ (C : String) (T : u_T) (N : Nat), vwCl[ci]? = some (C, T, N) ∧ k < N ∧ (∀ w ∈ u_ws C T N, w ∈ aw_T) ∧ Cond.fieldLink own idx (T k).1 (T k).2.1 (T k).2.2.1 ∈ aw_T
/-- it may be stored to, with values of type ty; fin: it is final (of own, stored in its constructor) -/
def aw_fp (own : String) (idx ci k : Nat) (fin : Bool) (ty : FieldType) : Prop := ∃ (C : String) (T : u_T) (N : Nat) (ty0 : Nat → FieldType), vwCl[ci]? = some (C, T, N) ∧ k < N ∧ (∀ w ∈ u_ws C T N, w ∈ aw_T) ∧ Cond.fieldLink own idx (T k).1 (T k).2.1 (T k).2.2.1 ∈ aw_T ∧ (T k).2.2.2 = fin ∧ parseFieldDescriptor (T k).2.2.1 = some ty ∧ (∀ k, k < N → parseFieldDescriptor (T k).2.2.1 = some (ty0 k)) ∧ (∀ a, a < N → ∀ b, b < N → a ≠ b → (T a).2.1 ≠ (T b).2.1) ∧ (fin = true → (T k).1 = own)
def aw_nw (own : String) (idx ci : Nat) (fs : List Value) (N : Nat) : Prop := ∃ (C : String) (T : u_T) (ty0 : Nat → FieldType), vwCl[ci]? = some (C, T, N) ∧ (∀ w ∈ u_ws C T N, w ∈ aw_T) ∧ (∀ k, k < N → parseFieldDescriptor (T k).2.2.1 = some (ty0 k)) ∧ Cond.classLink own idx C ∈ aw_T ∧ Cond.instantiable C N ∈ aw_T ∧ Cond.initialized C ∈ aw_T ∧ (∀ j, j < N → defaultValue (ty0 j) = vp_V fs j)
def aw_cm (yi : aw_M) (np : Nat) : Prop := Cond.code yi.1 yi.2.1 yi.2.2.1 yi.2.2.2 ∈ aw_T ∧ Cond.initialized yi.1.cls ∈ aw_T ∧ (yi.1.cls ≠ "java/lang/invoke/MethodHandle" ∧ yi.1.cls ≠ "java/lang/invoke/VarHandle" ∧ (parseMethodDescriptor yi.1.desc).map (fun d => d.parameters.length) = some np) ∧ yi.2.2.1 ≤ 15
def aw_cV (own : String) (idx ci : Nat) (yi : aw_M) : Prop := ∃ r : vw_C, vwCl[ci]? = some r ∧ Cond.methodLink own idx yi.1 ∈ aw_T ∧ Cond.instanceMethod yi.1 ∈ aw_T ∧ Cond.selects r.1 yi.1 yi.1 ∈ aw_T
def aw_cS (own : String) (idx : Nat) (yi : aw_M) : Prop := Cond.methodLink own idx yi.1 ∈ aw_T ∧ Cond.static yi.1 ∈ aw_T
def aw_cI (own : String) (idx : Nat) (yi : aw_M) : Prop := Cond.methodLink own idx yi.1 ∈ aw_T ∧ Cond.instanceMethod yi.1 ∈ aw_T ∧ yi.1.name = "<init>" ∧ yi.2.2.2 = none
def aw_cO (own : String) (idx ci : Nat) (x : MethodName) (yi : aw_M) : Prop := ∃ (r : vw_C) (b0 : ByteArray) (m0 : Nat) (r0 : Option FieldType), vwCl[ci]? = some r ∧ Cond.methodLink own idx x ∈ aw_T ∧ Cond.sameMethod x.cls x.cls x.name x.desc ∈ aw_T ∧ Cond.instanceMethod x ∈ aw_T ∧ Cond.selects r.1 x yi.1 ∈ aw_T ∧ Cond.instanceMethod yi.1 ∈ aw_T ∧ Cond.code x b0 m0 r0 ∈ aw_T ∧ x.name = yi.1.name ∧ x.desc = yi.1.desc ∧ x.cls ≠ "java/lang/invoke/MethodHandle" ∧ x.cls ≠ "java/lang/invoke/VarHandle"
def aw_cU (own : String) (idx : Nat) (yi : aw_M) : Prop := Cond.methodLink own idx yi.1 ∈ aw_T ∧ Cond.sameMethod yi.1.cls yi.1.cls yi.1.name yi.1.desc ∈ aw_T ∧ Cond.superclass own yi.1.cls ∈ aw_T ∧ Cond.instanceMethod yi.1 ∈ aw_T ∧ yi.1.name ≠ "<init>"
section AWH
variable {l : Launch} {E : aw_E} {mi : aw_M} {Z : aw_Zt} {d bc bs pc : Nat} {ls : List (Nat × Value)} {st : List Value} {n : Nat} {h : ah}
theorem aw_get {i ci k a : Nat} {fs : List Value} {v : Value} (hd : decode mi.2.1 pc = .ok (.getfield i, 3)) (hf : aw_fl mi.1.cls i ci k) (hh : h a = some (aO ci fs)) (hv : fs[k]? = some v) (kk : aw l E mi Z d bc bs (pc + 3) ls (v :: st) n h) : aw l E mi Z d bc bs pc ls (.ref a :: st) n h := by
  intro p e s m args below meth c H locs cells slots mc ms ls' F h1 h2 hR hS hl
  obtain ⟨C, T, N, hc, hk, hin, hlk⟩ := hf
  exact va_get (D := E.1) (cl := vwCl) (ws := [(a, .inr (ci, fs))]) F.1 F.2.1 F.2.2.2.2.2.1 hin F.2.2.2.2.1 F.2.2.2.2.2.2.2.2.1 (aw_P1 (hR.2 a _ hh).2) 0 rfl hc k hk (F.2.2.2.2.2.1 _ hlk) (fun _ x => x) hv hd (kk p e s m args below meth c H locs cells slots mc ms ls' F h1 h2 hR hS hl)
theorem aw_put {i ci k a : Nat} {fs : List Value} {v : Value} {ty : FieldType} (hd : decode mi.2.1 pc = .ok (.putfield i, 3)) (hf : aw_fp mi.1.cls i ci k false ty) (hh : h a = some (aO ci fs)) (hl0 : k < fs.length) (hn : narrow ty v = v) (hfit : fits ty v = true) (kk : aw l E mi Z d bc bs (pc + 3) ls st n (ah_set h a (aO ci (fs.set k v)))) : aw l E mi Z d bc bs pc ls (v :: .ref a :: st) n h := by
  intro p e s m args below meth c H locs cells slots mc ms ls' F h1 h2 hR hS hl
  obtain ⟨C, T, N, ty0, hc, hk, hin, hlk, hfin, hpd, hty, hnm, -⟩ := hf
  have hts := F.2.2.2.2.2.1
  have hown := F.2.2.2.2.1
  have hK : va_K E.1 vwCl (aw_tys E) s := F.2.2.2.2.2.2.2.2.1
  have hap := va_apart (own := mi.1.cls) hts hin ty0 hty hnm hK hc
  obtain ⟨hba, hat⟩ := hR.2 a _ hh
  obtain ⟨r, g1, cell, q1, q2, q3, q4⟩ := hat
  have hr : r = (C, T, N) := Option.some.inj (g1.symm.trans hc)
  subst hr
  obtain ⟨hSl, hfc, kC, hkC, hkind⟩ := hK.1 ci _ hc
  obtain ⟨cf, kf, fi, f, hi, hsl⟩ := hSl k hk
  have hlay := hts _ (hin _ (u_in_lay hk))
  unfold u_lay at hlay
  rw [if_neg (by rw [hfin]; decide)] at hlay
  have hst := (u_facts hfc hkC (u_lays hts hin hk) hi).1
  have h6 := u_store hfc hkC hkind hlay hi hpd hn hfit
  refine W.putK F.1 F.2.1 (f := f) ⟨hown, hts _ hlk, ⟨_, _, _, hi⟩, hst⟩ (by rw [q2]; exact h6) q1 q3 (by rw [hsl]; exact k2_hasslot (q4 k hk)) rfl rfl hd fun H' e1 e2 e3 => ?_
  rw [hsl] at e1 ⊢
  exact kk p e s m args below meth c H' _ cells slots mc ms ls' F h1 h2 (aw_R_set hR hba e2 e3 ⟨_, hc, t_OB.to (V := updV (vp_V fs) k v) ⟨_, e1, q2, q3, t_set q4 hap hk v⟩ (fun j _ => vp_updV_set hl0 v j)⟩) (hS.put e2 e3 hba) hl
theorem aw_putF {i ci k a : Nat} {fs : List Value} {v : Value} {ty : FieldType} (hd : decode mi.2.1 pc = .ok (.putfield i, 3)) (hf : aw_fp mi.1.cls i ci k true ty) (hini : mi.1.name = "<init>") (hh : h a = some (aO ci fs)) (hl0 : k < fs.length) (hn : narrow ty v = v) (hfit : fits ty v = true) (kk : aw l E mi Z d bc bs (pc + 3) ls st n (ah_set h a (aO ci (fs.set k v)))) : aw l E mi Z d bc bs pc ls (v :: .ref a :: st) n h := by
  intro p e s m args below meth c H locs cells slots mc ms ls' F h1 h2 hR hS hl
  obtain ⟨C, T, N, ty0, hc, hk, hin, hlk, hfin, hpd, hty, hnm, hde⟩ := hf
  have hdecl := hde rfl
  have hts := F.2.2.2.2.2.1
  have hown := F.2.2.2.2.1
  have hK : va_K E.1 vwCl (aw_tys E) s := F.2.2.2.2.2.2.2.2.1
  have hap := va_apart (own := mi.1.cls) hts hin ty0 hty hnm hK hc
  obtain ⟨hba, hat⟩ := hR.2 a _ hh
  obtain ⟨r, g1, cell, q1, q2, q3, q4⟩ := hat
  have hr : r = (C, T, N) := Option.some.inj (g1.symm.trans hc)
  subst hr
  obtain ⟨hSl, hfc, kC, hkC, hkind⟩ := hK.1 ci _ hc
  obtain ⟨cf, kf, fi, f, hi, hsl⟩ := hSl k hk
  have hlay := hts _ (hin _ (u_in_lay hk))
  unfold u_lay at hlay
  rw [if_pos hfin] at hlay
  have hst := (u_facts hfc hkC (u_lays hts hin hk) hi).1
  have hcf : m.cls = cf := by
    obtain ⟨_, _, c', _, _, _, -, -, hf', -, -, -, hown2, -⟩ := Cond.laysFinal_spec hlay
    have e1 : c' = cf := by have := hi.symm.trans hf'; simp at this; exact this.1.symm
    rw [hdecl] at hown2
    rw [← e1]; exact Option.some.inj (hown.symm.trans hown2)
  have h6 := u_fits hfc hkC hkind (Or.inr hlay) hi hpd hn hfit
  refine W.putFinK F.1 F.2.1 hown (hts _ hlk) hi hst hcf (F.2.2.2.2.2.2.2.1.trans hini) (by rw [q2]; exact h6) q1 q3 (by rw [hsl]; exact k2_hasslot (q4 k hk)) rfl rfl hd fun H' e1 e2 e3 => ?_
  rw [hsl] at e1 ⊢
  exact kk p e s m args below meth c H' _ cells slots mc ms ls' F h1 h2 (aw_R_set hR hba e2 e3 ⟨_, hc, t_OB.to (V := updV (vp_V fs) k v) ⟨_, e1, q2, q3, t_set q4 hap hk v⟩ (fun j _ => vp_updV_set hl0 v j)⟩) (hS.put e2 e3 hba) hl
theorem aw_iald {a N : Nat} {f : Nat → Int32} {i : Int32} (hd : decode mi.2.1 pc = .ok (.iaload, 1)) (hh : h a = some (aI N f)) (hin : vp_in i N) (kk : aw l E mi Z d bc bs (pc + 1) ls (.int (f i.toNatClampNeg) :: st) n h) : aw l E mi Z d bc bs pc ls (.int i :: .ref a :: st) n h := by
  intro p e s m args below meth c H locs cells slots mc ms ls' F h1 h2 hR hS hl
  exact va_iald (D := E.1) (cl := vwCl) (ws := [(a, .inl (E.2.1 0, N, .inl f))]) F.1 F.2.1 F.2.2.2.2.2.2.2.2.1 (aw_P1 (hR.2 a _ hh).2) 0 0 rfl rfl hin hd (kk p e s m args below meth c H locs cells slots mc ms ls' F h1 h2 hR hS hl)
theorem aw_iast {a N : Nat} {f : Nat → Int32} {i x : Int32} (hd : decode mi.2.1 pc = .ok (.iastore, 1)) (hh : h a = some (aI N f)) (hin : vp_in i N) (kk : aw l E mi Z d bc bs (pc + 1) ls st n (ah_set h a (aI N (upd f i.toNatClampNeg x)))) : aw l E mi Z d bc bs pc ls (.int x :: .int i :: .ref a :: st) n h := by
  intro p e s m args below meth c H locs cells slots mc ms ls' F h1 h2 hR hS hl
  obtain ⟨hba, hat⟩ := hR.2 a _ hh
  have hK : va_K E.1 vwCl (aw_tys E) s := F.2.2.2.2.2.2.2.2.1
  refine W.iast F.1 F.2.1 (show H[a]? = some _ from hat) ((hK.2 0 _ rfl).1 N (fun j => .int (f j))) (fun q => by cases q) (by show ¬ (i < 0 ∨ (arrV _ _ _).slots.size ≤ _); rw [arrV_size]; exact hin) rfl rfl hd fun H1 e1 z oq => ?_
  refine kk p e s m args below meth c H1 _ cells slots mc ms ls' F h1 h2 (aw_R_set hR hba z oq ?_) (hS.put z oq hba) hl
  show H1[a]? = some (vp_cell _ _)
  rw [e1]
  rw [vp_cell_i, vp_cell_i, arrV_store]
  congr 2
  funext q
  by_cases hq : q = i.toNatClampNeg
  · subst hq
    simp [updV, upd]
  · simp [updV, upd, hq]
theorem aw_alenI {a N : Nat} {f : Nat → Int32} {v : Int32} (hd : decode mi.2.1 pc = .ok (.arraylength, 1)) (hh : h a = some (aI N f)) (hv : Int32.ofNat N = v) (kk : aw l E mi Z d bc bs (pc + 1) ls (.int v :: st) n h) : aw l E mi Z d bc bs pc ls (.ref a :: st) n h := by
  intro p e s m args below meth c H locs cells slots mc ms ls' F h1 h2 hR hS hl
  exact va_alen (D := E.1) (cl := vwCl) (ws := [(a, .inl (E.2.1 0, N, .inl f))]) F.1 F.2.1 F.2.2.2.2.2.2.2.2.1 (aw_P1 (hR.2 a _ hh).2) 0 0 rfl rfl hv hd (kk p e s m args below meth c H locs cells slots mc ms ls' F h1 h2 hR hS hl)
theorem aw_alenR {a t N : Nat} {g : Nat → Option Nat} {v : Int32} (hd : decode mi.2.1 pc = .ok (.arraylength, 1)) (hh : h a = some (aR t N g)) (hv : Int32.ofNat N = v) (kk : aw l E mi Z d bc bs (pc + 1) ls (.int v :: st) n h) : aw l E mi Z d bc bs pc ls (.ref a :: st) n h := by
  intro p e s m args below meth c H locs cells slots mc ms ls' F h1 h2 hR hS hl
  obtain ⟨ht, hat⟩ := (hR.2 a _ hh).2
  have kw := kk p e s m args below meth c H locs cells slots mc ms ls' F h1 h2 hR hS hl
  rcases ht with rfl | rfl
  · exact va_alen (D := E.1) (cl := vwCl) (ws := [(a, .inl (E.2.1 1, N, .inr (.inr (.inr (.inr g)))))]) F.1 F.2.1 F.2.2.2.2.2.2.2.2.1 (aw_P1 hat) 0 1 rfl rfl hv hd kw
  · exact va_alen (D := E.1) (cl := vwCl) (ws := [(a, .inl (E.2.1 2, N, .inr (.inr (.inr (.inr g)))))]) F.1 F.2.1 F.2.2.2.2.2.2.2.2.1 (aw_P1 hat) 0 2 rfl rfl hv hd kw
theorem aw_aald {a t N : Nat} {g : Nat → Option Nat} {i : Int32} (hd : decode mi.2.1 pc = .ok (.aaload, 1)) (hh : h a = some (aR t N g)) (hin : vp_in i N) (kk : aw l E mi Z d bc bs (pc + 1) ls (va_rf (g i.toNatClampNeg) :: st) n h) : aw l E mi Z d bc bs pc ls (.int i :: .ref a :: st) n h := by
  intro p e s m args below meth c H locs cells slots mc ms ls' F h1 h2 hR hS hl
  obtain ⟨ht, hat⟩ := (hR.2 a _ hh).2
  have kw := kk p e s m args below meth c H locs cells slots mc ms ls' F h1 h2 hR hS hl
  rcases ht with rfl | rfl
  · exact va_aldq (D := E.1) (cl := vwCl) (ws := [(a, .inl (E.2.1 1, N, .inr (.inr (.inr (.inr g)))))]) F.1 F.2.1 F.2.2.2.2.2.2.2.2.1 (aw_P1 hat) 0 1 rfl rfl hin hd kw
  · exact va_aldq (D := E.1) (cl := vwCl) (ws := [(a, .inl (E.2.1 2, N, .inr (.inr (.inr (.inr g)))))]) F.1 F.2.1 F.2.2.2.2.2.2.2.2.1 (aw_P1 hat) 0 2 rfl rfl hin hd kw
/-- an object of class ci may lie in rows of kind t -/
def aw_ok (E : aw_E) (t ci : Nat) : Prop := ∃ r : vw_C, vwCl[ci]? = some r ∧ (r.1 = (if t = 1 then "HonestGold$Plain" else "HonestGold$Treasury") ∨ ∀ (U : State) (H : Heap), E.2.2.2 U H → ∃ cD cT : ClassId, U.vm.findClass r.1 = some cD ∧ U.vm.findClass (if t = 1 then "HonestGold$Plain" else "HonestGold$Treasury") = some cT ∧ U.vm.assignable cD cT = true)
theorem aw_aast {a t N v ci : Nat} {g : Nat → Option Nat} {fs : List Value} {i : Int32} (hd : decode mi.2.1 pc = .ok (.aastore, 1)) (hh : h a = some (aR t N g)) (hin : vp_in i N) (hv : h v = some (aO ci fs)) (hok : aw_ok E t ci) (kk : aw l E mi Z d bc bs (pc + 1) ls st n (ah_set h a (aR t N (va_up g i.toNatClampNeg (some v))))) : aw l E mi Z d bc bs pc ls (.ref v :: .int i :: .ref a :: st) n h := by
  intro p e s m args below meth c H locs cells slots mc ms ls' F h1 h2 hR hS hl
  obtain ⟨hba, ht, hat⟩ := hR.2 a _ hh
  have hK : va_K E.1 vwCl (aw_tys E) s := F.2.2.2.2.2.2.2.2.1
  have hts := F.2.2.2.2.2.1
  obtain ⟨r, hc, hok⟩ := hok
  have hlt : i.toNatClampNeg < N := Nat.not_le.mp fun q => hin (Or.inr q)
  have h0 : ¬ i < 0 := fun q => hin (Or.inl q)
  obtain ⟨cellV, g1, g3, gf⟩ := va_recv hK (aw_O hR hv) hc (q0 := 0) rfl
  obtain ⟨kC, hkC, -⟩ := Vm.findClass_spec gf
  have hRA : va_RA s (E.2.1 t) (.object (if t = 1 then "HonestGold$Plain" else "HonestGold$Treasury")) := by
    rcases ht with rfl | rfl
    · exact (hK.2 1 _ rfl).2
    · exact (hK.2 2 _ rfl).2
  obtain ⟨kA, comp, k1, k2, k3, -⟩ := hRA
  obtain ⟨kE, hkE, -⟩ := Vm.findClass_spec k3
  have hasg : s.vm.assignable cellV.cls comp = true := by
    rcases hok with he | hcs
    · rw [he] at gf
      cases gf.symm.trans k3
      exact va_asg _ _
    · obtain ⟨cD, cT, w1, w2, w3⟩ := hcs s s.heap F.2.2.2.2.2.2.2.2.2.1
      cases gf.symm.trans w1
      cases k3.symm.trans w2
      exact w3
  refine W.aast F.1 F.2.1 (show H[a]? = some _ from hat) (fun q h => by cases h) (fun h => by cases h) k1 k2 rfl hkE ⟨h0, by show _ < (arrV _ _ _).slots.size; rw [arrV_size]; exact hlt⟩ g1 (fun q h => by rw [h] at g3; cases g3) hkC hasg rfl rfl hd fun H1 e1 z oq => ?_
  refine kk p e s m args below meth c H1 _ cells slots mc ms ls' F h1 h2 (aw_R_set hR hba z oq ⟨ht, ?_⟩) (hS.put z oq hba) hl
  rw [e1]
  rw [vp_cell_q, vp_cell_q, arrV_store]
  congr 2
  funext q
  by_cases hq : q = i.toNatClampNeg
  · subst hq
    simp [updV, va_up, va_rf]
  · simp [updV, va_up, hq]
theorem aw_S_new {E : aw_E} {H0 H H1 : Heap} {locs : List Loc} (hS : va_S (aw_A E) H0 H locs) (z1 : H1.size = H.size + 1) (o1 : ∀ q : Nat, q < H.size → H1[q]? = H[q]?) : va_S (aw_A E) H0 H1 locs :=
  ⟨Nat.le_trans hS.1 (by omega), fun x h1 h2 => (o1 x (Nat.lt_of_lt_of_le h1 hS.1)).trans (hS.2.1 x h1 h2), hS.2.2⟩
theorem aw_newI {z : Int32} {N bc' bs' : Nat} (hd : decode mi.2.1 pc = .ok (.newarray .int, 2)) (hw : Cond.arrayClass .int ∈ aw_T) (hz : ¬ z < 0) (hN : z.toNatClampNeg = N) (hb : N ≤ 1000) (hbc : 1 + bc' ≤ bc) (hbs : N + bs' ≤ bs) (kk : aw l E mi Z d bc' bs' (pc + 2) ls (.ref n :: st) (n + 1) (ah_set h n (aI N (fun _ => 0)))) : aw l E mi Z d bc bs pc ls (.int z :: st) n h := by
  intro p e s m args below meth c H locs cells slots mc ms ls' F h1 h2 hR hS hl
  have hK : va_K E.1 vwCl (aw_tys E) s := F.2.2.2.2.2.2.2.2.1
  have hts := F.2.2.2.2.2.1
  refine va_newaK (atype := .int) F.1 F.2.1 (hts _ hw) rfl hd rfl hz hN (by show N * 4 ≤ _; omega) (by show cells + 1 ≤ mc; omega) (by show slots + N ≤ ms; omega) hR.1 fun H1 cA e1 z1 o1 hAr hNm => ?_
  have hcy : s.vm.findClass ("[" ++ FieldType.int.toString) = some (E.2.1 0) := (hK.2 0 _ rfl).2
  have hcA : cA = E.2.1 0 := Option.some.inj (hNm.symm.trans hcy)
  subst hcA
  have z1' : H1.size = H.size + 1 := by rw [z1, hR.1]
  have o1' : ∀ q : Nat, q < H.size → H1[q]? = H[q]? := fun q hq => o1 q (by rw [← hR.1]; exact hq)
  exact kk p e s m args below meth c H1 locs (cells + 1) (slots + N) mc ms ls' F (by omega) (by omega) (aw_R_new hR (Nat.le_trans F.2.2.2.2.2.2.2.2.2.2.2 hS.1) z1' o1' e1) (aw_S_new hS z1' o1') hl
theorem aw_newR {z : Int32} {i t N bc' bs' : Nat} {C : String} (hd : decode mi.2.1 pc = .ok (.anewarray i, 3)) (ht : t = 1 ∨ t = 2) (hC : C = (if t = 1 then "HonestGold$Plain" else "HonestGold$Treasury")) (hcl : Cond.classLink mi.1.cls i C ∈ aw_T) (hw : ∀ (U : State) (H : Heap), E.2.2.2 U H → va_AO C U) (hz : ¬ z < 0) (hN : z.toNatClampNeg = N) (hb : N ≤ 1000) (hbc : 1 + bc' ≤ bc) (hbs : N + bs' ≤ bs) (kk : aw l E mi Z d bc' bs' (pc + 3) ls (.ref n :: st) (n + 1) (ah_set h n (aR t N (fun _ => none)))) : aw l E mi Z d bc bs pc ls (.int z :: st) n h := by
  intro p e s m args below meth c H locs cells slots mc ms ls' F h1 h2 hR hS hl
  have hK : va_K E.1 vwCl (aw_tys E) s := F.2.2.2.2.2.2.2.2.1
  have hts := F.2.2.2.2.2.1
  subst hN
  refine W.anew F.1 F.2.1 F.2.2.2.2.1 (hts _ hcl) (va_AO.use (hw s s.heap F.2.2.2.2.2.2.2.2.2.1)) rfl hd rfl hz (by omega) (by show cells + 1 ≤ mc; omega) (by show slots + z.toNatClampNeg ≤ ms; omega) fun cA kA comp f1 f2 f3 f4 => ?_
  have hcA : cA = E.2.1 t := by
    subst hC
    rcases ht with rfl | rfl
    · obtain ⟨_, _, -, -, -, k4⟩ := (hK.2 1 _ rfl).2
      exact Option.some.inj (f1.symm.trans k4)
    · obtain ⟨_, _, -, -, -, k4⟩ := (hK.2 2 _ rfl).2
      exact Option.some.inj (f1.symm.trans k4)
  subst hcA
  generalize hH1 : H.push ({ cls := E.2.1 t, slots := Array.replicate z.toNatClampNeg .null, vm := .none } : Cell) = H1
  have z1 : H1.size = H.size + 1 := by rw [← hH1, Array.size_push]
  have e1 : H1[H.size]? = some (arrV (E.2.1 t) z.toNatClampNeg (fun _ => .null)) := by rw [← hH1, Array.getElem?_push_size, ← arrV_new]
  have o1 : ∀ q : Nat, q < H.size → H1[q]? = H[q]? := fun q hq => by rw [← hH1, Array.getElem?_push, if_neg (Nat.ne_of_lt hq)]
  have kw := kk p e s m args below meth c H1 locs (cells + 1) (slots + z.toNatClampNeg) mc ms ls' F (by omega) (by omega) (aw_R_new hR (Nat.le_trans F.2.2.2.2.2.2.2.2.2.2.2 hS.1) z1 o1 (e := aR t z.toNatClampNeg (fun _ => none)) ⟨ht, by rw [← hR.1]; exact e1⟩) (aw_S_new hS z1 o1) hl
  rw [← hR.1] at kw
  exact kw
theorem aw_new {i ci N bc' bs' : Nat} {fs : List Value} (hd : decode mi.2.1 pc = .ok (.new i, 3)) (hw : aw_nw mi.1.cls i ci fs N) (hbc : 1 + bc' ≤ bc) (hbs : N + bs' ≤ bs) (kk : aw l E mi Z d bc' bs' (pc + 3) ls (.ref n :: st) (n + 1) (ah_set h n (aO ci fs))) : aw l E mi Z d bc bs pc ls st n h := by
  intro p e s m args below meth c H locs cells slots mc ms ls' F h1 h2 hR hS hl
  have hK : va_K E.1 vwCl (aw_tys E) s := F.2.2.2.2.2.2.2.2.1
  have hts := F.2.2.2.2.2.1
  obtain ⟨C, T, ty0, hc, hin, hty, w1, w2, w3, hfs⟩ := hw
  have hKn := hK.1 ci _ hc
  refine W.newcK F.1 F.2.1 F.2.2.2.2.1 (hts _ w1) (hts _ w2) (hts _ w3) rfl hd (by show cells + 1 ≤ mc; omega) (by show slots + N ≤ ms; omega) hKn.2.1 hR.1 fun H1 kC hkC e1 z1 o1 => ?_
  have z1' : H1.size = H.size + 1 := by rw [z1, hR.1]
  have o1' : ∀ q : Nat, q < H.size → H1[q]? = H[q]? := fun q hq => o1 q (by rw [← hR.1]; exact hq)
  exact kk p e s m args below meth c H1 locs (cells + 1) (slots + N) mc ms ls' F (by omega) (by omega) (aw_R_new hR (Nat.le_trans F.2.2.2.2.2.2.2.2.2.2.2 hS.1) z1' o1' (e := aO ci fs) ⟨_, hc, (u_born ty0 hts hin hKn hkC e1 hty).to hfs⟩) (aw_S_new hS z1' o1') hl
theorem aw_objInit {i a : Nat} (hd : decode mi.2.1 pc = .ok (.invokespecial i, 3)) (hw : Cond.methodLink mi.1.cls i objectInit ∈ aw_T) (hw2 : Cond.instanceMethod objectInit ∈ aw_T) (hw3 : Cond.code objectInit ⟨#[0xb1]⟩ 1 none ∈ aw_T) (hst : (st.map fun v => v.category).sum ≤ 8) (kk : aw l E mi Z (d + 1) bc bs (pc + 3) ls st n h) : aw l E mi Z (d + 1) bc bs pc ls (.ref a :: st) n h := by
  intro p e s m args below meth c H locs cells slots mc ms ls' F h1 h2 hR hS hl
  have hts := F.2.2.2.2.2.1
  refine W.objInit F.1 F.2.1 F.2.2.2.2.1 (hts _ hw) (hts _ hw2) (hts _ hw3) rfl (by rw [F.2.2.1]; exact hl.1) rfl hd (by show 1 ≤ d + 1; omega) ?_ ?_
  · have := lv_room (m := m) (pc := pc) (ls := ls') (rest := st) (st := st) hst
    show 2 * 0 + (st.map fun v => v.category).sum + 12 ≤ 34 * (d + 1) + 10
    omega
  · exact kk p e s m args below meth c H locs cells slots mc ms ls' F h1 h2 hR hS hl
/-- behind a call -/
theorem aw_back {p : Program} {e : Env} {s : State} {m : MethodId} {args : Array Value} {below : List Frame} {meth : Method} {c : Code} {H : Heap} {locs : List Loc} {cells slots mc ms mc' ms' bc' bs' : Nat} {ls' : Array Slot} {st0 rest : List Value} {a : Array Value} {Q' : aw_P}
    (hr : va_Run p l e (aw_rm d mc ms) s m args below meth c H locs cells slots mc' ms' (F0 m pc ls' st0) rest (aw_Qc E Q' a) (aw_A E)) (F : aw_F E mi p s m args meth c) (h1 : cells + bc ≤ mc) (h2 : slots + bs ≤ ms) (hS : va_S (aw_A E) s.heap H locs) (hl : lv_has ls' mi.2.2.1 ls) (hbc : mc' + bc' ≤ bc) (hbs : ms' + bs' ≤ bs)
    (kk : ∀ (r : Option Value) (n' : Nat) (h' : ah), Q' r n' h' → aw l E mi Z d bc' bs' (pc + 3) ls (r.toList ++ rest) n' h') : W p l e (aw_rm d mc ms) s m args below meth c H locs cells slots (Z below args s mc ms) (F0 m pc ls' st0) := by
  intro T hT X
  obtain ⟨v, st₀, t, T', L, h0, X', hL, e1, e2, ⟨r, n', h', hv, hQ, hR', hF⟩, step⟩ := hr T hT X
  cases hv
  obtain ⟨t2, a1, b1⟩ := kk v n' h' hQ p e s m args below meth c T'.heap (locs ++ L) (cells + mc') (slots + ms') mc ms ls' F (by omega) (by omega) (by rw [e1]; exact hR')
    ⟨Nat.le_trans hS.1 (by rw [e1, ← h0]; exact hF.1), fun q g1 g2 => by
      rw [e1, hF.2 q (by rw [h0]; exact Nat.lt_of_lt_of_le g1 hS.1) g2, h0]
      exact hS.2.1 q g1 g2, fun q hq => by
      rcases List.mem_append.mp hq with g | g
      · exact hS.2.2 q g
      · exact hL q g⟩ hl T' rfl X'
  exact ⟨t2, step t2 a1, b1⟩
theorem aw_pre {p : Program} {s : State} {m : MethodId} {args : Array Value} {meth : Method} {c : Code} {H : Heap} {locs : List Loc} (F : aw_F E mi p s m args meth c) (hR : aw_R E n h H) (hS : va_S (aw_A E) s.heap H locs) (av : List Value) : PreS s H (va_Pc av (aw_Pc E n h)) av := by
  refine ⟨fun a U g mk q => ?_, fun U hU hW => ?_⟩
  · obtain ⟨q0, q1, q2, q3, q4, q5⟩ := q
    exact ⟨q0, q1, va_K.moved (u := U) (U := U.calling g mk a) (Vm.Alike.refl U.vm) q2, q4 U (U.calling g mk a) U.heap U.heap (State.WarmedH.refl U) (fun _ _ _ => rfl) q3, q4, q5⟩
  · refine ⟨rfl, by rw [hU]; exact hR, va_K.moved hW.alike F.2.2.2.2.2.2.2.2.1, ?_, F.2.2.2.2.2.2.2.2.2.2.1, by rw [hU]; exact Nat.le_trans F.2.2.2.2.2.2.2.2.2.2.2 hS.1⟩
    rw [hU]
    exact aw_cl_of F.2.2.2.2.2.2.2.2.2.2.1 hW hS F.2.2.2.2.2.2.2.2.2.1
theorem aw_callB {p : Program} {s : State} {m : MethodId} {args : Array Value} {meth : Method} {c : Code} {i np mc ms mc' ms' : Nat} {yi : aw_M} (F : aw_F E mi p s m args meth c) (hm : aw_cm yi np) (hl : Cond.methodLink mi.1.cls i yi.1 ∈ aw_T) : CallB (aw_rm (d + 1) mc ms) s args mi.1.cls i yi.1 yi.2.1 yi.2.2.1 yi.2.2.2 (.code yi.1 yi.2.1 yi.2.2.1 yi.2.2.2 :: aw_T) (aw_rm d mc' ms') mc' ms' np :=
  callB_of np F.2.2.2.2.2.1 (aw_goodIn hm.1) rfl rfl rfl (F.2.2.2.2.2.1 _ hm.2.1) (F.2.2.2.2.2.1 _ hl) hm.2.2.1 ⟨Nat.le_refl _, by have := hm.2.2.2; show 8 + (yi.2.2.1 + 11) + (34 * d + 10) ≤ 34 * (d + 1) + 10; omega⟩
theorem aw_callV {i ci b np mc' ms' bc' bs' : Nat} {yi : aw_M} {fs As rest : List Value} {Q' : aw_P} (hd : decode mi.2.1 pc = .ok (.invokevirtual i, 3)) (hm : aw_cm yi np) (hc : aw_cV mi.1.cls i ci yi) (hh : h b = some (aO ci fs)) (hst : st = As.reverse ++ .ref b :: rest) (hnp : As.length = np) (hrs : (rest.map fun v => v.category).sum ≤ 8) (hM : am l E yi d mc' ms' (.ref b :: As) n h Q') (hbc : mc' + bc' ≤ bc) (hbs : ms' + bs' ≤ bs)
    (kk : ∀ (r : Option Value) (n' : Nat) (h' : ah), Q' r n' h' → aw l E mi Z (d + 1) bc' bs' (pc + 3) ls (r.toList ++ rest) n' h') : aw l E mi Z (d + 1) bc bs pc ls st n h := by
  intro p e s m args below meth c H locs cells slots mc ms ls' F h1 h2 hR hS hl
  obtain ⟨r, hcr, w1, w2, w3⟩ := hc
  have hts := F.2.2.2.2.2.1
  have hP := aw_pre F hR hS (.ref b :: As)
  exact aw_back (va_runV (C := r.1) ⟨F.1, F.2.1, F.2.2.1, F.2.2.2.2.1, hts⟩ hM ⟨aw_callB F hm w1, hts _ w2, hts _ w3⟩ ⟨hP.1, va_recv F.2.2.2.2.2.2.2.2.1 (aw_O hR hh) hcr (q0 := 0) rfl, hP.2⟩ rfl hnp hl.1 hst (lv_room hrs) hd ⟨by show cells + mc' ≤ mc; omega, by show slots + ms' ≤ ms; omega⟩) F h1 h2 hS hl hbc hbs kk
theorem aw_callS {i np mc' ms' bc' bs' : Nat} {yi : aw_M} {As rest : List Value} {Q' : aw_P} (hd : decode mi.2.1 pc = .ok (.invokestatic i, 3)) (hm : aw_cm yi np) (hc : aw_cS mi.1.cls i yi) (hst : st = As.reverse ++ rest) (hnp : As.length = np) (hrs : (rest.map fun v => v.category).sum ≤ 8) (hM : am l E yi d mc' ms' As n h Q') (hbc : mc' + bc' ≤ bc) (hbs : ms' + bs' ≤ bs)
    (kk : ∀ (r : Option Value) (n' : Nat) (h' : ah), Q' r n' h' → aw l E mi Z (d + 1) bc' bs' (pc + 3) ls (r.toList ++ rest) n' h') : aw l E mi Z (d + 1) bc bs pc ls st n h := by
  intro p e s m args below meth c H locs cells slots mc ms ls' F h1 h2 hR hS hl
  have hts := F.2.2.2.2.2.1
  exact aw_back (va_runS ⟨F.1, F.2.1, F.2.2.1, F.2.2.2.2.1, hts⟩ hM ⟨aw_callB F hm hc.1, hts _ hc.2⟩ (aw_pre F hR hS As) rfl hnp hl.1 hst (lv_room hrs) hd ⟨by show cells + mc' ≤ mc; omega, by show slots + ms' ≤ ms; omega⟩) F h1 h2 hS hl hbc hbs kk
theorem aw_callI {i b np mc' ms' bc' bs' : Nat} {yi : aw_M} {As rest : List Value} {Q' : aw_P} (hd : decode mi.2.1 pc = .ok (.invokespecial i, 3)) (hm : aw_cm yi np) (hc : aw_cI mi.1.cls i yi) (hst : st = As.reverse ++ .ref b :: rest) (hnp : As.length = np) (hrs : (rest.map fun v => v.category).sum ≤ 8) (hM : am l E yi d mc' ms' (.ref b :: As) n h Q') (hbc : mc' + bc' ≤ bc) (hbs : ms' + bs' ≤ bs)
    (kk : ∀ (r : Option Value) (n' : Nat) (h' : ah), Q' r n' h' → aw l E mi Z (d + 1) bc' bs' (pc + 3) ls (r.toList ++ rest) n' h') : aw l E mi Z (d + 1) bc bs pc ls st n h := by
  intro p e s m args below meth c H locs cells slots mc ms ls' F h1 h2 hR hS hl
  have hts := F.2.2.2.2.2.1
  obtain ⟨w1, w2, w3, w4⟩ := hc
  have hB := aw_callB (d := d) (mc := mc) (ms := ms) (mc' := mc') (ms' := ms') F hm w1
  unfold am at hM
  rw [w4] at hB hM
  exact aw_back (va_runI (bytes := yi.2.1) (maxL := yi.2.2.1) ⟨F.1, F.2.1, F.2.2.1, F.2.2.2.2.1, hts⟩ hM ⟨hB, w3, hts _ w2⟩ (aw_pre F hR hS (.ref b :: As)) rfl hnp hl.1 hst (lv_room hrs) hd ⟨by show cells + mc' ≤ mc; omega, by show slots + ms' ≤ ms; omega⟩) F h1 h2 hS hl hbc hbs kk
theorem aw_callO {i ci b np mc' ms' bc' bs' : Nat} {x : MethodName} {yi : aw_M} {fs As rest : List Value} {Q' : aw_P} (hd : decode mi.2.1 pc = .ok (.invokevirtual i, 3)) (hm : aw_cm yi np) (hc : aw_cO mi.1.cls i ci x yi) (hh : h b = some (aO ci fs)) (hst : st = As.reverse ++ .ref b :: rest) (hnp : As.length = np) (hrs : (rest.map fun v => v.category).sum ≤ 8) (hM : am l E yi d mc' ms' (.ref b :: As) n h Q') (hbc : mc' + bc' ≤ bc) (hbs : ms' + bs' ≤ bs)
    (kk : ∀ (r : Option Value) (n' : Nat) (h' : ah), Q' r n' h' → aw l E mi Z (d + 1) bc' bs' (pc + 3) ls (r.toList ++ rest) n' h') : aw l E mi Z (d + 1) bc bs pc ls st n h := by
  intro p e s m args below meth c H locs cells slots mc ms ls' F h1 h2 hR hS hl
  obtain ⟨r, b0, m0, r0, hcr, w1, w2, w3, w4, w5, w6, en, ed, x1, x2⟩ := hc
  have hts := F.2.2.2.2.2.1
  have hP := aw_pre F hR hS (.ref b :: As)
  have hCU : va_CU (aw_rm (d + 1) mc ms) s args mi.1.cls r.1 x.cls i x yi.1 yi.2.1 yi.2.2.1 yi.2.2.2 (.code yi.1 yi.2.1 yi.2.2.1 yi.2.2.2 :: aw_T) (aw_rm d mc' ms') mc' ms' np :=
    va_cwO np hts (fun w hw => by
      have hm' : w ∈ aw_T := by
        simp only [va_wsO, List.cons_append, List.nil_append, List.mem_cons] at hw
        rcases hw with e | e | e | e | e | e | e | e
        · rw [e]; exact w1
        · rw [e]; exact w2
        · rw [e]; exact w3
        · rw [e]; exact w4
        · rw [e]; exact w5
        · rw [e]; exact hm.2.1
        · rw [e]; exact hm.1
        · exact e
      exact ⟨hm', good_of_word (aw_goodT hm')⟩) rfl rfl rfl w6 ⟨x1, x2, by rw [ed]; exact hm.2.2.1.2.2⟩ ⟨Nat.le_refl _, by have := hm.2.2.2; show 8 + (yi.2.2.1 + 11) + (34 * d + 10) ≤ 34 * (d + 1) + 10; omega⟩
  exact aw_back (va_runU (C := r.1) ⟨F.1, F.2.1, F.2.2.1, F.2.2.2.2.1, hts⟩ hM hCU ⟨hP.1, va_recv F.2.2.2.2.2.2.2.2.1 (aw_O hR hh) hcr (q0 := 0) rfl, hP.2⟩ rfl hnp hl.1 hst (lv_room hrs) hd ⟨by show cells + mc' ≤ mc; omega, by show slots + ms' ≤ ms; omega⟩) F h1 h2 hS hl hbc hbs kk
theorem aw_callU {i ci b np mc' ms' bc' bs' : Nat} {yi : aw_M} {fs As rest : List Value} {Q' : aw_P} (hd : decode mi.2.1 pc = .ok (.invokespecial i, 3)) (hm : aw_cm yi np) (hc : aw_cU mi.1.cls i yi) {r : vw_C} (hcr : vwCl[ci]? = some r) (hh : h b = some (aO ci fs)) (hst : st = As.reverse ++ .ref b :: rest) (hnp : As.length = np) (hrs : (rest.map fun v => v.category).sum ≤ 8) (hM : am l E yi d mc' ms' (.ref b :: As) n h Q') (hbc : mc' + bc' ≤ bc) (hbs : ms' + bs' ≤ bs)
    (kk : ∀ (r : Option Value) (n' : Nat) (h' : ah), Q' r n' h' → aw l E mi Z (d + 1) bc' bs' (pc + 3) ls (r.toList ++ rest) n' h') : aw l E mi Z (d + 1) bc bs pc ls st n h := by
  intro p e s m args below meth c H locs cells slots mc ms ls' F h1 h2 hR hS hl
  obtain ⟨w1, w2, w3, w4, w5⟩ := hc
  have hts := F.2.2.2.2.2.1
  have hP := aw_pre F hR hS (.ref b :: As)
  have hB := aw_callB (d := d) (mc := mc) (ms := ms) (mc' := mc') (ms' := ms') F hm w1
  have hK : va_K E.1 vwCl (aw_tys E) s := F.2.2.2.2.2.2.2.2.1
  obtain ⟨b1, b2, b3, b4, b5, b6, b7, b8, b9, b10, b11⟩ := hB
  exact aw_back (va_runSU (C := r.1) (hK.1 ci r hcr).2 ⟨F.1, F.2.1, F.2.2.1, F.2.2.2.2.1, hts⟩ hM ⟨⟨b1, b2, b3, b4, b5, b6⟩, hts _ w1, hts _ w2, hts _ w3, hts _ w4, b8, b7, w5, b10⟩ ⟨hP.1, va_recv F.2.2.2.2.2.2.2.2.1 (aw_O hR hh) hcr (q0 := 0) rfl, hP.2⟩ rfl hnp hl.1 hst (lv_room hrs) hd ⟨by show cells + mc' ≤ mc; omega, by show slots + ms' ≤ ms; omega⟩) F h1 h2 hS hl hbc hbs kk
end AWH
section AWE
variable {l : Launch} {E : aw_E} {mi : aw_M} {Q : aw_P} {d bc bs pc : Nat} {ls : List (Nat × Value)} {n : Nat} {h : ah}
theorem aw_zret {v : Int32} {ty : FieldType} (hd : decode mi.2.1 pc = .ok (.ireturn, 1)) (hr : mi.2.2.2 = some ty) (hn : narrow ty (.int v) = .int v) (hq : Q (some (.int v)) n h) : aw l E mi (aw_Z E Q) d bc bs pc ls [.int v] n h := by
  intro p e s m args below meth c H locs cells slots mc ms ls' F h1 h2 hR hS hl
  refine W.widen (k := mc) (n := ms) (by omega) (by omega) ?_
  exact W.zret (hlocks := F.2.2.2.2.2.2.1) F.1 F.2.1 (F.2.2.2.1.trans hr) hn (fun t ht hW => ⟨_, n, h, rfl, hq, by rw [ht]; exact hR, hS.F ht⟩) hS.2.2 hd
theorem aw_iret {v : Int32} (hd : decode mi.2.1 pc = .ok (.ireturn, 1)) (hr : mi.2.2.2 = some .int) (hq : Q (some (.int v)) n h) : aw l E mi (aw_Z E Q) d bc bs pc ls [.int v] n h := aw_zret hd hr rfl hq
theorem aw_lret {v : Int64} (hd : decode mi.2.1 pc = .ok (.lreturn, 1)) (hr : mi.2.2.2 = some .long) (hq : Q (some (.long v)) n h) : aw l E mi (aw_Z E Q) d bc bs pc ls [.long v] n h := by
  intro p e s m args below meth c H locs cells slots mc ms ls' F h1 h2 hR hS hl
  refine W.widen (k := mc) (n := ms) (by omega) (by omega) ?_
  exact W.lret (hlocks := F.2.2.2.2.2.2.1) F.1 F.2.1 (F.2.2.2.1.trans hr) (fun t ht hW => ⟨_, n, h, rfl, hq, by rw [ht]; exact hR, hS.F ht⟩) hS.2.2 hd
theorem aw_aret {v : Nat} {C : String} (hd : decode mi.2.1 pc = .ok (.areturn, 1)) (hr : mi.2.2.2 = some (.object C)) (hq : Q (some (.ref v)) n h) : aw l E mi (aw_Z E Q) d bc bs pc ls [.ref v] n h := by
  intro p e s m args below meth c H locs cells slots mc ms ls' F h1 h2 hR hS hl
  refine W.widen (k := mc) (n := ms) (by omega) (by omega) ?_
  exact W.aret (hlocks := F.2.2.2.2.2.2.1) F.1 F.2.1 (F.2.2.2.1.trans hr) (Or.inl ⟨_, rfl⟩) (Or.inr ⟨_, rfl⟩) (fun t ht hW => ⟨_, n, h, rfl, hq, by rw [ht]; exact hR, hS.F ht⟩) hS.2.2 hd
theorem aw_vret (hd : decode mi.2.1 pc = .ok (.return_, 1)) (hr : mi.2.2.2 = none) (hq : Q none n h) : aw l E mi (aw_Z E Q) d bc bs pc ls [] n h := by
  intro p e s m args below meth c H locs cells slots mc ms ls' F h1 h2 hR hS hl
  refine W.widen (k := mc) (n := ms) (by omega) (by omega) ?_
  exact W.vret (hlocks := F.2.2.2.2.2.2.1) F.1 F.2.1 (F.2.2.2.1.trans hr) (fun t ht hW => ⟨_, n, h, rfl, hq, by rw [ht]; exact hR, hS.F ht⟩) hS.2.2 hd
/-- A CONTRACT out of a walk of the body -/
theorem am_of {mc ms : Nat} {av : List Value} (hy : plainName mi.1.cls = true) (hN : (lg_sl av).length ≤ mi.2.2.1) (k : aw l E mi (aw_Z E Q) d mc ms 0 (lv_args 0 av) [] n h) : am l E mi d mc ms av n h Q := by
  refine Met.ofW (cc := mi.2.1) (maxL := mi.2.2.1) (ret := mi.2.2.2) hy rfl ?_
  intro p e s m args below meth c s₁ B hml hv
  obtain ⟨rfl, hR, hK, hV, hcl, hba⟩ := hv
  have hts := atoms_spec (ws := .code mi.1 mi.2.1 mi.2.2.1 mi.2.2.2 :: aw_T) B.pre
  have hown : s.vm.findClass mi.1.cls = some m.cls := findClass_of_methodNamed B.named
  rw [lg_entry_eq]
  exact k p e s m av.toArray below meth c s.heap [] 0 0 mc ms _ ⟨B.exec, B.bytes, hml, B.returns, hown, fun w hw => hts w (List.mem_cons_of_mem _ hw), B.notSynchronized, (name_of_methodNamed B.named B.method).1, hK, hV, hcl, hba⟩ (by omega) (by omega) hR va_S.rf (lv_entry av hN)
end AWE
end
section
/-! THE METHODS AND LINKS of the claim, by their places in the tables. -/
theorem aw_sub {ws : List Cond} (ps : List Nat) (hp : ws = ps.filterMap (fun i => lw_tbl[i]?)) (hg : ws.all goodWord = true) : ∀ w ∈ ws, w ∈ aw_T := by
  intro w hw
  have h1 := List.all_eq_true.mp hg w hw
  rw [hp] at hw
  obtain ⟨i, -, hi⟩ := List.mem_filterMap.mp hw
  exact aw_mem i hi h1
theorem inX0 : ∀ w ∈ u_ws RX0 TX0 0, w ∈ aw_T := aw_sub [] (by decide +kernel) (by decide +kernel)
theorem inX1 : ∀ w ∈ u_ws RX1 TX1 0, w ∈ aw_T := aw_sub [] (by decide +kernel) (by decide +kernel)
theorem inX2 : ∀ w ∈ u_ws RX2 TX2 0, w ∈ aw_T := aw_sub [] (by decide +kernel) (by decide +kernel)
theorem inX3 : ∀ w ∈ u_ws RX3 TX3 0, w ∈ aw_T := aw_sub [] (by decide +kernel) (by decide +kernel)
theorem inX4 : ∀ w ∈ u_ws RX4 TX4 5, w ∈ aw_T := aw_sub [163, 165, 167, 169, 171] (by decide +kernel) (by decide +kernel)
theorem inX5 : ∀ w ∈ u_ws RX5 TX5 2, w ∈ aw_T := aw_sub [183, 185] (by decide +kernel) (by decide +kernel)
theorem inX6 : ∀ w ∈ u_ws RX6 TX6 0, w ∈ aw_T := aw_sub [] (by decide +kernel) (by decide +kernel)
theorem inX7 : ∀ w ∈ u_ws RX7 TX7 7, w ∈ aw_T := aw_sub [239, 241, 243, 245, 247, 249, 251] (by decide +kernel) (by decide +kernel)
theorem inX8 : ∀ w ∈ u_ws RX8 TX8 0, w ∈ aw_T := aw_sub [] (by decide +kernel) (by decide +kernel)
theorem inX9 : ∀ w ∈ u_ws RX9 TX9 12, w ∈ aw_T := aw_sub [200, 202, 204, 206, 208, 210, 212, 214, 216, 218, 220, 222] (by decide +kernel) (by decide +kernel)
theorem inX10 : ∀ w ∈ u_ws RX10 TX10 4, w ∈ aw_T := aw_sub [264, 266, 268, 270] (by decide +kernel) (by decide +kernel)
theorem inX11 : ∀ w ∈ u_ws RX11 TX11 10, w ∈ aw_T := aw_sub [283, 285, 287, 289, 291, 293, 295, 297, 299, 301] (by decide +kernel) (by decide +kernel)
theorem inX12 : ∀ w ∈ u_ws RX12 TX12 33, w ∈ aw_T := aw_sub [1003, 1005, 1007, 1009, 1011, 1013, 1015, 1017, 1019, 1021, 1023, 1025, 1027, 1029, 1031, 1033, 1035, 1037, 1039, 1041, 1043, 1045, 1047, 1049, 1051, 1053, 1055, 1057, 1059, 1061, 1063, 1065, 1067] (by decide +kernel) (by decide +kernel)
abbrev mX0_init : aw_M := (yX0_init, cX0_init, 1, none)
theorem cmX0_init : aw_cm mX0_init 0 := ⟨aw_mem 149 (by decide +kernel) (by decide +kernel), aw_mem 83 (by decide +kernel) (by decide +kernel), ⟨(by decide +kernel), (by decide +kernel), (by decide +kernel)⟩, by decide⟩
abbrev mX0_weight : aw_M := (yX0_weight, cX0_weight, 4, (some .int))
theorem cmX0_weight : aw_cm mX0_weight 3 := ⟨aw_mem 670 (by decide +kernel) (by decide +kernel), aw_mem 83 (by decide +kernel) (by decide +kernel), ⟨(by decide +kernel), (by decide +kernel), (by decide +kernel)⟩, by decide⟩
abbrev mX1_init : aw_M := (yX1_init, cX1_init, 1, none)
theorem cmX1_init : aw_cm mX1_init 0 := ⟨aw_mem 121 (by decide +kernel) (by decide +kernel), aw_mem 79 (by decide +kernel) (by decide +kernel), ⟨(by decide +kernel), (by decide +kernel), (by decide +kernel)⟩, by decide⟩
abbrev mX1_weight : aw_M := (yX1_weight, cX1_weight, 4, (some .int))
theorem cmX1_weight : aw_cm mX1_weight 3 := ⟨aw_mem 678 (by decide +kernel) (by decide +kernel), aw_mem 79 (by decide +kernel) (by decide +kernel), ⟨(by decide +kernel), (by decide +kernel), (by decide +kernel)⟩, by decide⟩
abbrev mX1_loss : aw_M := (yX1_loss, cX1_loss, 2, (some .int))
theorem cmX1_loss : aw_cm mX1_loss 1 := ⟨aw_mem 530 (by decide +kernel) (by decide +kernel), aw_mem 79 (by decide +kernel) (by decide +kernel), ⟨(by decide +kernel), (by decide +kernel), (by decide +kernel)⟩, by decide⟩
abbrev mX2_init : aw_M := (yX2_init, cX2_init, 1, none)
theorem cmX2_init : aw_cm mX2_init 0 := ⟨aw_mem 128 (by decide +kernel) (by decide +kernel), aw_mem 80 (by decide +kernel) (by decide +kernel), ⟨(by decide +kernel), (by decide +kernel), (by decide +kernel)⟩, by decide⟩
abbrev mX2_weight : aw_M := (yX2_weight, cX2_weight, 4, (some .int))
theorem cmX2_weight : aw_cm mX2_weight 3 := ⟨aw_mem 681 (by decide +kernel) (by decide +kernel), aw_mem 80 (by decide +kernel) (by decide +kernel), ⟨(by decide +kernel), (by decide +kernel), (by decide +kernel)⟩, by decide⟩
abbrev mX2_loss : aw_M := (yX2_loss, cX2_loss, 2, (some .int))
theorem cmX2_loss : aw_cm mX2_loss 1 := ⟨aw_mem 534 (by decide +kernel) (by decide +kernel), aw_mem 80 (by decide +kernel) (by decide +kernel), ⟨(by decide +kernel), (by decide +kernel), (by decide +kernel)⟩, by decide⟩
abbrev mX3_init : aw_M := (yX3_init, cX3_init, 1, none)
theorem cmX3_init : aw_cm mX3_init 0 := ⟨aw_mem 142 (by decide +kernel) (by decide +kernel), aw_mem 82 (by decide +kernel) (by decide +kernel), ⟨(by decide +kernel), (by decide +kernel), (by decide +kernel)⟩, by decide⟩
abbrev mX3_weight : aw_M := (yX3_weight, cX3_weight, 4, (some .int))
theorem cmX3_weight : aw_cm mX3_weight 3 := ⟨aw_mem 685 (by decide +kernel) (by decide +kernel), aw_mem 82 (by decide +kernel) (by decide +kernel), ⟨(by decide +kernel), (by decide +kernel), (by decide +kernel)⟩, by decide⟩
abbrev mX4_init : aw_M := (yX4_init, cX4_init, 1, none)
theorem cmX4_init : aw_cm mX4_init 0 := ⟨aw_mem 156 (by decide +kernel) (by decide +kernel), aw_mem 84 (by decide +kernel) (by decide +kernel), ⟨(by decide +kernel), (by decide +kernel), (by decide +kernel)⟩, by decide⟩
abbrev mX4_size : aw_M := (yX4_size, cX4_size, 1, (some .int))
theorem cmX4_size : aw_cm mX4_size 0 := ⟨aw_mem 836 (by decide +kernel) (by decide +kernel), aw_mem 84 (by decide +kernel) (by decide +kernel), ⟨(by decide +kernel), (by decide +kernel), (by decide +kernel)⟩, by decide⟩
abbrev mX4_drop : aw_M := (yX4_drop, cX4_drop, 1, none)
theorem cmX4_drop : aw_cm mX4_drop 0 := ⟨aw_mem 319 (by decide +kernel) (by decide +kernel), aw_mem 84 (by decide +kernel) (by decide +kernel), ⟨(by decide +kernel), (by decide +kernel), (by decide +kernel)⟩, by decide⟩
abbrev mX4_add : aw_M := (yX4_add, cX4_add, 5, (some .int))
theorem cmX4_add : aw_cm mX4_add 4 := ⟨aw_mem 840 (by decide +kernel) (by decide +kernel), aw_mem 84 (by decide +kernel) (by decide +kernel), ⟨(by decide +kernel), (by decide +kernel), (by decide +kernel)⟩, by decide⟩
abbrev mX4_copyFrom : aw_M := (yX4_copyFrom, cX4_copyFrom, 3, none)
theorem cmX4_copyFrom : aw_cm mX4_copyFrom 1 := ⟨aw_mem 553 (by decide +kernel) (by decide +kernel), aw_mem 84 (by decide +kernel) (by decide +kernel), ⟨(by decide +kernel), (by decide +kernel), (by decide +kernel)⟩, by decide⟩
abbrev mX4_kindsThatFit : aw_M := (yX4_kindsThatFit, cX4_kindsThatFit, 5, (some .int))
theorem cmX4_kindsThatFit : aw_cm mX4_kindsThatFit 2 := ⟨aw_mem 853 (by decide +kernel) (by decide +kernel), aw_mem 84 (by decide +kernel) (by decide +kernel), ⟨(by decide +kernel), (by decide +kernel), (by decide +kernel)⟩, by decide⟩
abbrev mX4_honestiesThatFit : aw_M := (yX4_honestiesThatFit, cX4_honestiesThatFit, 5, (some .int))
theorem cmX4_honestiesThatFit : aw_cm mX4_honestiesThatFit 2 := ⟨aw_mem 863 (by decide +kernel) (by decide +kernel), aw_mem 84 (by decide +kernel) (by decide +kernel), ⟨(by decide +kernel), (by decide +kernel), (by decide +kernel)⟩, by decide⟩
abbrev mX4_bestWeighing : aw_M := (yX4_bestWeighing, cX4_bestWeighing, 7, (some .int))
theorem cmX4_bestWeighing : aw_cm mX4_bestWeighing 3 := ⟨aw_mem 871 (by decide +kernel) (by decide +kernel), aw_mem 84 (by decide +kernel) (by decide +kernel), ⟨(by decide +kernel), (by decide +kernel), (by decide +kernel)⟩, by decide⟩
abbrev mX4_mixInto : aw_M := (yX4_mixInto, cX4_mixInto, 6, (some .long))
theorem cmX4_mixInto : aw_cm mX4_mixInto 1 := ⟨aw_mem 958 (by decide +kernel) (by decide +kernel), aw_mem 84 (by decide +kernel) (by decide +kernel), ⟨(by decide +kernel), (by decide +kernel), (by decide +kernel)⟩, by decide⟩
abbrev mX4_allFit : aw_M := (yX4_allFit, cX4_allFit, 6, (some .boolean))
theorem cmX4_allFit : aw_cm mX4_allFit 4 := ⟨aw_mem 858 (by decide +kernel) (by decide +kernel), aw_mem 84 (by decide +kernel) (by decide +kernel), ⟨(by decide +kernel), (by decide +kernel), (by decide +kernel)⟩, by decide⟩
abbrev mX4_mostAlike : aw_M := (yX4_mostAlike, cX4_mostAlike, 9, (some .int))
theorem cmX4_mostAlike : aw_cm mX4_mostAlike 4 := ⟨aw_mem 874 (by decide +kernel) (by decide +kernel), aw_mem 84 (by decide +kernel) (by decide +kernel), ⟨(by decide +kernel), (by decide +kernel), (by decide +kernel)⟩, by decide⟩
abbrev mX5_init : aw_M := (yX5_init, cX5_init, 1, none)
theorem cmX5_init : aw_cm mX5_init 0 := ⟨aw_mem 179 (by decide +kernel) (by decide +kernel), aw_mem 85 (by decide +kernel) (by decide +kernel), ⟨(by decide +kernel), (by decide +kernel), (by decide +kernel)⟩, by decide⟩
abbrev mX5_size : aw_M := (yX5_size, cX5_size, 1, (some .int))
theorem cmX5_size : aw_cm mX5_size 0 := ⟨aw_mem 631 (by decide +kernel) (by decide +kernel), aw_mem 85 (by decide +kernel) (by decide +kernel), ⟨(by decide +kernel), (by decide +kernel), (by decide +kernel)⟩, by decide⟩
abbrev mX5_drop : aw_M := (yX5_drop, cX5_drop, 1, none)
theorem cmX5_drop : aw_cm mX5_drop 0 := ⟨aw_mem 323 (by decide +kernel) (by decide +kernel), aw_mem 85 (by decide +kernel) (by decide +kernel), ⟨(by decide +kernel), (by decide +kernel), (by decide +kernel)⟩, by decide⟩
abbrev mX5_dropLast : aw_M := (yX5_dropLast, cX5_dropLast, 1, none)
theorem cmX5_dropLast : aw_cm mX5_dropLast 0 := ⟨aw_mem 643 (by decide +kernel) (by decide +kernel), aw_mem 85 (by decide +kernel) (by decide +kernel), ⟨(by decide +kernel), (by decide +kernel), (by decide +kernel)⟩, by decide⟩
abbrev mX5_open : aw_M := (yX5_open, cX5_open, 2, none)
theorem cmX5_open : aw_cm mX5_open 0 := ⟨aw_mem 570 (by decide +kernel) (by decide +kernel), aw_mem 85 (by decide +kernel) (by decide +kernel), ⟨(by decide +kernel), (by decide +kernel), (by decide +kernel)⟩, by decide⟩
abbrev mX5_put : aw_M := (yX5_put, cX5_put, 4, none)
theorem cmX5_put : aw_cm mX5_put 2 := ⟨aw_mem 574 (by decide +kernel) (by decide +kernel), aw_mem 85 (by decide +kernel) (by decide +kernel), ⟨(by decide +kernel), (by decide +kernel), (by decide +kernel)⟩, by decide⟩
abbrev mX5_last : aw_M := (yX5_last, cX5_last, 3, (some .int))
theorem cmX5_last : aw_cm mX5_last 1 := ⟨aw_mem 639 (by decide +kernel) (by decide +kernel), aw_mem 85 (by decide +kernel) (by decide +kernel), ⟨(by decide +kernel), (by decide +kernel), (by decide +kernel)⟩, by decide⟩
abbrev mX5_copyFrom : aw_M := (yX5_copyFrom, cX5_copyFrom, 3, none)
theorem cmX5_copyFrom : aw_cm mX5_copyFrom 1 := ⟨aw_mem 557 (by decide +kernel) (by decide +kernel), aw_mem 85 (by decide +kernel) (by decide +kernel), ⟨(by decide +kernel), (by decide +kernel), (by decide +kernel)⟩, by decide⟩
abbrev mX5_placeOf : aw_M := (yX5_placeOf, cX5_placeOf, 2, (some .int))
theorem cmX5_placeOf : aw_cm mX5_placeOf 1 := ⟨aw_mem 578 (by decide +kernel) (by decide +kernel), aw_mem 85 (by decide +kernel) (by decide +kernel), ⟨(by decide +kernel), (by decide +kernel), (by decide +kernel)⟩, by decide⟩
abbrev mX6_init : aw_M := (yX6_init, cX6_init, 1, none)
theorem cmX6_init : aw_cm mX6_init 0 := ⟨aw_mem 113 (by decide +kernel) (by decide +kernel), aw_mem 78 (by decide +kernel) (by decide +kernel), ⟨(by decide +kernel), (by decide +kernel), (by decide +kernel)⟩, by decide⟩
abbrev mX6_weight : aw_M := (yX6_weight, cX6_weight, 4, (some .int))
theorem cmX6_weight : aw_cm mX6_weight 3 := ⟨aw_mem 688 (by decide +kernel) (by decide +kernel), aw_mem 78 (by decide +kernel) (by decide +kernel), ⟨(by decide +kernel), (by decide +kernel), (by decide +kernel)⟩, by decide⟩
abbrev mX6_loss : aw_M := (yX6_loss, cX6_loss, 2, (some .int))
theorem cmX6_loss : aw_cm mX6_loss 1 := ⟨aw_mem 538 (by decide +kernel) (by decide +kernel), aw_mem 78 (by decide +kernel) (by decide +kernel), ⟨(by decide +kernel), (by decide +kernel), (by decide +kernel)⟩, by decide⟩
abbrev mX7_init : aw_M := (yX7_init, cX7_init, 1, none)
theorem cmX7_init : aw_cm mX7_init 0 := ⟨aw_mem 230 (by decide +kernel) (by decide +kernel), aw_mem 86 (by decide +kernel) (by decide +kernel), ⟨(by decide +kernel), (by decide +kernel), (by decide +kernel)⟩, by decide⟩
abbrev mX7_length : aw_M := (yX7_length, cX7_length, 1, (some .int))
theorem cmX7_length : aw_cm mX7_length 0 := ⟨aw_mem 375 (by decide +kernel) (by decide +kernel), aw_mem 86 (by decide +kernel) (by decide +kernel), ⟨(by decide +kernel), (by decide +kernel), (by decide +kernel)⟩, by decide⟩
abbrev mX7_drop : aw_M := (yX7_drop, cX7_drop, 1, none)
theorem cmX7_drop : aw_cm mX7_drop 0 := ⟨aw_mem 387 (by decide +kernel) (by decide +kernel), aw_mem 86 (by decide +kernel) (by decide +kernel), ⟨(by decide +kernel), (by decide +kernel), (by decide +kernel)⟩, by decide⟩
abbrev mX7_append : aw_M := (yX7_append, cX7_append, 2, (some .int))
theorem cmX7_append : aw_cm mX7_append 1 := ⟨aw_mem 379 (by decide +kernel) (by decide +kernel), aw_mem 86 (by decide +kernel) (by decide +kernel), ⟨(by decide +kernel), (by decide +kernel), (by decide +kernel)⟩, by decide⟩
abbrev mX7_faultAt : aw_M := (yX7_faultAt, cX7_faultAt, 1, (some .int))
theorem cmX7_faultAt : aw_cm mX7_faultAt 0 := ⟨aw_mem 545 (by decide +kernel) (by decide +kernel), aw_mem 86 (by decide +kernel) (by decide +kernel), ⟨(by decide +kernel), (by decide +kernel), (by decide +kernel)⟩, by decide⟩
abbrev mX7_readInto : aw_M := (yX7_readInto, cX7_readInto, 4, (some .int))
theorem cmX7_readInto : aw_cm mX7_readInto 1 := ⟨aw_mem 395 (by decide +kernel) (by decide +kernel), aw_mem 86 (by decide +kernel) (by decide +kernel), ⟨(by decide +kernel), (by decide +kernel), (by decide +kernel)⟩, by decide⟩
abbrev mX7_takeGold : aw_M := (yX7_takeGold, cX7_takeGold, 1, none)
theorem cmX7_takeGold : aw_cm mX7_takeGold 0 := ⟨aw_mem 416 (by decide +kernel) (by decide +kernel), aw_mem 86 (by decide +kernel) (by decide +kernel), ⟨(by decide +kernel), (by decide +kernel), (by decide +kernel)⟩, by decide⟩
abbrev mX7_takeOne : aw_M := (yX7_takeOne, cX7_takeOne, 6, none)
theorem cmX7_takeOne : aw_cm mX7_takeOne 1 := ⟨aw_mem 483 (by decide +kernel) (by decide +kernel), aw_mem 86 (by decide +kernel) (by decide +kernel), ⟨(by decide +kernel), (by decide +kernel), (by decide +kernel)⟩, by decide⟩
abbrev mX7_takeHands : aw_M := (yX7_takeHands, cX7_takeHands, 6, none)
theorem cmX7_takeHands : aw_cm mX7_takeHands 1 := ⟨aw_mem 493 (by decide +kernel) (by decide +kernel), aw_mem 86 (by decide +kernel) (by decide +kernel), ⟨(by decide +kernel), (by decide +kernel), (by decide +kernel)⟩, by decide⟩
abbrev mX7_takeLie : aw_M := (yX7_takeLie, cX7_takeLie, 4, none)
theorem cmX7_takeLie : aw_cm mX7_takeLie 1 := ⟨aw_mem 499 (by decide +kernel) (by decide +kernel), aw_mem 86 (by decide +kernel) (by decide +kernel), ⟨(by decide +kernel), (by decide +kernel), (by decide +kernel)⟩, by decide⟩
abbrev mX7_takeNumber : aw_M := (yX7_takeNumber, cX7_takeNumber, 4, (some .int))
theorem cmX7_takeNumber : aw_cm mX7_takeNumber 2 := ⟨aw_mem 487 (by decide +kernel) (by decide +kernel), aw_mem 86 (by decide +kernel) (by decide +kernel), ⟨(by decide +kernel), (by decide +kernel), (by decide +kernel)⟩, by decide⟩
abbrev mX7_takeStop : aw_M := (yX7_takeStop, cX7_takeStop, 1, none)
theorem cmX7_takeStop : aw_cm mX7_takeStop 0 := ⟨aw_mem 477 (by decide +kernel) (by decide +kernel), aw_mem 86 (by decide +kernel) (by decide +kernel), ⟨(by decide +kernel), (by decide +kernel), (by decide +kernel)⟩, by decide⟩
abbrev mX7_failHere : aw_M := (yX7_failHere, cX7_failHere, 1, none)
theorem cmX7_failHere : aw_cm mX7_failHere 0 := ⟨aw_mem 473 (by decide +kernel) (by decide +kernel), aw_mem 86 (by decide +kernel) (by decide +kernel), ⟨(by decide +kernel), (by decide +kernel), (by decide +kernel)⟩, by decide⟩
abbrev mX7_isWord : aw_M := (yX7_isWord, cX7_isWord, 3, (some .boolean))
theorem cmX7_isWord : aw_cm mX7_isWord 1 := ⟨aw_mem 421 (by decide +kernel) (by decide +kernel), aw_mem 86 (by decide +kernel) (by decide +kernel), ⟨(by decide +kernel), (by decide +kernel), (by decide +kernel)⟩, by decide⟩
abbrev mX7_step : aw_M := (yX7_step, cX7_step, 2, none)
theorem cmX7_step : aw_cm mX7_step 0 := ⟨aw_mem 400 (by decide +kernel) (by decide +kernel), aw_mem 86 (by decide +kernel) (by decide +kernel), ⟨(by decide +kernel), (by decide +kernel), (by decide +kernel)⟩, by decide⟩
abbrev mX7_runEnd : aw_M := (yX7_runEnd, cX7_runEnd, 5, (some .int))
theorem cmX7_runEnd : aw_cm mX7_runEnd 3 := ⟨aw_mem 404 (by decide +kernel) (by decide +kernel), aw_mem 86 (by decide +kernel) (by decide +kernel), ⟨(by decide +kernel), (by decide +kernel), (by decide +kernel)⟩, by decide⟩
abbrev mX7_numberBetween : aw_M := (yX7_numberBetween, cX7_numberBetween, 4, (some .int))
theorem cmX7_numberBetween : aw_cm mX7_numberBetween 2 := ⟨aw_mem 412 (by decide +kernel) (by decide +kernel), aw_mem 86 (by decide +kernel) (by decide +kernel), ⟨(by decide +kernel), (by decide +kernel), (by decide +kernel)⟩, by decide⟩
abbrev mX7_byteAt : aw_M := (yX7_byteAt, cX7_byteAt, 2, (some .int))
theorem cmX7_byteAt : aw_cm mX7_byteAt 1 := ⟨aw_mem 408 (by decide +kernel) (by decide +kernel), aw_mem 86 (by decide +kernel) (by decide +kernel), ⟨(by decide +kernel), (by decide +kernel), (by decide +kernel)⟩, by decide⟩
abbrev mX8_init : aw_M := (yX8_init, cX8_init, 1, none)
theorem cmX8_init : aw_cm mX8_init 0 := ⟨aw_mem 135 (by decide +kernel) (by decide +kernel), aw_mem 81 (by decide +kernel) (by decide +kernel), ⟨(by decide +kernel), (by decide +kernel), (by decide +kernel)⟩, by decide⟩
abbrev mX8_weight : aw_M := (yX8_weight, cX8_weight, 4, (some .int))
theorem cmX8_weight : aw_cm mX8_weight 3 := ⟨aw_mem 673 (by decide +kernel) (by decide +kernel), aw_mem 81 (by decide +kernel) (by decide +kernel), ⟨(by decide +kernel), (by decide +kernel), (by decide +kernel)⟩, by decide⟩
abbrev mX8_loss : aw_M := (yX8_loss, cX8_loss, 2, (some .int))
theorem cmX8_loss : aw_cm mX8_loss 1 := ⟨aw_mem 526 (by decide +kernel) (by decide +kernel), aw_mem 81 (by decide +kernel) (by decide +kernel), ⟨(by decide +kernel), (by decide +kernel), (by decide +kernel)⟩, by decide⟩
abbrev mX9_init : aw_M := (yX9_init, cX9_init, 1, none)
theorem cmX9_init : aw_cm mX9_init 0 := ⟨aw_mem 107 (by decide +kernel) (by decide +kernel), aw_mem 77 (by decide +kernel) (by decide +kernel), ⟨(by decide +kernel), (by decide +kernel), (by decide +kernel)⟩, by decide⟩
abbrev mX9_empty : aw_M := (yX9_empty, cX9_empty, 1, none)
theorem cmX9_empty : aw_cm mX9_empty 0 := ⟨aw_mem 315 (by decide +kernel) (by decide +kernel), aw_mem 77 (by decide +kernel) (by decide +kernel), ⟨(by decide +kernel), (by decide +kernel), (by decide +kernel)⟩, by decide⟩
abbrev mX9_copyFrom : aw_M := (yX9_copyFrom, cX9_copyFrom, 3, none)
theorem cmX9_copyFrom : aw_cm mX9_copyFrom 1 := ⟨aw_mem 549 (by decide +kernel) (by decide +kernel), aw_mem 77 (by decide +kernel) (by decide +kernel), ⟨(by decide +kernel), (by decide +kernel), (by decide +kernel)⟩, by decide⟩
abbrev mX9_people : aw_M := (yX9_people, cX9_people, 1, (some .int))
theorem cmX9_people : aw_cm mX9_people 0 := ⟨aw_mem 311 (by decide +kernel) (by decide +kernel), aw_mem 77 (by decide +kernel) (by decide +kernel), ⟨(by decide +kernel), (by decide +kernel), (by decide +kernel)⟩, by decide⟩
abbrev mX9_isThere : aw_M := (yX9_isThere, cX9_isThere, 2, (some .boolean))
theorem cmX9_isThere : aw_cm mX9_isThere 1 := ⟨aw_mem 358 (by decide +kernel) (by decide +kernel), aw_mem 77 (by decide +kernel) (by decide +kernel), ⟨(by decide +kernel), (by decide +kernel), (by decide +kernel)⟩, by decide⟩
abbrev mX9_kindOf : aw_M := (yX9_kindOf, cX9_kindOf, 2, (some .int))
theorem cmX9_kindOf : aw_cm mX9_kindOf 1 := ⟨aw_mem 515 (by decide +kernel) (by decide +kernel), aw_mem 77 (by decide +kernel) (by decide +kernel), ⟨(by decide +kernel), (by decide +kernel), (by decide +kernel)⟩, by decide⟩
abbrev mX9_honestyOf : aw_M := (yX9_honestyOf, cX9_honestyOf, 2, (some .int))
theorem cmX9_honestyOf : aw_cm mX9_honestyOf 1 := ⟨aw_mem 511 (by decide +kernel) (by decide +kernel), aw_mem 77 (by decide +kernel) (by decide +kernel), ⟨(by decide +kernel), (by decide +kernel), (by decide +kernel)⟩, by decide⟩
abbrev mX9_piecesOf : aw_M := (yX9_piecesOf, cX9_piecesOf, 2, (some .int))
theorem cmX9_piecesOf : aw_cm mX9_piecesOf 1 := ⟨aw_mem 588 (by decide +kernel) (by decide +kernel), aw_mem 77 (by decide +kernel) (by decide +kernel), ⟨(by decide +kernel), (by decide +kernel), (by decide +kernel)⟩, by decide⟩
abbrev mX9_payOf : aw_M := (yX9_payOf, cX9_payOf, 2, (some .int))
theorem cmX9_payOf : aw_cm mX9_payOf 1 := ⟨aw_mem 653 (by decide +kernel) (by decide +kernel), aw_mem 77 (by decide +kernel) (by decide +kernel), ⟨(by decide +kernel), (by decide +kernel), (by decide +kernel)⟩, by decide⟩
abbrev mX9_handsOf : aw_M := (yX9_handsOf, cX9_handsOf, 2, (some .int))
theorem cmX9_handsOf : aw_cm mX9_handsOf 1 := ⟨aw_mem 362 (by decide +kernel) (by decide +kernel), aw_mem 77 (by decide +kernel) (by decide +kernel), ⟨(by decide +kernel), (by decide +kernel), (by decide +kernel)⟩, by decide⟩
abbrev mX9_liedOf : aw_M := (yX9_liedOf, cX9_liedOf, 2, (some .int))
theorem cmX9_liedOf : aw_cm mX9_liedOf 1 := ⟨aw_mem 612 (by decide +kernel) (by decide +kernel), aw_mem 77 (by decide +kernel) (by decide +kernel), ⟨(by decide +kernel), (by decide +kernel), (by decide +kernel)⟩, by decide⟩
abbrev mX9_today : aw_M := (yX9_today, cX9_today, 1, (some .int))
theorem cmX9_today : aw_cm mX9_today 0 := ⟨aw_mem 619 (by decide +kernel) (by decide +kernel), aw_mem 77 (by decide +kernel) (by decide +kernel), ⟨(by decide +kernel), (by decide +kernel), (by decide +kernel)⟩, by decide⟩
abbrev mX9_liars : aw_M := (yX9_liars, cX9_liars, 1, (some .int))
theorem cmX9_liars : aw_cm mX9_liars 0 := ⟨aw_mem 940 (by decide +kernel) (by decide +kernel), aw_mem 77 (by decide +kernel) (by decide +kernel), ⟨(by decide +kernel), (by decide +kernel), (by decide +kernel)⟩, by decide⟩
abbrev mX9_notes : aw_M := (yX9_notes, cX9_notes, 1, (some (.object "HonestGold$Notes")))
theorem cmX9_notes : aw_cm mX9_notes 0 := ⟨aw_mem 832 (by decide +kernel) (by decide +kernel), aw_mem 77 (by decide +kernel) (by decide +kernel), ⟨(by decide +kernel), (by decide +kernel), (by decide +kernel)⟩, by decide⟩
abbrev mX9_allPieces : aw_M := (yX9_allPieces, cX9_allPieces, 3, (some .int))
theorem cmX9_allPieces : aw_cm mX9_allPieces 0 := ⟨aw_mem 936 (by decide +kernel) (by decide +kernel), aw_mem 77 (by decide +kernel) (by decide +kernel), ⟨(by decide +kernel), (by decide +kernel), (by decide +kernel)⟩, by decide⟩
abbrev mX9_join : aw_M := (yX9_join, cX9_join, 6, (some .int))
theorem cmX9_join : aw_cm mX9_join 4 := ⟨aw_mem 346 (by decide +kernel) (by decide +kernel), aw_mem 77 (by decide +kernel) (by decide +kernel), ⟨(by decide +kernel), (by decide +kernel), (by decide +kernel)⟩, by decide⟩
abbrev mX9_tellHands : aw_M := (yX9_tellHands, cX9_tellHands, 3, none)
theorem cmX9_tellHands : aw_cm mX9_tellHands 2 := ⟨aw_mem 367 (by decide +kernel) (by decide +kernel), aw_mem 77 (by decide +kernel) (by decide +kernel), ⟨(by decide +kernel), (by decide +kernel), (by decide +kernel)⟩, by decide⟩
abbrev mX9_tellLie : aw_M := (yX9_tellLie, cX9_tellLie, 3, none)
theorem cmX9_tellLie : aw_cm mX9_tellLie 2 := ⟨aw_mem 503 (by decide +kernel) (by decide +kernel), aw_mem 77 (by decide +kernel) (by decide +kernel), ⟨(by decide +kernel), (by decide +kernel), (by decide +kernel)⟩, by decide⟩
abbrev mX9_handOn : aw_M := (yX9_handOn, cX9_handOn, 4, none)
theorem cmX9_handOn : aw_cm mX9_handOn 3 := ⟨aw_mem 596 (by decide +kernel) (by decide +kernel), aw_mem 77 (by decide +kernel) (by decide +kernel), ⟨(by decide +kernel), (by decide +kernel), (by decide +kernel)⟩, by decide⟩
abbrev mX9_passDay : aw_M := (yX9_passDay, cX9_passDay, 2, none)
theorem cmX9_passDay : aw_cm mX9_passDay 0 := ⟨aw_mem 604 (by decide +kernel) (by decide +kernel), aw_mem 77 (by decide +kernel) (by decide +kernel), ⟨(by decide +kernel), (by decide +kernel), (by decide +kernel)⟩, by decide⟩
abbrev mX9_steps : aw_M := (yX9_steps, cX9_steps, 1, (some .int))
theorem cmX9_steps : aw_cm mX9_steps 0 := ⟨aw_mem 627 (by decide +kernel) (by decide +kernel), aw_mem 77 (by decide +kernel) (by decide +kernel), ⟨(by decide +kernel), (by decide +kernel), (by decide +kernel)⟩, by decide⟩
abbrev mX9_forgetSteps : aw_M := (yX9_forgetSteps, cX9_forgetSteps, 1, none)
theorem cmX9_forgetSteps : aw_cm mX9_forgetSteps 0 := ⟨aw_mem 342 (by decide +kernel) (by decide +kernel), aw_mem 77 (by decide +kernel) (by decide +kernel), ⟨(by decide +kernel), (by decide +kernel), (by decide +kernel)⟩, by decide⟩
abbrev mX9_keepStep : aw_M := (yX9_keepStep, cX9_keepStep, 2, none)
theorem cmX9_keepStep : aw_cm mX9_keepStep 0 := ⟨aw_mem 566 (by decide +kernel) (by decide +kernel), aw_mem 77 (by decide +kernel) (by decide +kernel), ⟨(by decide +kernel), (by decide +kernel), (by decide +kernel)⟩, by decide⟩
abbrev mX9_stepBack : aw_M := (yX9_stepBack, cX9_stepBack, 2, none)
theorem cmX9_stepBack : aw_cm mX9_stepBack 0 := ⟨aw_mem 635 (by decide +kernel) (by decide +kernel), aw_mem 77 (by decide +kernel) (by decide +kernel), ⟨(by decide +kernel), (by decide +kernel), (by decide +kernel)⟩, by decide⟩
abbrev mX9_weightBy : aw_M := (yX9_weightBy, cX9_weightBy, 5, (some .int))
theorem cmX9_weightBy : aw_cm mX9_weightBy 4 := ⟨aw_mem 714 (by decide +kernel) (by decide +kernel), aw_mem 77 (by decide +kernel) (by decide +kernel), ⟨(by decide +kernel), (by decide +kernel), (by decide +kernel)⟩, by decide⟩
abbrev mX9_weightWith : aw_M := (yX9_weightWith, cX9_weightWith, 3, (some .int))
theorem cmX9_weightWith : aw_cm mX9_weightWith 2 := ⟨aw_mem 663 (by decide +kernel) (by decide +kernel), aw_mem 77 (by decide +kernel) (by decide +kernel), ⟨(by decide +kernel), (by decide +kernel), (by decide +kernel)⟩, by decide⟩
abbrev mX9_ownWeight : aw_M := (yX9_ownWeight, cX9_ownWeight, 2, (some .int))
theorem cmX9_ownWeight : aw_cm mX9_ownWeight 1 := ⟨aw_mem 658 (by decide +kernel) (by decide +kernel), aw_mem 77 (by decide +kernel) (by decide +kernel), ⟨(by decide +kernel), (by decide +kernel), (by decide +kernel)⟩, by decide⟩
abbrev mX9_allWeight : aw_M := (yX9_allWeight, cX9_allWeight, 3, (some .int))
theorem cmX9_allWeight : aw_cm mX9_allWeight 0 := ⟨aw_mem 701 (by decide +kernel) (by decide +kernel), aw_mem 77 (by decide +kernel) (by decide +kernel), ⟨(by decide +kernel), (by decide +kernel), (by decide +kernel)⟩, by decide⟩
abbrev mX9_daysUntil : aw_M := (yX9_daysUntil, cX9_daysUntil, 4, (some .int))
theorem cmX9_daysUntil : aw_cm mX9_daysUntil 2 := ⟨aw_mem 710 (by decide +kernel) (by decide +kernel), aw_mem 77 (by decide +kernel) (by decide +kernel), ⟨(by decide +kernel), (by decide +kernel), (by decide +kernel)⟩, by decide⟩
abbrev mX9_fewestPieces : aw_M := (yX9_fewestPieces, cX9_fewestPieces, 4, (some .int))
theorem cmX9_fewestPieces : aw_cm mX9_fewestPieces 2 := ⟨aw_mem 762 (by decide +kernel) (by decide +kernel), aw_mem 77 (by decide +kernel) (by decide +kernel), ⟨(by decide +kernel), (by decide +kernel), (by decide +kernel)⟩, by decide⟩
abbrev mX9_truthWorth : aw_M := (yX9_truthWorth, cX9_truthWorth, 3, (some .int))
theorem cmX9_truthWorth : aw_cm mX9_truthWorth 1 := ⟨aw_mem 884 (by decide +kernel) (by decide +kernel), aw_mem 77 (by decide +kernel) (by decide +kernel), ⟨(by decide +kernel), (by decide +kernel), (by decide +kernel)⟩, by decide⟩
abbrev mX9_mixInto : aw_M := (yX9_mixInto, cX9_mixInto, 6, (some .long))
theorem cmX9_mixInto : aw_cm mX9_mixInto 1 := ⟨aw_mem 951 (by decide +kernel) (by decide +kernel), aw_mem 77 (by decide +kernel) (by decide +kernel), ⟨(by decide +kernel), (by decide +kernel), (by decide +kernel)⟩, by decide⟩
abbrev mX9_kindNumbered : aw_M := (yX9_kindNumbered, cX9_kindNumbered, 2, (some (.object "HonestGold$Plain")))
theorem cmX9_kindNumbered : aw_cm mX9_kindNumbered 1 := ⟨aw_mem 519 (by decide +kernel) (by decide +kernel), aw_mem 77 (by decide +kernel) (by decide +kernel), ⟨(by decide +kernel), (by decide +kernel), (by decide +kernel)⟩, by decide⟩
abbrev mX9_honestyBehindLie : aw_M := (yX9_honestyBehindLie, cX9_honestyBehindLie, 3, (some .int))
theorem cmX9_honestyBehindLie : aw_cm mX9_honestyBehindLie 2 := ⟨aw_mem 507 (by decide +kernel) (by decide +kernel), aw_mem 77 (by decide +kernel) (by decide +kernel), ⟨(by decide +kernel), (by decide +kernel), (by decide +kernel)⟩, by decide⟩
abbrev mX9_honestyAfter : aw_M := (yX9_honestyAfter, cX9_honestyAfter, 4, (some .int))
theorem cmX9_honestyAfter : aw_cm mX9_honestyAfter 2 := ⟨aw_mem 608 (by decide +kernel) (by decide +kernel), aw_mem 77 (by decide +kernel) (by decide +kernel), ⟨(by decide +kernel), (by decide +kernel), (by decide +kernel)⟩, by decide⟩
abbrev mX10_init : aw_M := (yX10_init, cX10_init, 1, none)
theorem cmX10_init : aw_cm mX10_init 0 := ⟨aw_mem 258 (by decide +kernel) (by decide +kernel), aw_mem 87 (by decide +kernel) (by decide +kernel), ⟨(by decide +kernel), (by decide +kernel), (by decide +kernel)⟩, by decide⟩
abbrev mX10_carry : aw_M := (yX10_carry, cX10_carry, 8, (some .int))
theorem cmX10_carry : aw_cm mX10_carry 4 := ⟨aw_mem 722 (by decide +kernel) (by decide +kernel), aw_mem 87 (by decide +kernel) (by decide +kernel), ⟨(by decide +kernel), (by decide +kernel), (by decide +kernel)⟩, by decide⟩
abbrev mX10_handAt : aw_M := (yX10_handAt, cX10_handAt, 6, (some .int))
theorem cmX10_handAt : aw_cm mX10_handAt 3 := ⟨aw_mem 750 (by decide +kernel) (by decide +kernel), aw_mem 87 (by decide +kernel) (by decide +kernel), ⟨(by decide +kernel), (by decide +kernel), (by decide +kernel)⟩, by decide⟩
abbrev mX10_nearerHand : aw_M := (yX10_nearerHand, cX10_nearerHand, 4, (some .int))
theorem cmX10_nearerHand : aw_cm mX10_nearerHand 2 := ⟨aw_mem 754 (by decide +kernel) (by decide +kernel), aw_mem 87 (by decide +kernel) (by decide +kernel), ⟨(by decide +kernel), (by decide +kernel), (by decide +kernel)⟩, by decide⟩
abbrev mX10_measure : aw_M := (yX10_measure, cX10_measure, 7, (some .int))
theorem cmX10_measure : aw_cm mX10_measure 4 := ⟨aw_mem 737 (by decide +kernel) (by decide +kernel), aw_mem 87 (by decide +kernel) (by decide +kernel), ⟨(by decide +kernel), (by decide +kernel), (by decide +kernel)⟩, by decide⟩
abbrev mX10_handsToOneAt : aw_M := (yX10_handsToOneAt, cX10_handsToOneAt, 5, (some .boolean))
theorem cmX10_handsToOneAt : aw_cm mX10_handsToOneAt 3 := ⟨aw_mem 741 (by decide +kernel) (by decide +kernel), aw_mem 87 (by decide +kernel) (by decide +kernel), ⟨(by decide +kernel), (by decide +kernel), (by decide +kernel)⟩, by decide⟩
abbrev mX10_weighers : aw_M := (yX10_weighers, cX10_weighers, 6, (some .int))
theorem cmX10_weighers : aw_cm mX10_weighers 3 := ⟨aw_mem 770 (by decide +kernel) (by decide +kernel), aw_mem 87 (by decide +kernel) (by decide +kernel), ⟨(by decide +kernel), (by decide +kernel), (by decide +kernel)⟩, by decide⟩
abbrev mX10_weightTogether : aw_M := (yX10_weightTogether, cX10_weightTogether, 4, (some .int))
theorem cmX10_weightTogether : aw_cm mX10_weightTogether 1 := ⟨aw_mem 778 (by decide +kernel) (by decide +kernel), aw_mem 87 (by decide +kernel) (by decide +kernel), ⟨(by decide +kernel), (by decide +kernel), (by decide +kernel)⟩, by decide⟩
abbrev mX10_payTogether : aw_M := (yX10_payTogether, cX10_payTogether, 4, (some .int))
theorem cmX10_payTogether : aw_cm mX10_payTogether 2 := ⟨aw_mem 773 (by decide +kernel) (by decide +kernel), aw_mem 87 (by decide +kernel) (by decide +kernel), ⟨(by decide +kernel), (by decide +kernel), (by decide +kernel)⟩, by decide⟩
abbrev mX10_shelve : aw_M := (yX10_shelve, cX10_shelve, 9, (some .int))
theorem cmX10_shelve : aw_cm mX10_shelve 3 := ⟨aw_mem 787 (by decide +kernel) (by decide +kernel), aw_mem 87 (by decide +kernel) (by decide +kernel), ⟨(by decide +kernel), (by decide +kernel), (by decide +kernel)⟩, by decide⟩
abbrev mX10_bagOf : aw_M := (yX10_bagOf, cX10_bagOf, 6, (some .int))
theorem cmX10_bagOf : aw_cm mX10_bagOf 2 := ⟨aw_mem 820 (by decide +kernel) (by decide +kernel), aw_mem 87 (by decide +kernel) (by decide +kernel), ⟨(by decide +kernel), (by decide +kernel), (by decide +kernel)⟩, by decide⟩
abbrev mX10_firstBag : aw_M := (yX10_firstBag, cX10_firstBag, 4, (some .int))
theorem cmX10_firstBag : aw_cm mX10_firstBag 2 := ⟨aw_mem 824 (by decide +kernel) (by decide +kernel), aw_mem 87 (by decide +kernel) (by decide +kernel), ⟨(by decide +kernel), (by decide +kernel), (by decide +kernel)⟩, by decide⟩
abbrev mX10_lightestWith : aw_M := (yX10_lightestWith, cX10_lightestWith, 4, (some .int))
theorem cmX10_lightestWith : aw_cm mX10_lightestWith 2 := ⟨aw_mem 796 (by decide +kernel) (by decide +kernel), aw_mem 87 (by decide +kernel) (by decide +kernel), ⟨(by decide +kernel), (by decide +kernel), (by decide +kernel)⟩, by decide⟩
abbrev mX10_weighBags : aw_M := (yX10_weighBags, cX10_weighBags, 6, none)
theorem cmX10_weighBags : aw_cm mX10_weighBags 3 := ⟨aw_mem 791 (by decide +kernel) (by decide +kernel), aw_mem 87 (by decide +kernel) (by decide +kernel), ⟨(by decide +kernel), (by decide +kernel), (by decide +kernel)⟩, by decide⟩
abbrev mX10_bagWeight : aw_M := (yX10_bagWeight, cX10_bagWeight, 4, (some .int))
theorem cmX10_bagWeight : aw_cm mX10_bagWeight 2 := ⟨aw_mem 806 (by decide +kernel) (by decide +kernel), aw_mem 87 (by decide +kernel) (by decide +kernel), ⟨(by decide +kernel), (by decide +kernel), (by decide +kernel)⟩, by decide⟩
abbrev mX10_weighEach : aw_M := (yX10_weighEach, cX10_weighEach, 4, none)
theorem cmX10_weighEach : aw_cm mX10_weighEach 2 := ⟨aw_mem 726 (by decide +kernel) (by decide +kernel), aw_mem 87 (by decide +kernel) (by decide +kernel), ⟨(by decide +kernel), (by decide +kernel), (by decide +kernel)⟩, by decide⟩
abbrev mX10_heftOf : aw_M := (yX10_heftOf, cX10_heftOf, 2, (some .int))
theorem cmX10_heftOf : aw_cm mX10_heftOf 1 := ⟨aw_mem 733 (by decide +kernel) (by decide +kernel), aw_mem 87 (by decide +kernel) (by decide +kernel), ⟨(by decide +kernel), (by decide +kernel), (by decide +kernel)⟩, by decide⟩
abbrev mX10_farOf : aw_M := (yX10_farOf, cX10_farOf, 2, (some .int))
theorem cmX10_farOf : aw_cm mX10_farOf 1 := ⟨aw_mem 746 (by decide +kernel) (by decide +kernel), aw_mem 87 (by decide +kernel) (by decide +kernel), ⟨(by decide +kernel), (by decide +kernel), (by decide +kernel)⟩, by decide⟩
abbrev mX10_lightestOf : aw_M := (yX10_lightestOf, cX10_lightestOf, 2, (some .int))
theorem cmX10_lightestOf : aw_cm mX10_lightestOf 1 := ⟨aw_mem 810 (by decide +kernel) (by decide +kernel), aw_mem 87 (by decide +kernel) (by decide +kernel), ⟨(by decide +kernel), (by decide +kernel), (by decide +kernel)⟩, by decide⟩
abbrev mX10_putLightest : aw_M := (yX10_putLightest, cX10_putLightest, 3, none)
theorem cmX10_putLightest : aw_cm mX10_putLightest 2 := ⟨aw_mem 816 (by decide +kernel) (by decide +kernel), aw_mem 87 (by decide +kernel) (by decide +kernel), ⟨(by decide +kernel), (by decide +kernel), (by decide +kernel)⟩, by decide⟩
abbrev mX11_init : aw_M := (yX11_init, cX11_init, 1, none)
theorem cmX11_init : aw_cm mX11_init 0 := ⟨aw_mem 99 (by decide +kernel) (by decide +kernel), aw_mem 76 (by decide +kernel) (by decide +kernel), ⟨(by decide +kernel), (by decide +kernel), (by decide +kernel)⟩, by decide⟩
abbrev mX11_gold : aw_M := (yX11_gold, cX11_gold, 2, (some .int))
theorem cmX11_gold : aw_cm mX11_gold 0 := ⟨aw_mem 307 (by decide +kernel) (by decide +kernel), aw_mem 76 (by decide +kernel) (by decide +kernel), ⟨(by decide +kernel), (by decide +kernel), (by decide +kernel)⟩, by decide⟩
abbrev mX11_one : aw_M := (yX11_one, cX11_one, 5, (some .int))
theorem cmX11_one : aw_cm mX11_one 4 := ⟨aw_mem 327 (by decide +kernel) (by decide +kernel), aw_mem 76 (by decide +kernel) (by decide +kernel), ⟨(by decide +kernel), (by decide +kernel), (by decide +kernel)⟩, by decide⟩
abbrev mX11_hands : aw_M := (yX11_hands, cX11_hands, 6, (some .int))
theorem cmX11_hands : aw_cm mX11_hands 3 := ⟨aw_mem 350 (by decide +kernel) (by decide +kernel), aw_mem 76 (by decide +kernel) (by decide +kernel), ⟨(by decide +kernel), (by decide +kernel), (by decide +kernel)⟩, by decide⟩
abbrev mX11_type : aw_M := (yX11_type, cX11_type, 2, (some .int))
theorem cmX11_type : aw_cm mX11_type 1 := ⟨aw_mem 371 (by decide +kernel) (by decide +kernel), aw_mem 76 (by decide +kernel) (by decide +kernel), ⟨(by decide +kernel), (by decide +kernel), (by decide +kernel)⟩, by decide⟩
abbrev mX11_clear : aw_M := (yX11_clear, cX11_clear, 2, (some .int))
theorem cmX11_clear : aw_cm mX11_clear 0 := ⟨aw_mem 383 (by decide +kernel) (by decide +kernel), aw_mem 76 (by decide +kernel) (by decide +kernel), ⟨(by decide +kernel), (by decide +kernel), (by decide +kernel)⟩, by decide⟩
abbrev mX11_read : aw_M := (yX11_read, cX11_read, 2, (some .int))
theorem cmX11_read : aw_cm mX11_read 0 := ⟨aw_mem 391 (by decide +kernel) (by decide +kernel), aw_mem 76 (by decide +kernel) (by decide +kernel), ⟨(by decide +kernel), (by decide +kernel), (by decide +kernel)⟩, by decide⟩
abbrev mX11_lie : aw_M := (yX11_lie, cX11_lie, 3, (some .int))
theorem cmX11_lie : aw_cm mX11_lie 2 := ⟨aw_mem 562 (by decide +kernel) (by decide +kernel), aw_mem 76 (by decide +kernel) (by decide +kernel), ⟨(by decide +kernel), (by decide +kernel), (by decide +kernel)⟩, by decide⟩
abbrev mX11_give : aw_M := (yX11_give, cX11_give, 4, (some .int))
theorem cmX11_give : aw_cm mX11_give 3 := ⟨aw_mem 584 (by decide +kernel) (by decide +kernel), aw_mem 76 (by decide +kernel) (by decide +kernel), ⟨(by decide +kernel), (by decide +kernel), (by decide +kernel)⟩, by decide⟩
abbrev mX11_day : aw_M := (yX11_day, cX11_day, 1, (some .int))
theorem cmX11_day : aw_cm mX11_day 0 := ⟨aw_mem 600 (by decide +kernel) (by decide +kernel), aw_mem 76 (by decide +kernel) (by decide +kernel), ⟨(by decide +kernel), (by decide +kernel), (by decide +kernel)⟩, by decide⟩
abbrev mX11_undo : aw_M := (yX11_undo, cX11_undo, 1, (some .int))
theorem cmX11_undo : aw_cm mX11_undo 0 := ⟨aw_mem 623 (by decide +kernel) (by decide +kernel), aw_mem 76 (by decide +kernel) (by decide +kernel), ⟨(by decide +kernel), (by decide +kernel), (by decide +kernel)⟩, by decide⟩
abbrev mX11_of : aw_M := (yX11_of, cX11_of, 3, (some .int))
theorem cmX11_of : aw_cm mX11_of 2 := ⟨aw_mem 648 (by decide +kernel) (by decide +kernel), aw_mem 76 (by decide +kernel) (by decide +kernel), ⟨(by decide +kernel), (by decide +kernel), (by decide +kernel)⟩, by decide⟩
abbrev mX11_weighs : aw_M := (yX11_weighs, cX11_weighs, 3, (some .int))
theorem cmX11_weighs : aw_cm mX11_weighs 2 := ⟨aw_mem 692 (by decide +kernel) (by decide +kernel), aw_mem 76 (by decide +kernel) (by decide +kernel), ⟨(by decide +kernel), (by decide +kernel), (by decide +kernel)⟩, by decide⟩
abbrev mX11_all : aw_M := (yX11_all, cX11_all, 1, (some .int))
theorem cmX11_all : aw_cm mX11_all 0 := ⟨aw_mem 697 (by decide +kernel) (by decide +kernel), aw_mem 76 (by decide +kernel) (by decide +kernel), ⟨(by decide +kernel), (by decide +kernel), (by decide +kernel)⟩, by decide⟩
abbrev mX11_when : aw_M := (yX11_when, cX11_when, 3, (some .int))
theorem cmX11_when : aw_cm mX11_when 2 := ⟨aw_mem 706 (by decide +kernel) (by decide +kernel), aw_mem 76 (by decide +kernel) (by decide +kernel), ⟨(by decide +kernel), (by decide +kernel), (by decide +kernel)⟩, by decide⟩
abbrev mX11_bag : aw_M := (yX11_bag, cX11_bag, 6, (some .int))
theorem cmX11_bag : aw_cm mX11_bag 4 := ⟨aw_mem 718 (by decide +kernel) (by decide +kernel), aw_mem 76 (by decide +kernel) (by decide +kernel), ⟨(by decide +kernel), (by decide +kernel), (by decide +kernel)⟩, by decide⟩
abbrev mX11_debt : aw_M := (yX11_debt, cX11_debt, 3, (some .int))
theorem cmX11_debt : aw_cm mX11_debt 2 := ⟨aw_mem 758 (by decide +kernel) (by decide +kernel), aw_mem 76 (by decide +kernel) (by decide +kernel), ⟨(by decide +kernel), (by decide +kernel), (by decide +kernel)⟩, by decide⟩
abbrev mX11_hire : aw_M := (yX11_hire, cX11_hire, 5, (some .int))
theorem cmX11_hire : aw_cm mX11_hire 3 := ⟨aw_mem 766 (by decide +kernel) (by decide +kernel), aw_mem 76 (by decide +kernel) (by decide +kernel), ⟨(by decide +kernel), (by decide +kernel), (by decide +kernel)⟩, by decide⟩
abbrev mX11_shelves : aw_M := (yX11_shelves, cX11_shelves, 5, (some .int))
theorem cmX11_shelves : aw_cm mX11_shelves 3 := ⟨aw_mem 783 (by decide +kernel) (by decide +kernel), aw_mem 76 (by decide +kernel) (by decide +kernel), ⟨(by decide +kernel), (by decide +kernel), (by decide +kernel)⟩, by decide⟩
abbrev mX11_note : aw_M := (yX11_note, cX11_note, 5, (some .int))
theorem cmX11_note : aw_cm mX11_note 4 := ⟨aw_mem 828 (by decide +kernel) (by decide +kernel), aw_mem 76 (by decide +kernel) (by decide +kernel), ⟨(by decide +kernel), (by decide +kernel), (by decide +kernel)⟩, by decide⟩
abbrev mX11_forget : aw_M := (yX11_forget, cX11_forget, 2, (some .int))
theorem cmX11_forget : aw_cm mX11_forget 0 := ⟨aw_mem 844 (by decide +kernel) (by decide +kernel), aw_mem 76 (by decide +kernel) (by decide +kernel), ⟨(by decide +kernel), (by decide +kernel), (by decide +kernel)⟩, by decide⟩
abbrev mX11_is : aw_M := (yX11_is, cX11_is, 3, (some .int))
theorem cmX11_is : aw_cm mX11_is 2 := ⟨aw_mem 849 (by decide +kernel) (by decide +kernel), aw_mem 76 (by decide +kernel) (by decide +kernel), ⟨(by decide +kernel), (by decide +kernel), (by decide +kernel)⟩, by decide⟩
abbrev mX11_next : aw_M := (yX11_next, cX11_next, 3, (some .int))
theorem cmX11_next : aw_cm mX11_next 1 := ⟨aw_mem 868 (by decide +kernel) (by decide +kernel), aw_mem 76 (by decide +kernel) (by decide +kernel), ⟨(by decide +kernel), (by decide +kernel), (by decide +kernel)⟩, by decide⟩
abbrev mX11_two : aw_M := (yX11_two, cX11_two, 9, (some .int))
theorem cmX11_two : aw_cm mX11_two 2 := ⟨aw_mem 880 (by decide +kernel) (by decide +kernel), aw_mem 76 (by decide +kernel) (by decide +kernel), ⟨(by decide +kernel), (by decide +kernel), (by decide +kernel)⟩, by decide⟩
abbrev mX11_winds : aw_M := (yX11_winds, cX11_winds, 6, (some .int))
theorem cmX11_winds : aw_cm mX11_winds 2 := ⟨aw_mem 891 (by decide +kernel) (by decide +kernel), aw_mem 76 (by decide +kernel) (by decide +kernel), ⟨(by decide +kernel), (by decide +kernel), (by decide +kernel)⟩, by decide⟩
abbrev mX11_years : aw_M := (yX11_years, cX11_years, 8, (some .int))
theorem cmX11_years : aw_cm mX11_years 2 := ⟨aw_mem 900 (by decide +kernel) (by decide +kernel), aw_mem 76 (by decide +kernel) (by decide +kernel), ⟨(by decide +kernel), (by decide +kernel), (by decide +kernel)⟩, by decide⟩
abbrev mX11_part : aw_M := (yX11_part, cX11_part, 2, (some .long))
theorem cmX11_part : aw_cm mX11_part 1 := ⟨aw_mem 912 (by decide +kernel) (by decide +kernel), aw_mem 76 (by decide +kernel) (by decide +kernel), ⟨(by decide +kernel), (by decide +kernel), (by decide +kernel)⟩, by decide⟩
abbrev mX11_image : aw_M := (yX11_image, cX11_image, 2, (some .int))
theorem cmX11_image : aw_cm mX11_image 1 := ⟨aw_mem 916 (by decide +kernel) (by decide +kernel), aw_mem 76 (by decide +kernel) (by decide +kernel), ⟨(by decide +kernel), (by decide +kernel), (by decide +kernel)⟩, by decide⟩
abbrev mX11_from : aw_M := (yX11_from, cX11_from, 2, (some .int))
theorem cmX11_from : aw_cm mX11_from 1 := ⟨aw_mem 920 (by decide +kernel) (by decide +kernel), aw_mem 76 (by decide +kernel) (by decide +kernel), ⟨(by decide +kernel), (by decide +kernel), (by decide +kernel)⟩, by decide⟩
abbrev mX11_status : aw_M := (yX11_status, cX11_status, 2, (some .int))
theorem cmX11_status : aw_cm mX11_status 1 := ⟨aw_mem 924 (by decide +kernel) (by decide +kernel), aw_mem 76 (by decide +kernel) (by decide +kernel), ⟨(by decide +kernel), (by decide +kernel), (by decide +kernel)⟩, by decide⟩
abbrev mX11_count : aw_M := (yX11_count, cX11_count, 2, (some .int))
theorem cmX11_count : aw_cm mX11_count 1 := ⟨aw_mem 928 (by decide +kernel) (by decide +kernel), aw_mem 76 (by decide +kernel) (by decide +kernel), ⟨(by decide +kernel), (by decide +kernel), (by decide +kernel)⟩, by decide⟩
abbrev mX11_digest : aw_M := (yX11_digest, cX11_digest, 4, (some .long))
theorem cmX11_digest : aw_cm mX11_digest 0 := ⟨aw_mem 945 (by decide +kernel) (by decide +kernel), aw_mem 76 (by decide +kernel) (by decide +kernel), ⟨(by decide +kernel), (by decide +kernel), (by decide +kernel)⟩, by decide⟩
abbrev mX11_within : aw_M := (yX11_within, cX11_within, 3, (some .boolean))
theorem cmX11_within : aw_cm mX11_within 3 := ⟨aw_mem 330 (by decide +kernel) (by decide +kernel), aw_mem 76 (by decide +kernel) (by decide +kernel), ⟨(by decide +kernel), (by decide +kernel), (by decide +kernel)⟩, by decide⟩
abbrev mX11_twoOfThem : aw_M := (yX11_twoOfThem, cX11_twoOfThem, 3, (some .boolean))
theorem cmX11_twoOfThem : aw_cm mX11_twoOfThem 2 := ⟨aw_mem 354 (by decide +kernel) (by decide +kernel), aw_mem 76 (by decide +kernel) (by decide +kernel), ⟨(by decide +kernel), (by decide +kernel), (by decide +kernel)⟩, by decide⟩
abbrev mX11_refuseBad : aw_M := (yX11_refuseBad, cX11_refuseBad, 1, (some .int))
theorem cmX11_refuseBad : aw_cm mX11_refuseBad 0 := ⟨aw_mem 334 (by decide +kernel) (by decide +kernel), aw_mem 76 (by decide +kernel) (by decide +kernel), ⟨(by decide +kernel), (by decide +kernel), (by decide +kernel)⟩, by decide⟩
abbrev mX11_refuseNo : aw_M := (yX11_refuseNo, cX11_refuseNo, 1, (some .int))
theorem cmX11_refuseNo : aw_cm mX11_refuseNo 0 := ⟨aw_mem 592 (by decide +kernel) (by decide +kernel), aw_mem 76 (by decide +kernel) (by decide +kernel), ⟨(by decide +kernel), (by decide +kernel), (by decide +kernel)⟩, by decide⟩
abbrev mX11_refuseFull : aw_M := (yX11_refuseFull, cX11_refuseFull, 1, (some .int))
theorem cmX11_refuseFull : aw_cm mX11_refuseFull 0 := ⟨aw_mem 338 (by decide +kernel) (by decide +kernel), aw_mem 76 (by decide +kernel) (by decide +kernel), ⟨(by decide +kernel), (by decide +kernel), (by decide +kernel)⟩, by decide⟩
abbrev mX11_counted : aw_M := (yX11_counted, cX11_counted, 2, (some .int))
theorem cmX11_counted : aw_cm mX11_counted 1 := ⟨aw_mem 932 (by decide +kernel) (by decide +kernel), aw_mem 76 (by decide +kernel) (by decide +kernel), ⟨(by decide +kernel), (by decide +kernel), (by decide +kernel)⟩, by decide⟩
abbrev mX11_isContent : aw_M := (yX11_isContent, cX11_isContent, 4, (some .boolean))
theorem cmX11_isContent : aw_cm mX11_isContent 3 := ⟨aw_mem 887 (by decide +kernel) (by decide +kernel), aw_mem 76 (by decide +kernel) (by decide +kernel), ⟨(by decide +kernel), (by decide +kernel), (by decide +kernel)⟩, by decide⟩
abbrev mX11_keepFraction : aw_M := (yX11_keepFraction, cX11_keepFraction, 12, none)
theorem cmX11_keepFraction : aw_cm mX11_keepFraction 2 := ⟨aw_mem 896 (by decide +kernel) (by decide +kernel), aw_mem 76 (by decide +kernel) (by decide +kernel), ⟨(by decide +kernel), (by decide +kernel), (by decide +kernel)⟩, by decide⟩
abbrev mX12_bad : aw_M := (yX12_bad, cX12_bad, 1, (some .int))
theorem cmX12_bad : aw_cm mX12_bad 0 := ⟨aw_mem 1084 (by decide +kernel) (by decide +kernel), aw_mem 88 (by decide +kernel) (by decide +kernel), ⟨(by decide +kernel), (by decide +kernel), (by decide +kernel)⟩, by decide⟩
abbrev mX12_ten : aw_M := (yX12_ten, cX12_ten, 1, (some .int))
theorem cmX12_ten : aw_cm mX12_ten 0 := ⟨aw_mem 1258 (by decide +kernel) (by decide +kernel), aw_mem 88 (by decide +kernel) (by decide +kernel), ⟨(by decide +kernel), (by decide +kernel), (by decide +kernel)⟩, by decide⟩
abbrev mX12_no : aw_M := (yX12_no, cX12_no, 1, (some .int))
theorem cmX12_no : aw_cm mX12_no 0 := ⟨aw_mem 1204 (by decide +kernel) (by decide +kernel), aw_mem 88 (by decide +kernel) (by decide +kernel), ⟨(by decide +kernel), (by decide +kernel), (by decide +kernel)⟩, by decide⟩
abbrev mX12_full : aw_M := (yX12_full, cX12_full, 1, (some .int))
theorem cmX12_full : aw_cm mX12_full 0 := ⟨aw_mem 1088 (by decide +kernel) (by decide +kernel), aw_mem 88 (by decide +kernel) (by decide +kernel), ⟨(by decide +kernel), (by decide +kernel), (by decide +kernel)⟩, by decide⟩
abbrev mX12_in : aw_M := (yX12_in, cX12_in, 3, (some .boolean))
theorem cmX12_in : aw_cm mX12_in 3 := ⟨aw_mem 1080 (by decide +kernel) (by decide +kernel), aw_mem 88 (by decide +kernel) (by decide +kernel), ⟨(by decide +kernel), (by decide +kernel), (by decide +kernel)⟩, by decide⟩
abbrev mX12_has : aw_M := (yX12_has, cX12_has, 2, (some .boolean))
theorem cmX12_has : aw_cm mX12_has 2 := ⟨aw_mem 1200 (by decide +kernel) (by decide +kernel), aw_mem 88 (by decide +kernel) (by decide +kernel), ⟨(by decide +kernel), (by decide +kernel), (by decide +kernel)⟩, by decide⟩
abbrev mX12_lesser : aw_M := (yX12_lesser, cX12_lesser, 2, (some .int))
theorem cmX12_lesser : aw_cm mX12_lesser 2 := ⟨aw_mem 1215 (by decide +kernel) (by decide +kernel), aw_mem 88 (by decide +kernel) (by decide +kernel), ⟨(by decide +kernel), (by decide +kernel), (by decide +kernel)⟩, by decide⟩
abbrev mX12_init : aw_M := (yX12_init, cX12_init, 1, none)
theorem cmX12_init : aw_cm mX12_init 0 := ⟨aw_mem 964 (by decide +kernel) (by decide +kernel), aw_mem 88 (by decide +kernel) (by decide +kernel), ⟨(by decide +kernel), (by decide +kernel), (by decide +kernel)⟩, by decide⟩
abbrev mX12_begin : aw_M := (yX12_begin, cX12_begin, 1, none)
theorem cmX12_begin : aw_cm mX12_begin 0 := ⟨aw_mem 969 (by decide +kernel) (by decide +kernel), aw_mem 88 (by decide +kernel) (by decide +kernel), ⟨(by decide +kernel), (by decide +kernel), (by decide +kernel)⟩, by decide⟩
abbrev mX12_isOne : aw_M := (yX12_isOne, cX12_isOne, 2, (some .boolean))
theorem cmX12_isOne : aw_cm mX12_isOne 1 := ⟨aw_mem 1100 (by decide +kernel) (by decide +kernel), aw_mem 88 (by decide +kernel) (by decide +kernel), ⟨(by decide +kernel), (by decide +kernel), (by decide +kernel)⟩, by decide⟩
abbrev mX12_gold : aw_M := (yX12_gold, cX12_gold, 2, (some .int))
theorem cmX12_gold : aw_cm mX12_gold 0 := ⟨aw_mem 1073 (by decide +kernel) (by decide +kernel), aw_mem 88 (by decide +kernel) (by decide +kernel), ⟨(by decide +kernel), (by decide +kernel), (by decide +kernel)⟩, by decide⟩
abbrev mX12_addOne : aw_M := (yX12_addOne, cX12_addOne, 5, (some .int))
theorem cmX12_addOne : aw_cm mX12_addOne 4 := ⟨aw_mem 1092 (by decide +kernel) (by decide +kernel), aw_mem 88 (by decide +kernel) (by decide +kernel), ⟨(by decide +kernel), (by decide +kernel), (by decide +kernel)⟩, by decide⟩
abbrev mX12_one : aw_M := (yX12_one, cX12_one, 5, (some .int))
theorem cmX12_one : aw_cm mX12_one 4 := ⟨aw_mem 1077 (by decide +kernel) (by decide +kernel), aw_mem 88 (by decide +kernel) (by decide +kernel), ⟨(by decide +kernel), (by decide +kernel), (by decide +kernel)⟩, by decide⟩
abbrev mX12_hands : aw_M := (yX12_hands, cX12_hands, 5, (some .int))
theorem cmX12_hands : aw_cm mX12_hands 3 := ⟨aw_mem 1096 (by decide +kernel) (by decide +kernel), aw_mem 88 (by decide +kernel) (by decide +kernel), ⟨(by decide +kernel), (by decide +kernel), (by decide +kernel)⟩, by decide⟩
abbrev mX12_type : aw_M := (yX12_type, cX12_type, 2, (some .int))
theorem cmX12_type : aw_cm mX12_type 1 := ⟨aw_mem 1104 (by decide +kernel) (by decide +kernel), aw_mem 88 (by decide +kernel) (by decide +kernel), ⟨(by decide +kernel), (by decide +kernel), (by decide +kernel)⟩, by decide⟩
abbrev mX12_clear : aw_M := (yX12_clear, cX12_clear, 2, (some .int))
theorem cmX12_clear : aw_cm mX12_clear 0 := ⟨aw_mem 1108 (by decide +kernel) (by decide +kernel), aw_mem 88 (by decide +kernel) (by decide +kernel), ⟨(by decide +kernel), (by decide +kernel), (by decide +kernel)⟩, by decide⟩
abbrev mX12_here : aw_M := (yX12_here, cX12_here, 1, (some .int))
theorem cmX12_here : aw_cm mX12_here 0 := ⟨aw_mem 1124 (by decide +kernel) (by decide +kernel), aw_mem 88 (by decide +kernel) (by decide +kernel), ⟨(by decide +kernel), (by decide +kernel), (by decide +kernel)⟩, by decide⟩
abbrev mX12_skip : aw_M := (yX12_skip, cX12_skip, 1, none)
theorem cmX12_skip : aw_cm mX12_skip 0 := ⟨aw_mem 1120 (by decide +kernel) (by decide +kernel), aw_mem 88 (by decide +kernel) (by decide +kernel), ⟨(by decide +kernel), (by decide +kernel), (by decide +kernel)⟩, by decide⟩
abbrev mX12_isLetter : aw_M := (yX12_isLetter, cX12_isLetter, 1, (some .boolean))
theorem cmX12_isLetter : aw_cm mX12_isLetter 1 := ⟨aw_mem 1135 (by decide +kernel) (by decide +kernel), aw_mem 88 (by decide +kernel) (by decide +kernel), ⟨(by decide +kernel), (by decide +kernel), (by decide +kernel)⟩, by decide⟩
abbrev mX12_isFigure : aw_M := (yX12_isFigure, cX12_isFigure, 1, (some .boolean))
theorem cmX12_isFigure : aw_cm mX12_isFigure 1 := ⟨aw_mem 1162 (by decide +kernel) (by decide +kernel), aw_mem 88 (by decide +kernel) (by decide +kernel), ⟨(by decide +kernel), (by decide +kernel), (by decide +kernel)⟩, by decide⟩
abbrev mX12_wordSize : aw_M := (yX12_wordSize, cX12_wordSize, 2, (some .int))
theorem cmX12_wordSize : aw_cm mX12_wordSize 0 := ⟨aw_mem 1132 (by decide +kernel) (by decide +kernel), aw_mem 88 (by decide +kernel) (by decide +kernel), ⟨(by decide +kernel), (by decide +kernel), (by decide +kernel)⟩, by decide⟩
abbrev mX12_letter : aw_M := (yX12_letter, cX12_letter, 2, (some .int))
theorem cmX12_letter : aw_cm mX12_letter 1 := ⟨aw_mem 1143 (by decide +kernel) (by decide +kernel), aw_mem 88 (by decide +kernel) (by decide +kernel), ⟨(by decide +kernel), (by decide +kernel), (by decide +kernel)⟩, by decide⟩
abbrev mX12_spells : aw_M := (yX12_spells, cX12_spells, 5, (some .boolean))
theorem cmX12_spells : aw_cm mX12_spells 4 := ⟨aw_mem 1139 (by decide +kernel) (by decide +kernel), aw_mem 88 (by decide +kernel) (by decide +kernel), ⟨(by decide +kernel), (by decide +kernel), (by decide +kernel)⟩, by decide⟩
abbrev mX12_wordHere : aw_M := (yX12_wordHere, cX12_wordHere, 2, (some .int))
theorem cmX12_wordHere : aw_cm mX12_wordHere 0 := ⟨aw_mem 1128 (by decide +kernel) (by decide +kernel), aw_mem 88 (by decide +kernel) (by decide +kernel), ⟨(by decide +kernel), (by decide +kernel), (by decide +kernel)⟩, by decide⟩
abbrev mX12_number : aw_M := (yX12_number, cX12_number, 5, (some .boolean))
theorem cmX12_number : aw_cm mX12_number 2 := ⟨aw_mem 1159 (by decide +kernel) (by decide +kernel), aw_mem 88 (by decide +kernel) (by decide +kernel), ⟨(by decide +kernel), (by decide +kernel), (by decide +kernel)⟩, by decide⟩
abbrev mX12_ends : aw_M := (yX12_ends, cX12_ends, 1, (some .boolean))
theorem cmX12_ends : aw_cm mX12_ends 0 := ⟨aw_mem 1147 (by decide +kernel) (by decide +kernel), aw_mem 88 (by decide +kernel) (by decide +kernel), ⟨(by decide +kernel), (by decide +kernel), (by decide +kernel)⟩, by decide⟩
abbrev mX12_readsOne : aw_M := (yX12_readsOne, cX12_readsOne, 3, (some .boolean))
theorem cmX12_readsOne : aw_cm mX12_readsOne 0 := ⟨aw_mem 1155 (by decide +kernel) (by decide +kernel), aw_mem 88 (by decide +kernel) (by decide +kernel), ⟨(by decide +kernel), (by decide +kernel), (by decide +kernel)⟩, by decide⟩
abbrev mX12_readsHands : aw_M := (yX12_readsHands, cX12_readsHands, 4, (some .boolean))
theorem cmX12_readsHands : aw_cm mX12_readsHands 0 := ⟨aw_mem 1166 (by decide +kernel) (by decide +kernel), aw_mem 88 (by decide +kernel) (by decide +kernel), ⟨(by decide +kernel), (by decide +kernel), (by decide +kernel)⟩, by decide⟩
abbrev mX12_readsLie : aw_M := (yX12_readsLie, cX12_readsLie, 3, (some .boolean))
theorem cmX12_readsLie : aw_cm mX12_readsLie 0 := ⟨aw_mem 1170 (by decide +kernel) (by decide +kernel), aw_mem 88 (by decide +kernel) (by decide +kernel), ⟨(by decide +kernel), (by decide +kernel), (by decide +kernel)⟩, by decide⟩
abbrev mX12_readsItem : aw_M := (yX12_readsItem, cX12_readsItem, 2, (some .boolean))
theorem cmX12_readsItem : aw_cm mX12_readsItem 0 := ⟨aw_mem 1151 (by decide +kernel) (by decide +kernel), aw_mem 88 (by decide +kernel) (by decide +kernel), ⟨(by decide +kernel), (by decide +kernel), (by decide +kernel)⟩, by decide⟩
abbrev mX12_readsGold : aw_M := (yX12_readsGold, cX12_readsGold, 2, (some .int))
theorem cmX12_readsGold : aw_cm mX12_readsGold 0 := ⟨aw_mem 1116 (by decide +kernel) (by decide +kernel), aw_mem 88 (by decide +kernel) (by decide +kernel), ⟨(by decide +kernel), (by decide +kernel), (by decide +kernel)⟩, by decide⟩
abbrev mX12_read : aw_M := (yX12_read, cX12_read, 3, (some .int))
theorem cmX12_read : aw_cm mX12_read 0 := ⟨aw_mem 1112 (by decide +kernel) (by decide +kernel), aw_mem 88 (by decide +kernel) (by decide +kernel), ⟨(by decide +kernel), (by decide +kernel), (by decide +kernel)⟩, by decide⟩
abbrev mX12_weightBy : aw_M := (yX12_weightBy, cX12_weightBy, 4, (some .int))
theorem cmX12_weightBy : aw_cm mX12_weightBy 4 := ⟨aw_mem 1238 (by decide +kernel) (by decide +kernel), aw_mem 88 (by decide +kernel) (by decide +kernel), ⟨(by decide +kernel), (by decide +kernel), (by decide +kernel)⟩, by decide⟩
abbrev mX12_lieBy : aw_M := (yX12_lieBy, cX12_lieBy, 2, (some .int))
theorem cmX12_lieBy : aw_cm mX12_lieBy 2 := ⟨aw_mem 1173 (by decide +kernel) (by decide +kernel), aw_mem 88 (by decide +kernel) (by decide +kernel), ⟨(by decide +kernel), (by decide +kernel), (by decide +kernel)⟩, by decide⟩
abbrev mX12_weight : aw_M := (yX12_weight, cX12_weight, 3, (some .int))
theorem cmX12_weight : aw_cm mX12_weight 2 := ⟨aw_mem 1235 (by decide +kernel) (by decide +kernel), aw_mem 88 (by decide +kernel) (by decide +kernel), ⟨(by decide +kernel), (by decide +kernel), (by decide +kernel)⟩, by decide⟩
abbrev mX12_ownWeight : aw_M := (yX12_ownWeight, cX12_ownWeight, 2, (some .int))
theorem cmX12_ownWeight : aw_cm mX12_ownWeight 1 := ⟨aw_mem 1231 (by decide +kernel) (by decide +kernel), aw_mem 88 (by decide +kernel) (by decide +kernel), ⟨(by decide +kernel), (by decide +kernel), (by decide +kernel)⟩, by decide⟩
abbrev mX12_honestBehind : aw_M := (yX12_honestBehind, cX12_honestBehind, 4, (some .int))
theorem cmX12_honestBehind : aw_cm mX12_honestBehind 2 := ⟨aw_mem 1193 (by decide +kernel) (by decide +kernel), aw_mem 88 (by decide +kernel) (by decide +kernel), ⟨(by decide +kernel), (by decide +kernel), (by decide +kernel)⟩, by decide⟩
abbrev mX12_lays : aw_M := (yX12_lays, cX12_lays, 4, none)
theorem cmX12_lays : aw_cm mX12_lays 2 := ⟨aw_mem 1185 (by decide +kernel) (by decide +kernel), aw_mem 88 (by decide +kernel) (by decide +kernel), ⟨(by decide +kernel), (by decide +kernel), (by decide +kernel)⟩, by decide⟩
abbrev mX12_takes : aw_M := (yX12_takes, cX12_takes, 4, none)
theorem cmX12_takes : aw_cm mX12_takes 2 := ⟨aw_mem 1223 (by decide +kernel) (by decide +kernel), aw_mem 88 (by decide +kernel) (by decide +kernel), ⟨(by decide +kernel), (by decide +kernel), (by decide +kernel)⟩, by decide⟩
abbrev mX12_notes : aw_M := (yX12_notes, cX12_notes, 2, none)
theorem cmX12_notes : aw_cm mX12_notes 0 := ⟨aw_mem 1181 (by decide +kernel) (by decide +kernel), aw_mem 88 (by decide +kernel) (by decide +kernel), ⟨(by decide +kernel), (by decide +kernel), (by decide +kernel)⟩, by decide⟩
abbrev mX12_puts : aw_M := (yX12_puts, cX12_puts, 1, none)
theorem cmX12_puts : aw_cm mX12_puts 0 := ⟨aw_mem 1333 (by decide +kernel) (by decide +kernel), aw_mem 88 (by decide +kernel) (by decide +kernel), ⟨(by decide +kernel), (by decide +kernel), (by decide +kernel)⟩, by decide⟩
abbrev mX12_back : aw_M := (yX12_back, cX12_back, 1, none)
theorem cmX12_back : aw_cm mX12_back 0 := ⟨aw_mem 1345 (by decide +kernel) (by decide +kernel), aw_mem 88 (by decide +kernel) (by decide +kernel), ⟨(by decide +kernel), (by decide +kernel), (by decide +kernel)⟩, by decide⟩
abbrev mX12_lies : aw_M := (yX12_lies, cX12_lies, 3, none)
theorem cmX12_lies : aw_cm mX12_lies 2 := ⟨aw_mem 1189 (by decide +kernel) (by decide +kernel), aw_mem 88 (by decide +kernel) (by decide +kernel), ⟨(by decide +kernel), (by decide +kernel), (by decide +kernel)⟩, by decide⟩
abbrev mX12_pass : aw_M := (yX12_pass, cX12_pass, 2, none)
theorem cmX12_pass : aw_cm mX12_pass 0 := ⟨aw_mem 1212 (by decide +kernel) (by decide +kernel), aw_mem 88 (by decide +kernel) (by decide +kernel), ⟨(by decide +kernel), (by decide +kernel), (by decide +kernel)⟩, by decide⟩
abbrev mX12_lie : aw_M := (yX12_lie, cX12_lie, 3, (some .int))
theorem cmX12_lie : aw_cm mX12_lie 2 := ⟨aw_mem 1177 (by decide +kernel) (by decide +kernel), aw_mem 88 (by decide +kernel) (by decide +kernel), ⟨(by decide +kernel), (by decide +kernel), (by decide +kernel)⟩, by decide⟩
abbrev mX12_give : aw_M := (yX12_give, cX12_give, 4, (some .int))
theorem cmX12_give : aw_cm mX12_give 3 := ⟨aw_mem 1197 (by decide +kernel) (by decide +kernel), aw_mem 88 (by decide +kernel) (by decide +kernel), ⟨(by decide +kernel), (by decide +kernel), (by decide +kernel)⟩, by decide⟩
abbrev mX12_day : aw_M := (yX12_day, cX12_day, 1, (some .int))
theorem cmX12_day : aw_cm mX12_day 0 := ⟨aw_mem 1208 (by decide +kernel) (by decide +kernel), aw_mem 88 (by decide +kernel) (by decide +kernel), ⟨(by decide +kernel), (by decide +kernel), (by decide +kernel)⟩, by decide⟩
abbrev mX12_undo : aw_M := (yX12_undo, cX12_undo, 1, (some .int))
theorem cmX12_undo : aw_cm mX12_undo 0 := ⟨aw_mem 1219 (by decide +kernel) (by decide +kernel), aw_mem 88 (by decide +kernel) (by decide +kernel), ⟨(by decide +kernel), (by decide +kernel), (by decide +kernel)⟩, by decide⟩
abbrev mX12_of : aw_M := (yX12_of, cX12_of, 3, (some .int))
theorem cmX12_of : aw_cm mX12_of 2 := ⟨aw_mem 1227 (by decide +kernel) (by decide +kernel), aw_mem 88 (by decide +kernel) (by decide +kernel), ⟨(by decide +kernel), (by decide +kernel), (by decide +kernel)⟩, by decide⟩
abbrev mX12_weighs : aw_M := (yX12_weighs, cX12_weighs, 3, (some .int))
theorem cmX12_weighs : aw_cm mX12_weighs 2 := ⟨aw_mem 1242 (by decide +kernel) (by decide +kernel), aw_mem 88 (by decide +kernel) (by decide +kernel), ⟨(by decide +kernel), (by decide +kernel), (by decide +kernel)⟩, by decide⟩
abbrev mX12_all : aw_M := (yX12_all, cX12_all, 3, (some .int))
theorem cmX12_all : aw_cm mX12_all 0 := ⟨aw_mem 1246 (by decide +kernel) (by decide +kernel), aw_mem 88 (by decide +kernel) (by decide +kernel), ⟨(by decide +kernel), (by decide +kernel), (by decide +kernel)⟩, by decide⟩
abbrev mX12_when : aw_M := (yX12_when, cX12_when, 6, (some .int))
theorem cmX12_when : aw_cm mX12_when 2 := ⟨aw_mem 1250 (by decide +kernel) (by decide +kernel), aw_mem 88 (by decide +kernel) (by decide +kernel), ⟨(by decide +kernel), (by decide +kernel), (by decide +kernel)⟩, by decide⟩
abbrev mX12_setSteps : aw_M := (yX12_setSteps, cX12_setSteps, 9, (some .int))
theorem cmX12_setSteps : aw_cm mX12_setSteps 4 := ⟨aw_mem 1262 (by decide +kernel) (by decide +kernel), aw_mem 88 (by decide +kernel) (by decide +kernel), ⟨(by decide +kernel), (by decide +kernel), (by decide +kernel)⟩, by decide⟩
abbrev mX12_bag : aw_M := (yX12_bag, cX12_bag, 11, (some .int))
theorem cmX12_bag : aw_cm mX12_bag 4 := ⟨aw_mem 1254 (by decide +kernel) (by decide +kernel), aw_mem 88 (by decide +kernel) (by decide +kernel), ⟨(by decide +kernel), (by decide +kernel), (by decide +kernel)⟩, by decide⟩
abbrev mX12_debt : aw_M := (yX12_debt, cX12_debt, 4, (some .int))
theorem cmX12_debt : aw_cm mX12_debt 2 := ⟨aw_mem 1267 (by decide +kernel) (by decide +kernel), aw_mem 88 (by decide +kernel) (by decide +kernel), ⟨(by decide +kernel), (by decide +kernel), (by decide +kernel)⟩, by decide⟩
abbrev mX12_hire : aw_M := (yX12_hire, cX12_hire, 10, (some .int))
theorem cmX12_hire : aw_cm mX12_hire 3 := ⟨aw_mem 1271 (by decide +kernel) (by decide +kernel), aw_mem 88 (by decide +kernel) (by decide +kernel), ⟨(by decide +kernel), (by decide +kernel), (by decide +kernel)⟩, by decide⟩
abbrev mX12_nextBags : aw_M := (yX12_nextBags, cX12_nextBags, 6, (some .boolean))
theorem cmX12_nextBags : aw_cm mX12_nextBags 0 := ⟨aw_mem 1279 (by decide +kernel) (by decide +kernel), aw_mem 88 (by decide +kernel) (by decide +kernel), ⟨(by decide +kernel), (by decide +kernel), (by decide +kernel)⟩, by decide⟩
abbrev mX12_shelves : aw_M := (yX12_shelves, cX12_shelves, 8, (some .int))
theorem cmX12_shelves : aw_cm mX12_shelves 3 := ⟨aw_mem 1275 (by decide +kernel) (by decide +kernel), aw_mem 88 (by decide +kernel) (by decide +kernel), ⟨(by decide +kernel), (by decide +kernel), (by decide +kernel)⟩, by decide⟩
abbrev mX12_note : aw_M := (yX12_note, cX12_note, 5, (some .int))
theorem cmX12_note : aw_cm mX12_note 4 := ⟨aw_mem 1283 (by decide +kernel) (by decide +kernel), aw_mem 88 (by decide +kernel) (by decide +kernel), ⟨(by decide +kernel), (by decide +kernel), (by decide +kernel)⟩, by decide⟩
abbrev mX12_forget : aw_M := (yX12_forget, cX12_forget, 2, (some .int))
theorem cmX12_forget : aw_cm mX12_forget 0 := ⟨aw_mem 1287 (by decide +kernel) (by decide +kernel), aw_mem 88 (by decide +kernel) (by decide +kernel), ⟨(by decide +kernel), (by decide +kernel), (by decide +kernel)⟩, by decide⟩
abbrev mX12_isSo : aw_M := (yX12_isSo, cX12_isSo, 7, (some .boolean))
theorem cmX12_isSo : aw_cm mX12_isSo 3 := ⟨aw_mem 1299 (by decide +kernel) (by decide +kernel), aw_mem 88 (by decide +kernel) (by decide +kernel), ⟨(by decide +kernel), (by decide +kernel), (by decide +kernel)⟩, by decide⟩
abbrev mX12_kindsOf : aw_M := (yX12_kindsOf, cX12_kindsOf, 4, (some .int))
theorem cmX12_kindsOf : aw_cm mX12_kindsOf 1 := ⟨aw_mem 1295 (by decide +kernel) (by decide +kernel), aw_mem 88 (by decide +kernel) (by decide +kernel), ⟨(by decide +kernel), (by decide +kernel), (by decide +kernel)⟩, by decide⟩
abbrev mX12_is : aw_M := (yX12_is, cX12_is, 5, (some .int))
theorem cmX12_is : aw_cm mX12_is 2 := ⟨aw_mem 1291 (by decide +kernel) (by decide +kernel), aw_mem 88 (by decide +kernel) (by decide +kernel), ⟨(by decide +kernel), (by decide +kernel), (by decide +kernel)⟩, by decide⟩
abbrev mX12_alike : aw_M := (yX12_alike, cX12_alike, 9, (some .int))
theorem cmX12_alike : aw_cm mX12_alike 3 := ⟨aw_mem 1307 (by decide +kernel) (by decide +kernel), aw_mem 88 (by decide +kernel) (by decide +kernel), ⟨(by decide +kernel), (by decide +kernel), (by decide +kernel)⟩, by decide⟩
abbrev mX12_next : aw_M := (yX12_next, cX12_next, 5, (some .int))
theorem cmX12_next : aw_cm mX12_next 1 := ⟨aw_mem 1303 (by decide +kernel) (by decide +kernel), aw_mem 88 (by decide +kernel) (by decide +kernel), ⟨(by decide +kernel), (by decide +kernel), (by decide +kernel)⟩, by decide⟩
abbrev mX12_gets : aw_M := (yX12_gets, cX12_gets, 5, (some .int))
theorem cmX12_gets : aw_cm mX12_gets 3 := ⟨aw_mem 1315 (by decide +kernel) (by decide +kernel), aw_mem 88 (by decide +kernel) (by decide +kernel), ⟨(by decide +kernel), (by decide +kernel), (by decide +kernel)⟩, by decide⟩
abbrev mX12_two : aw_M := (yX12_two, cX12_two, 8, (some .int))
theorem cmX12_two : aw_cm mX12_two 2 := ⟨aw_mem 1311 (by decide +kernel) (by decide +kernel), aw_mem 88 (by decide +kernel) (by decide +kernel), ⟨(by decide +kernel), (by decide +kernel), (by decide +kernel)⟩, by decide⟩
abbrev mX12_lay : aw_M := (yX12_lay, cX12_lay, 11, none)
theorem cmX12_lay : aw_cm mX12_lay 2 := ⟨aw_mem 1324 (by decide +kernel) (by decide +kernel), aw_mem 88 (by decide +kernel) (by decide +kernel), ⟨(by decide +kernel), (by decide +kernel), (by decide +kernel)⟩, by decide⟩
abbrev mX12_winds : aw_M := (yX12_winds, cX12_winds, 5, (some .int))
theorem cmX12_winds : aw_cm mX12_winds 2 := ⟨aw_mem 1319 (by decide +kernel) (by decide +kernel), aw_mem 88 (by decide +kernel) (by decide +kernel), ⟨(by decide +kernel), (by decide +kernel), (by decide +kernel)⟩, by decide⟩
abbrev mX12_years : aw_M := (yX12_years, cX12_years, 8, (some .int))
theorem cmX12_years : aw_cm mX12_years 2 := ⟨aw_mem 1328 (by decide +kernel) (by decide +kernel), aw_mem 88 (by decide +kernel) (by decide +kernel), ⟨(by decide +kernel), (by decide +kernel), (by decide +kernel)⟩, by decide⟩
abbrev mX12_part : aw_M := (yX12_part, cX12_part, 2, (some .long))
theorem cmX12_part : aw_cm mX12_part 1 := ⟨aw_mem 1349 (by decide +kernel) (by decide +kernel), aw_mem 88 (by decide +kernel) (by decide +kernel), ⟨(by decide +kernel), (by decide +kernel), (by decide +kernel)⟩, by decide⟩
abbrev mX12_image : aw_M := (yX12_image, cX12_image, 4, (some .int))
theorem cmX12_image : aw_cm mX12_image 1 := ⟨aw_mem 1353 (by decide +kernel) (by decide +kernel), aw_mem 88 (by decide +kernel) (by decide +kernel), ⟨(by decide +kernel), (by decide +kernel), (by decide +kernel)⟩, by decide⟩
abbrev mX12_from : aw_M := (yX12_from, cX12_from, 4, (some .int))
theorem cmX12_from : aw_cm mX12_from 1 := ⟨aw_mem 1357 (by decide +kernel) (by decide +kernel), aw_mem 88 (by decide +kernel) (by decide +kernel), ⟨(by decide +kernel), (by decide +kernel), (by decide +kernel)⟩, by decide⟩
abbrev mX12_status : aw_M := (yX12_status, cX12_status, 2, (some .int))
theorem cmX12_status : aw_cm mX12_status 1 := ⟨aw_mem 1361 (by decide +kernel) (by decide +kernel), aw_mem 88 (by decide +kernel) (by decide +kernel), ⟨(by decide +kernel), (by decide +kernel), (by decide +kernel)⟩, by decide⟩
abbrev mX12_bits : aw_M := (yX12_bits, cX12_bits, 3, (some .int))
theorem cmX12_bits : aw_cm mX12_bits 1 := ⟨aw_mem 1376 (by decide +kernel) (by decide +kernel), aw_mem 88 (by decide +kernel) (by decide +kernel), ⟨(by decide +kernel), (by decide +kernel), (by decide +kernel)⟩, by decide⟩
abbrev mX12_allPieces : aw_M := (yX12_allPieces, cX12_allPieces, 3, (some .int))
theorem cmX12_allPieces : aw_cm mX12_allPieces 0 := ⟨aw_mem 1373 (by decide +kernel) (by decide +kernel), aw_mem 88 (by decide +kernel) (by decide +kernel), ⟨(by decide +kernel), (by decide +kernel), (by decide +kernel)⟩, by decide⟩
abbrev mX12_countOf : aw_M := (yX12_countOf, cX12_countOf, 2, (some .int))
theorem cmX12_countOf : aw_cm mX12_countOf 1 := ⟨aw_mem 1369 (by decide +kernel) (by decide +kernel), aw_mem 88 (by decide +kernel) (by decide +kernel), ⟨(by decide +kernel), (by decide +kernel), (by decide +kernel)⟩, by decide⟩
abbrev mX12_count : aw_M := (yX12_count, cX12_count, 2, (some .int))
theorem cmX12_count : aw_cm mX12_count 1 := ⟨aw_mem 1365 (by decide +kernel) (by decide +kernel), aw_mem 88 (by decide +kernel) (by decide +kernel), ⟨(by decide +kernel), (by decide +kernel), (by decide +kernel)⟩, by decide⟩
abbrev mX12_mix : aw_M := (yX12_mix, cX12_mix, 3, none)
theorem cmX12_mix : aw_cm mX12_mix 1 := ⟨aw_mem 1385 (by decide +kernel) (by decide +kernel), aw_mem 88 (by decide +kernel) (by decide +kernel), ⟨(by decide +kernel), (by decide +kernel), (by decide +kernel)⟩, by decide⟩
abbrev mX12_digest : aw_M := (yX12_digest, cX12_digest, 2, (some .long))
theorem cmX12_digest : aw_cm mX12_digest 0 := ⟨aw_mem 1380 (by decide +kernel) (by decide +kernel), aw_mem 88 (by decide +kernel) (by decide +kernel), ⟨(by decide +kernel), (by decide +kernel), (by decide +kernel)⟩, by decide⟩
abbrev mJ6_bitCount_0f7a4 : aw_M := (yJ6_bitCount_0f7a4, cJ6_bitCount_0f7a4, 1, (some .int))
theorem cmJ6_bitCount_0f7a4 : aw_cm mJ6_bitCount_0f7a4 1 := ⟨aw_mem 799 (by decide +kernel) (by decide +kernel), aw_mem 94 (by decide +kernel) (by decide +kernel), ⟨(by decide +kernel), (by decide +kernel), (by decide +kernel)⟩, by decide⟩
abbrev mJ9_max_7cf53 : aw_M := (yJ9_max_7cf53, cJ9_max_7cf53, 2, (some .int))
theorem cmJ9_max_7cf53 : aw_cm mJ9_max_7cf53 2 := ⟨aw_mem 541 (by decide +kernel) (by decide +kernel), aw_mem 93 (by decide +kernel) (by decide +kernel), ⟨(by decide +kernel), (by decide +kernel), (by decide +kernel)⟩, by decide⟩
abbrev mJ9_min_7cf53 : aw_M := (yJ9_min_7cf53, cJ9_min_7cf53, 2, (some .int))
theorem cmJ9_min_7cf53 : aw_cm mJ9_min_7cf53 2 := ⟨aw_mem 615 (by decide +kernel) (by decide +kernel), aw_mem 93 (by decide +kernel) (by decide +kernel), ⟨(by decide +kernel), (by decide +kernel), (by decide +kernel)⟩, by decide⟩
abbrev mJ0_length_8abf5 : aw_M := (yJ0_length_8abf5, cJ0_length_8abf5, 1, (some .int))
theorem cmJ0_length_8abf5 : aw_cm mJ0_length_8abf5 0 := ⟨aw_mem 425 (by decide +kernel) (by decide +kernel), aw_mem 89 (by decide +kernel) (by decide +kernel), ⟨(by decide +kernel), (by decide +kernel), (by decide +kernel)⟩, by decide⟩
abbrev mJ0_charAt_5068e : aw_M := (yJ0_charAt_5068e, cJ0_charAt_5068e, 2, (some .char))
theorem cmJ0_charAt_5068e : aw_cm mJ0_charAt_5068e 1 := ⟨aw_mem 435 (by decide +kernel) (by decide +kernel), aw_mem 89 (by decide +kernel) (by decide +kernel), ⟨(by decide +kernel), (by decide +kernel), (by decide +kernel)⟩, by decide⟩
abbrev mJ0_coder_7d493 : aw_M := (yJ0_coder_7d493, cJ0_coder_7d493, 1, (some .byte))
theorem cmJ0_coder_7d493 : aw_cm mJ0_coder_7d493 0 := ⟨aw_mem 429 (by decide +kernel) (by decide +kernel), aw_mem 89 (by decide +kernel) (by decide +kernel), ⟨(by decide +kernel), (by decide +kernel), (by decide +kernel)⟩, by decide⟩
abbrev mJ0_isLatin1_aae02 : aw_M := (yJ0_isLatin1_aae02, cJ0_isLatin1_aae02, 1, (some .boolean))
theorem cmJ0_isLatin1_aae02 : aw_cm mJ0_isLatin1_aae02 0 := ⟨aw_mem 439 (by decide +kernel) (by decide +kernel), aw_mem 89 (by decide +kernel) (by decide +kernel), ⟨(by decide +kernel), (by decide +kernel), (by decide +kernel)⟩, by decide⟩
abbrev mJ0_checkIndex_df160 : aw_M := (yJ0_checkIndex_df160, cJ0_checkIndex_df160, 2, none)
theorem cmJ0_checkIndex_df160 : aw_cm mJ0_checkIndex_df160 2 := ⟨aw_mem 445 (by decide +kernel) (by decide +kernel), aw_mem 89 (by decide +kernel) (by decide +kernel), ⟨(by decide +kernel), (by decide +kernel), (by decide +kernel)⟩, by decide⟩
abbrev mJ1_charAt_3b067 : aw_M := (yJ1_charAt_3b067, cJ1_charAt_3b067, 2, (some .char))
theorem cmJ1_charAt_3b067 : aw_cm mJ1_charAt_3b067 2 := ⟨aw_mem 442 (by decide +kernel) (by decide +kernel), aw_mem 90 (by decide +kernel) (by decide +kernel), ⟨(by decide +kernel), (by decide +kernel), (by decide +kernel)⟩, by decide⟩
abbrev mJ2_getChar_3b067 : aw_M := (yJ2_getChar_3b067, cJ2_getChar_3b067, 2, (some .char))
theorem cmJ2_getChar_3b067 : aw_cm mJ2_getChar_3b067 2 := ⟨aw_mem 463 (by decide +kernel) (by decide +kernel), aw_mem 92 (by decide +kernel) (by decide +kernel), ⟨(by decide +kernel), (by decide +kernel), (by decide +kernel)⟩, by decide⟩
abbrev mJ2_length_9d52b : aw_M := (yJ2_length_9d52b, cJ2_length_9d52b, 1, (some .int))
theorem cmJ2_length_9d52b : aw_cm mJ2_length_9d52b 1 := ⟨aw_mem 459 (by decide +kernel) (by decide +kernel), aw_mem 92 (by decide +kernel) (by decide +kernel), ⟨(by decide +kernel), (by decide +kernel), (by decide +kernel)⟩, by decide⟩
abbrev mJ2_charAt_3b067 : aw_M := (yJ2_charAt_3b067, cJ2_charAt_3b067, 2, (some .char))
theorem cmJ2_charAt_3b067 : aw_cm mJ2_charAt_3b067 2 := ⟨aw_mem 453 (by decide +kernel) (by decide +kernel), aw_mem 92 (by decide +kernel) (by decide +kernel), ⟨(by decide +kernel), (by decide +kernel), (by decide +kernel)⟩, by decide⟩
abbrev mJ2_checkIndex_2214a : aw_M := (yJ2_checkIndex_2214a, cJ2_checkIndex_2214a, 2, none)
theorem cmJ2_checkIndex_2214a : aw_cm mJ2_checkIndex_2214a 2 := ⟨aw_mem 456 (by decide +kernel) (by decide +kernel), aw_mem 92 (by decide +kernel) (by decide +kernel), ⟨(by decide +kernel), (by decide +kernel), (by decide +kernel)⟩, by decide⟩
abbrev mJ3_checkIndex_8e157 : aw_M := (yJ3_checkIndex_8e157, cJ3_checkIndex_8e157, 3, (some .int))
theorem cmJ3_checkIndex_8e157 : aw_cm mJ3_checkIndex_8e157 3 := ⟨aw_mem 450 (by decide +kernel) (by decide +kernel), aw_mem 91 (by decide +kernel) (by decide +kernel), ⟨(by decide +kernel), (by decide +kernel), (by decide +kernel)⟩, by decide⟩
abbrev mL_law : aw_M := (yL_law, cL_law, 4, (some .boolean))
theorem flX4_9 : aw_fl RX4 9 4 0 := ⟨RX4, TX4, 5, rfl, by decide, inX4, aw_mem 158 (by decide +kernel) (by decide +kernel)⟩
theorem fpX4_9 : aw_fp RX4 9 4 0 true (.array .int) := ⟨RX4, TX4, 5, tyX4, rfl, by decide, inX4, aw_mem 158 (by decide +kernel) (by decide +kernel), rfl, (by decide +kernel), tyX4_ok, nmX4, fun _ => rfl⟩
theorem flX4_15 : aw_fl RX4 15 4 1 := ⟨RX4, TX4, 5, rfl, by decide, inX4, aw_mem 159 (by decide +kernel) (by decide +kernel)⟩
theorem fpX4_15 : aw_fp RX4 15 4 1 true (.array .int) := ⟨RX4, TX4, 5, tyX4, rfl, by decide, inX4, aw_mem 159 (by decide +kernel) (by decide +kernel), rfl, (by decide +kernel), tyX4_ok, nmX4, fun _ => rfl⟩
theorem flX4_18 : aw_fl RX4 18 4 2 := ⟨RX4, TX4, 5, rfl, by decide, inX4, aw_mem 160 (by decide +kernel) (by decide +kernel)⟩
theorem fpX4_18 : aw_fp RX4 18 4 2 true (.array .int) := ⟨RX4, TX4, 5, tyX4, rfl, by decide, inX4, aw_mem 160 (by decide +kernel) (by decide +kernel), rfl, (by decide +kernel), tyX4_ok, nmX4, fun _ => rfl⟩
theorem flX4_21 : aw_fl RX4 21 4 3 := ⟨RX4, TX4, 5, rfl, by decide, inX4, aw_mem 161 (by decide +kernel) (by decide +kernel)⟩
theorem fpX4_21 : aw_fp RX4 21 4 3 true (.array .int) := ⟨RX4, TX4, 5, tyX4, rfl, by decide, inX4, aw_mem 161 (by decide +kernel) (by decide +kernel), rfl, (by decide +kernel), tyX4_ok, nmX4, fun _ => rfl⟩
theorem flX4_24 : aw_fl RX4 24 4 4 := ⟨RX4, TX4, 5, rfl, by decide, inX4, aw_mem 162 (by decide +kernel) (by decide +kernel)⟩
theorem fpX4_24 : aw_fp RX4 24 4 4 false .int := ⟨RX4, TX4, 5, tyX4, rfl, by decide, inX4, aw_mem 162 (by decide +kernel) (by decide +kernel), rfl, (by decide +kernel), tyX4_ok, nmX4, fun h => by cases h⟩
theorem flX5_11 : aw_fl RX5 11 5 0 := ⟨RX5, TX5, 2, rfl, by decide, inX5, aw_mem 181 (by decide +kernel) (by decide +kernel)⟩
theorem fpX5_11 : aw_fp RX5 11 5 0 true (.array .int) := ⟨RX5, TX5, 2, tyX5, rfl, by decide, inX5, aw_mem 181 (by decide +kernel) (by decide +kernel), rfl, (by decide +kernel), tyX5_ok, nmX5, fun _ => rfl⟩
theorem flX5_15 : aw_fl RX5 15 5 1 := ⟨RX5, TX5, 2, rfl, by decide, inX5, aw_mem 182 (by decide +kernel) (by decide +kernel)⟩
theorem fpX5_15 : aw_fp RX5 15 5 1 false .int := ⟨RX5, TX5, 2, tyX5, rfl, by decide, inX5, aw_mem 182 (by decide +kernel) (by decide +kernel), rfl, (by decide +kernel), tyX5_ok, nmX5, fun h => by cases h⟩
theorem flX9_12 : aw_fl RX9 12 9 0 := ⟨RX9, TX9, 12, rfl, by decide, inX9, aw_mem 188 (by decide +kernel) (by decide +kernel)⟩
theorem fpX9_12 : aw_fp RX9 12 9 0 true (.object "HonestGold$Plain") := ⟨RX9, TX9, 12, tyX9, rfl, by decide, inX9, aw_mem 188 (by decide +kernel) (by decide +kernel), rfl, (by decide +kernel), tyX9_ok, nmX9, fun _ => rfl⟩
theorem flX9_33 : aw_fl RX9 33 9 1 := ⟨RX9, TX9, 12, rfl, by decide, inX9, aw_mem 189 (by decide +kernel) (by decide +kernel)⟩
theorem fpX9_33 : aw_fp RX9 33 9 1 true (.array (.object "HonestGold$Plain")) := ⟨RX9, TX9, 12, tyX9, rfl, by decide, inX9, aw_mem 189 (by decide +kernel) (by decide +kernel), rfl, (by decide +kernel), tyX9_ok, nmX9, fun _ => rfl⟩
theorem flX9_37 : aw_fl RX9 37 9 2 := ⟨RX9, TX9, 12, rfl, by decide, inX9, aw_mem 190 (by decide +kernel) (by decide +kernel)⟩
theorem fpX9_37 : aw_fp RX9 37 9 2 true (.array .int) := ⟨RX9, TX9, 12, tyX9, rfl, by decide, inX9, aw_mem 190 (by decide +kernel) (by decide +kernel), rfl, (by decide +kernel), tyX9_ok, nmX9, fun _ => rfl⟩
theorem flX9_41 : aw_fl RX9 41 9 3 := ⟨RX9, TX9, 12, rfl, by decide, inX9, aw_mem 191 (by decide +kernel) (by decide +kernel)⟩
theorem fpX9_41 : aw_fp RX9 41 9 3 true (.array .int) := ⟨RX9, TX9, 12, tyX9, rfl, by decide, inX9, aw_mem 191 (by decide +kernel) (by decide +kernel), rfl, (by decide +kernel), tyX9_ok, nmX9, fun _ => rfl⟩
theorem flX9_44 : aw_fl RX9 44 9 4 := ⟨RX9, TX9, 12, rfl, by decide, inX9, aw_mem 192 (by decide +kernel) (by decide +kernel)⟩
theorem fpX9_44 : aw_fp RX9 44 9 4 true (.array .int) := ⟨RX9, TX9, 12, tyX9, rfl, by decide, inX9, aw_mem 192 (by decide +kernel) (by decide +kernel), rfl, (by decide +kernel), tyX9_ok, nmX9, fun _ => rfl⟩
theorem flX9_47 : aw_fl RX9 47 9 5 := ⟨RX9, TX9, 12, rfl, by decide, inX9, aw_mem 193 (by decide +kernel) (by decide +kernel)⟩
theorem fpX9_47 : aw_fp RX9 47 9 5 true (.array .int) := ⟨RX9, TX9, 12, tyX9, rfl, by decide, inX9, aw_mem 193 (by decide +kernel) (by decide +kernel), rfl, (by decide +kernel), tyX9_ok, nmX9, fun _ => rfl⟩
theorem flX9_50 : aw_fl RX9 50 9 6 := ⟨RX9, TX9, 12, rfl, by decide, inX9, aw_mem 194 (by decide +kernel) (by decide +kernel)⟩
theorem fpX9_50 : aw_fp RX9 50 9 6 true (.array .int) := ⟨RX9, TX9, 12, tyX9, rfl, by decide, inX9, aw_mem 194 (by decide +kernel) (by decide +kernel), rfl, (by decide +kernel), tyX9_ok, nmX9, fun _ => rfl⟩
theorem flX9_56 : aw_fl RX9 56 9 7 := ⟨RX9, TX9, 12, rfl, by decide, inX9, aw_mem 195 (by decide +kernel) (by decide +kernel)⟩
theorem fpX9_56 : aw_fp RX9 56 9 7 true (.object "HonestGold$Notes") := ⟨RX9, TX9, 12, tyX9, rfl, by decide, inX9, aw_mem 195 (by decide +kernel) (by decide +kernel), rfl, (by decide +kernel), tyX9_ok, nmX9, fun _ => rfl⟩
theorem flX9_63 : aw_fl RX9 63 9 8 := ⟨RX9, TX9, 12, rfl, by decide, inX9, aw_mem 196 (by decide +kernel) (by decide +kernel)⟩
theorem fpX9_63 : aw_fp RX9 63 9 8 true (.object "HonestGold$Past") := ⟨RX9, TX9, 12, tyX9, rfl, by decide, inX9, aw_mem 196 (by decide +kernel) (by decide +kernel), rfl, (by decide +kernel), tyX9_ok, nmX9, fun _ => rfl⟩
theorem flX9_67 : aw_fl RX9 67 9 9 := ⟨RX9, TX9, 12, rfl, by decide, inX9, aw_mem 197 (by decide +kernel) (by decide +kernel)⟩
theorem fpX9_67 : aw_fp RX9 67 9 9 false .int := ⟨RX9, TX9, 12, tyX9, rfl, by decide, inX9, aw_mem 197 (by decide +kernel) (by decide +kernel), rfl, (by decide +kernel), tyX9_ok, nmX9, fun h => by cases h⟩
theorem flX9_71 : aw_fl RX9 71 9 10 := ⟨RX9, TX9, 12, rfl, by decide, inX9, aw_mem 198 (by decide +kernel) (by decide +kernel)⟩
theorem fpX9_71 : aw_fp RX9 71 9 10 false .int := ⟨RX9, TX9, 12, tyX9, rfl, by decide, inX9, aw_mem 198 (by decide +kernel) (by decide +kernel), rfl, (by decide +kernel), tyX9_ok, nmX9, fun h => by cases h⟩
theorem flX9_74 : aw_fl RX9 74 9 11 := ⟨RX9, TX9, 12, rfl, by decide, inX9, aw_mem 199 (by decide +kernel) (by decide +kernel)⟩
theorem fpX9_74 : aw_fp RX9 74 9 11 false .int := ⟨RX9, TX9, 12, tyX9, rfl, by decide, inX9, aw_mem 199 (by decide +kernel) (by decide +kernel), rfl, (by decide +kernel), tyX9_ok, nmX9, fun h => by cases h⟩
theorem flX7_9 : aw_fl RX7 9 7 0 := ⟨RX7, TX7, 7, rfl, by decide, inX7, aw_mem 232 (by decide +kernel) (by decide +kernel)⟩
theorem fpX7_9 : aw_fp RX7 9 7 0 true (.array .int) := ⟨RX7, TX7, 7, tyX7, rfl, by decide, inX7, aw_mem 232 (by decide +kernel) (by decide +kernel), rfl, (by decide +kernel), tyX7_ok, nmX7, fun _ => rfl⟩
theorem flX7_19 : aw_fl RX7 19 7 1 := ⟨RX7, TX7, 7, rfl, by decide, inX7, aw_mem 233 (by decide +kernel) (by decide +kernel)⟩
theorem fpX7_19 : aw_fp RX7 19 7 1 false .int := ⟨RX7, TX7, 7, tyX7, rfl, by decide, inX7, aw_mem 233 (by decide +kernel) (by decide +kernel), rfl, (by decide +kernel), tyX7_ok, nmX7, fun h => by cases h⟩
theorem flX7_89 : aw_fl RX7 89 7 2 := ⟨RX7, TX7, 7, rfl, by decide, inX7, aw_mem 234 (by decide +kernel) (by decide +kernel)⟩
theorem fpX7_89 : aw_fp RX7 89 7 2 false .int := ⟨RX7, TX7, 7, tyX7, rfl, by decide, inX7, aw_mem 234 (by decide +kernel) (by decide +kernel), rfl, (by decide +kernel), tyX7_ok, nmX7, fun h => by cases h⟩
theorem flX7_27 : aw_fl RX7 27 7 3 := ⟨RX7, TX7, 7, rfl, by decide, inX7, aw_mem 235 (by decide +kernel) (by decide +kernel)⟩
theorem fpX7_27 : aw_fp RX7 27 7 3 false .int := ⟨RX7, TX7, 7, tyX7, rfl, by decide, inX7, aw_mem 235 (by decide +kernel) (by decide +kernel), rfl, (by decide +kernel), tyX7_ok, nmX7, fun h => by cases h⟩
theorem flX7_36 : aw_fl RX7 36 7 4 := ⟨RX7, TX7, 7, rfl, by decide, inX7, aw_mem 236 (by decide +kernel) (by decide +kernel)⟩
theorem fpX7_36 : aw_fp RX7 36 7 4 false .int := ⟨RX7, TX7, 7, tyX7, rfl, by decide, inX7, aw_mem 236 (by decide +kernel) (by decide +kernel), rfl, (by decide +kernel), tyX7_ok, nmX7, fun h => by cases h⟩
theorem flX7_79 : aw_fl RX7 79 7 5 := ⟨RX7, TX7, 7, rfl, by decide, inX7, aw_mem 237 (by decide +kernel) (by decide +kernel)⟩
theorem fpX7_79 : aw_fp RX7 79 7 5 false .int := ⟨RX7, TX7, 7, tyX7, rfl, by decide, inX7, aw_mem 237 (by decide +kernel) (by decide +kernel), rfl, (by decide +kernel), tyX7_ok, nmX7, fun h => by cases h⟩
theorem flX7_15 : aw_fl RX7 15 7 6 := ⟨RX7, TX7, 7, rfl, by decide, inX7, aw_mem 238 (by decide +kernel) (by decide +kernel)⟩
theorem fpX7_15 : aw_fp RX7 15 7 6 false .int := ⟨RX7, TX7, 7, tyX7, rfl, by decide, inX7, aw_mem 238 (by decide +kernel) (by decide +kernel), rfl, (by decide +kernel), tyX7_ok, nmX7, fun h => by cases h⟩
theorem flX10_9 : aw_fl RX10 9 10 0 := ⟨RX10, TX10, 4, rfl, by decide, inX10, aw_mem 260 (by decide +kernel) (by decide +kernel)⟩
theorem fpX10_9 : aw_fp RX10 9 10 0 true (.array .int) := ⟨RX10, TX10, 4, tyX10, rfl, by decide, inX10, aw_mem 260 (by decide +kernel) (by decide +kernel), rfl, (by decide +kernel), tyX10_ok, nmX10, fun _ => rfl⟩
theorem flX10_15 : aw_fl RX10 15 10 1 := ⟨RX10, TX10, 4, rfl, by decide, inX10, aw_mem 261 (by decide +kernel) (by decide +kernel)⟩
theorem fpX10_15 : aw_fp RX10 15 10 1 true (.array .int) := ⟨RX10, TX10, 4, tyX10, rfl, by decide, inX10, aw_mem 261 (by decide +kernel) (by decide +kernel), rfl, (by decide +kernel), tyX10_ok, nmX10, fun _ => rfl⟩
theorem flX10_18 : aw_fl RX10 18 10 2 := ⟨RX10, TX10, 4, rfl, by decide, inX10, aw_mem 262 (by decide +kernel) (by decide +kernel)⟩
theorem fpX10_18 : aw_fp RX10 18 10 2 true (.array .int) := ⟨RX10, TX10, 4, tyX10, rfl, by decide, inX10, aw_mem 262 (by decide +kernel) (by decide +kernel), rfl, (by decide +kernel), tyX10_ok, nmX10, fun _ => rfl⟩
theorem flX10_21 : aw_fl RX10 21 10 3 := ⟨RX10, TX10, 4, rfl, by decide, inX10, aw_mem 263 (by decide +kernel) (by decide +kernel)⟩
theorem fpX10_21 : aw_fp RX10 21 10 3 true (.array .int) := ⟨RX10, TX10, 4, tyX10, rfl, by decide, inX10, aw_mem 263 (by decide +kernel) (by decide +kernel), rfl, (by decide +kernel), tyX10_ok, nmX10, fun _ => rfl⟩
theorem flX11_10 : aw_fl RX11 10 11 0 := ⟨RX11, TX11, 10, rfl, by decide, inX11, aw_mem 273 (by decide +kernel) (by decide +kernel)⟩
theorem fpX11_10 : aw_fp RX11 10 11 0 true (.object "HonestGold$Treasury") := ⟨RX11, TX11, 10, tyX11, rfl, by decide, inX11, aw_mem 273 (by decide +kernel) (by decide +kernel), rfl, (by decide +kernel), tyX11_ok, nmX11, fun _ => rfl⟩
theorem flX11_16 : aw_fl RX11 16 11 1 := ⟨RX11, TX11, 10, rfl, by decide, inX11, aw_mem 274 (by decide +kernel) (by decide +kernel)⟩
theorem fpX11_16 : aw_fp RX11 16 11 1 true (.object "HonestGold$Treasury") := ⟨RX11, TX11, 10, tyX11, rfl, by decide, inX11, aw_mem 274 (by decide +kernel) (by decide +kernel), rfl, (by decide +kernel), tyX11_ok, nmX11, fun _ => rfl⟩
theorem flX11_19 : aw_fl RX11 19 11 2 := ⟨RX11, TX11, 10, rfl, by decide, inX11, aw_mem 275 (by decide +kernel) (by decide +kernel)⟩
theorem fpX11_19 : aw_fp RX11 19 11 2 true (.array (.object "HonestGold$Treasury")) := ⟨RX11, TX11, 10, tyX11, rfl, by decide, inX11, aw_mem 275 (by decide +kernel) (by decide +kernel), rfl, (by decide +kernel), tyX11_ok, nmX11, fun _ => rfl⟩
theorem flX11_26 : aw_fl RX11 26 11 3 := ⟨RX11, TX11, 10, rfl, by decide, inX11, aw_mem 276 (by decide +kernel) (by decide +kernel)⟩
theorem fpX11_26 : aw_fp RX11 26 11 3 true (.object "HonestGold$Reader") := ⟨RX11, TX11, 10, tyX11, rfl, by decide, inX11, aw_mem 276 (by decide +kernel) (by decide +kernel), rfl, (by decide +kernel), tyX11_ok, nmX11, fun _ => rfl⟩
theorem flX11_33 : aw_fl RX11 33 11 4 := ⟨RX11, TX11, 10, rfl, by decide, inX11, aw_mem 277 (by decide +kernel) (by decide +kernel)⟩
theorem fpX11_33 : aw_fp RX11 33 11 4 true (.object "HonestGold$Ways") := ⟨RX11, TX11, 10, tyX11, rfl, by decide, inX11, aw_mem 277 (by decide +kernel) (by decide +kernel), rfl, (by decide +kernel), tyX11_ok, nmX11, fun _ => rfl⟩
theorem flX11_37 : aw_fl RX11 37 11 5 := ⟨RX11, TX11, 10, rfl, by decide, inX11, aw_mem 278 (by decide +kernel) (by decide +kernel)⟩
theorem fpX11_37 : aw_fp RX11 37 11 5 false .long := ⟨RX11, TX11, 10, tyX11, rfl, by decide, inX11, aw_mem 278 (by decide +kernel) (by decide +kernel), rfl, (by decide +kernel), tyX11_ok, nmX11, fun h => by cases h⟩
theorem flX11_41 : aw_fl RX11 41 11 6 := ⟨RX11, TX11, 10, rfl, by decide, inX11, aw_mem 279 (by decide +kernel) (by decide +kernel)⟩
theorem fpX11_41 : aw_fp RX11 41 11 6 false .long := ⟨RX11, TX11, 10, tyX11, rfl, by decide, inX11, aw_mem 279 (by decide +kernel) (by decide +kernel), rfl, (by decide +kernel), tyX11_ok, nmX11, fun h => by cases h⟩
theorem flX11_231 : aw_fl RX11 231 11 7 := ⟨RX11, TX11, 10, rfl, by decide, inX11, aw_mem 280 (by decide +kernel) (by decide +kernel)⟩
theorem fpX11_231 : aw_fp RX11 231 11 7 false .int := ⟨RX11, TX11, 10, tyX11, rfl, by decide, inX11, aw_mem 280 (by decide +kernel) (by decide +kernel), rfl, (by decide +kernel), tyX11_ok, nmX11, fun h => by cases h⟩
theorem flX11_235 : aw_fl RX11 235 11 8 := ⟨RX11, TX11, 10, rfl, by decide, inX11, aw_mem 281 (by decide +kernel) (by decide +kernel)⟩
theorem fpX11_235 : aw_fp RX11 235 11 8 false .int := ⟨RX11, TX11, 10, tyX11, rfl, by decide, inX11, aw_mem 281 (by decide +kernel) (by decide +kernel), rfl, (by decide +kernel), tyX11_ok, nmX11, fun h => by cases h⟩
theorem flX11_238 : aw_fl RX11 238 11 9 := ⟨RX11, TX11, 10, rfl, by decide, inX11, aw_mem 282 (by decide +kernel) (by decide +kernel)⟩
theorem fpX11_238 : aw_fp RX11 238 11 9 false .int := ⟨RX11, TX11, 10, tyX11, rfl, by decide, inX11, aw_mem 282 (by decide +kernel) (by decide +kernel), rfl, (by decide +kernel), tyX11_ok, nmX11, fun h => by cases h⟩
theorem flX12_1 : aw_fl RX12 1 12 0 := ⟨RX12, TX12, 33, rfl, by decide, inX12, aw_mem 970 (by decide +kernel) (by decide +kernel)⟩
theorem fpX12_1 : aw_fp RX12 1 12 0 true (.array .int) := ⟨RX12, TX12, 33, tyX12, rfl, by decide, inX12, aw_mem 970 (by decide +kernel) (by decide +kernel), rfl, (by decide +kernel), tyX12_ok, nmX12, fun _ => rfl⟩
theorem flX12_77 : aw_fl RX12 77 12 1 := ⟨RX12, TX12, 33, rfl, by decide, inX12, aw_mem 971 (by decide +kernel) (by decide +kernel)⟩
theorem fpX12_77 : aw_fp RX12 77 12 1 false .int := ⟨RX12, TX12, 33, tyX12, rfl, by decide, inX12, aw_mem 971 (by decide +kernel) (by decide +kernel), rfl, (by decide +kernel), tyX12_ok, nmX12, fun h => by cases h⟩
theorem flX12_81 : aw_fl RX12 81 12 2 := ⟨RX12, TX12, 33, rfl, by decide, inX12, aw_mem 972 (by decide +kernel) (by decide +kernel)⟩
theorem fpX12_81 : aw_fp RX12 81 12 2 false .int := ⟨RX12, TX12, 33, tyX12, rfl, by decide, inX12, aw_mem 972 (by decide +kernel) (by decide +kernel), rfl, (by decide +kernel), tyX12_ok, nmX12, fun h => by cases h⟩
theorem flX12_84 : aw_fl RX12 84 12 3 := ⟨RX12, TX12, 33, rfl, by decide, inX12, aw_mem 973 (by decide +kernel) (by decide +kernel)⟩
theorem fpX12_84 : aw_fp RX12 84 12 3 false .int := ⟨RX12, TX12, 33, tyX12, rfl, by decide, inX12, aw_mem 973 (by decide +kernel) (by decide +kernel), rfl, (by decide +kernel), tyX12_ok, nmX12, fun h => by cases h⟩
theorem flX12_87 : aw_fl RX12 87 12 4 := ⟨RX12, TX12, 33, rfl, by decide, inX12, aw_mem 974 (by decide +kernel) (by decide +kernel)⟩
theorem fpX12_87 : aw_fp RX12 87 12 4 false .int := ⟨RX12, TX12, 33, tyX12, rfl, by decide, inX12, aw_mem 974 (by decide +kernel) (by decide +kernel), rfl, (by decide +kernel), tyX12_ok, nmX12, fun h => by cases h⟩
theorem flX12_13 : aw_fl RX12 13 12 5 := ⟨RX12, TX12, 33, rfl, by decide, inX12, aw_mem 975 (by decide +kernel) (by decide +kernel)⟩
theorem fpX12_13 : aw_fp RX12 13 12 5 true (.array .int) := ⟨RX12, TX12, 33, tyX12, rfl, by decide, inX12, aw_mem 975 (by decide +kernel) (by decide +kernel), rfl, (by decide +kernel), tyX12_ok, nmX12, fun _ => rfl⟩
theorem flX12_16 : aw_fl RX12 16 12 6 := ⟨RX12, TX12, 33, rfl, by decide, inX12, aw_mem 976 (by decide +kernel) (by decide +kernel)⟩
theorem fpX12_16 : aw_fp RX12 16 12 6 true (.array .int) := ⟨RX12, TX12, 33, tyX12, rfl, by decide, inX12, aw_mem 976 (by decide +kernel) (by decide +kernel), rfl, (by decide +kernel), tyX12_ok, nmX12, fun _ => rfl⟩
theorem flX12_19 : aw_fl RX12 19 12 7 := ⟨RX12, TX12, 33, rfl, by decide, inX12, aw_mem 977 (by decide +kernel) (by decide +kernel)⟩
theorem fpX12_19 : aw_fp RX12 19 12 7 true (.array .int) := ⟨RX12, TX12, 33, tyX12, rfl, by decide, inX12, aw_mem 977 (by decide +kernel) (by decide +kernel), rfl, (by decide +kernel), tyX12_ok, nmX12, fun _ => rfl⟩
theorem flX12_22 : aw_fl RX12 22 12 8 := ⟨RX12, TX12, 33, rfl, by decide, inX12, aw_mem 978 (by decide +kernel) (by decide +kernel)⟩
theorem fpX12_22 : aw_fp RX12 22 12 8 true (.array .int) := ⟨RX12, TX12, 33, tyX12, rfl, by decide, inX12, aw_mem 978 (by decide +kernel) (by decide +kernel), rfl, (by decide +kernel), tyX12_ok, nmX12, fun _ => rfl⟩
theorem flX12_25 : aw_fl RX12 25 12 9 := ⟨RX12, TX12, 33, rfl, by decide, inX12, aw_mem 979 (by decide +kernel) (by decide +kernel)⟩
theorem fpX12_25 : aw_fp RX12 25 12 9 true (.array .int) := ⟨RX12, TX12, 33, tyX12, rfl, by decide, inX12, aw_mem 979 (by decide +kernel) (by decide +kernel), rfl, (by decide +kernel), tyX12_ok, nmX12, fun _ => rfl⟩
theorem flX12_28 : aw_fl RX12 28 12 10 := ⟨RX12, TX12, 33, rfl, by decide, inX12, aw_mem 980 (by decide +kernel) (by decide +kernel)⟩
theorem fpX12_28 : aw_fp RX12 28 12 10 true (.array .int) := ⟨RX12, TX12, 33, tyX12, rfl, by decide, inX12, aw_mem 980 (by decide +kernel) (by decide +kernel), rfl, (by decide +kernel), tyX12_ok, nmX12, fun _ => rfl⟩
theorem flX12_31 : aw_fl RX12 31 12 11 := ⟨RX12, TX12, 33, rfl, by decide, inX12, aw_mem 981 (by decide +kernel) (by decide +kernel)⟩
theorem fpX12_31 : aw_fp RX12 31 12 11 true (.array .int) := ⟨RX12, TX12, 33, tyX12, rfl, by decide, inX12, aw_mem 981 (by decide +kernel) (by decide +kernel), rfl, (by decide +kernel), tyX12_ok, nmX12, fun _ => rfl⟩
theorem flX12_34 : aw_fl RX12 34 12 12 := ⟨RX12, TX12, 33, rfl, by decide, inX12, aw_mem 982 (by decide +kernel) (by decide +kernel)⟩
theorem fpX12_34 : aw_fp RX12 34 12 12 true (.array .int) := ⟨RX12, TX12, 33, tyX12, rfl, by decide, inX12, aw_mem 982 (by decide +kernel) (by decide +kernel), rfl, (by decide +kernel), tyX12_ok, nmX12, fun _ => rfl⟩
theorem flX12_37 : aw_fl RX12 37 12 13 := ⟨RX12, TX12, 33, rfl, by decide, inX12, aw_mem 983 (by decide +kernel) (by decide +kernel)⟩
theorem fpX12_37 : aw_fp RX12 37 12 13 true (.array .int) := ⟨RX12, TX12, 33, tyX12, rfl, by decide, inX12, aw_mem 983 (by decide +kernel) (by decide +kernel), rfl, (by decide +kernel), tyX12_ok, nmX12, fun _ => rfl⟩
theorem flX12_40 : aw_fl RX12 40 12 14 := ⟨RX12, TX12, 33, rfl, by decide, inX12, aw_mem 984 (by decide +kernel) (by decide +kernel)⟩
theorem fpX12_40 : aw_fp RX12 40 12 14 true (.array .int) := ⟨RX12, TX12, 33, tyX12, rfl, by decide, inX12, aw_mem 984 (by decide +kernel) (by decide +kernel), rfl, (by decide +kernel), tyX12_ok, nmX12, fun _ => rfl⟩
theorem flX12_112 : aw_fl RX12 112 12 15 := ⟨RX12, TX12, 33, rfl, by decide, inX12, aw_mem 985 (by decide +kernel) (by decide +kernel)⟩
theorem fpX12_112 : aw_fp RX12 112 12 15 false .int := ⟨RX12, TX12, 33, tyX12, rfl, by decide, inX12, aw_mem 985 (by decide +kernel) (by decide +kernel), rfl, (by decide +kernel), tyX12_ok, nmX12, fun h => by cases h⟩
theorem flX12_115 : aw_fl RX12 115 12 16 := ⟨RX12, TX12, 33, rfl, by decide, inX12, aw_mem 986 (by decide +kernel) (by decide +kernel)⟩
theorem fpX12_115 : aw_fp RX12 115 12 16 false .int := ⟨RX12, TX12, 33, tyX12, rfl, by decide, inX12, aw_mem 986 (by decide +kernel) (by decide +kernel), rfl, (by decide +kernel), tyX12_ok, nmX12, fun h => by cases h⟩
theorem flX12_144 : aw_fl RX12 144 12 17 := ⟨RX12, TX12, 33, rfl, by decide, inX12, aw_mem 987 (by decide +kernel) (by decide +kernel)⟩
theorem fpX12_144 : aw_fp RX12 144 12 17 false .int := ⟨RX12, TX12, 33, tyX12, rfl, by decide, inX12, aw_mem 987 (by decide +kernel) (by decide +kernel), rfl, (by decide +kernel), tyX12_ok, nmX12, fun h => by cases h⟩
theorem flX12_159 : aw_fl RX12 159 12 18 := ⟨RX12, TX12, 33, rfl, by decide, inX12, aw_mem 988 (by decide +kernel) (by decide +kernel)⟩
theorem fpX12_159 : aw_fp RX12 159 12 18 false .int := ⟨RX12, TX12, 33, tyX12, rfl, by decide, inX12, aw_mem 988 (by decide +kernel) (by decide +kernel), rfl, (by decide +kernel), tyX12_ok, nmX12, fun h => by cases h⟩
theorem flX12_43 : aw_fl RX12 43 12 19 := ⟨RX12, TX12, 33, rfl, by decide, inX12, aw_mem 989 (by decide +kernel) (by decide +kernel)⟩
theorem fpX12_43 : aw_fp RX12 43 12 19 true (.array .int) := ⟨RX12, TX12, 33, tyX12, rfl, by decide, inX12, aw_mem 989 (by decide +kernel) (by decide +kernel), rfl, (by decide +kernel), tyX12_ok, nmX12, fun _ => rfl⟩
theorem flX12_141 : aw_fl RX12 141 12 20 := ⟨RX12, TX12, 33, rfl, by decide, inX12, aw_mem 990 (by decide +kernel) (by decide +kernel)⟩
theorem fpX12_141 : aw_fp RX12 141 12 20 false .int := ⟨RX12, TX12, 33, tyX12, rfl, by decide, inX12, aw_mem 990 (by decide +kernel) (by decide +kernel), rfl, (by decide +kernel), tyX12_ok, nmX12, fun h => by cases h⟩
theorem flX12_46 : aw_fl RX12 46 12 21 := ⟨RX12, TX12, 33, rfl, by decide, inX12, aw_mem 991 (by decide +kernel) (by decide +kernel)⟩
theorem fpX12_46 : aw_fp RX12 46 12 21 true (.array .int) := ⟨RX12, TX12, 33, tyX12, rfl, by decide, inX12, aw_mem 991 (by decide +kernel) (by decide +kernel), rfl, (by decide +kernel), tyX12_ok, nmX12, fun _ => rfl⟩
theorem flX12_90 : aw_fl RX12 90 12 22 := ⟨RX12, TX12, 33, rfl, by decide, inX12, aw_mem 992 (by decide +kernel) (by decide +kernel)⟩
theorem fpX12_90 : aw_fp RX12 90 12 22 false .int := ⟨RX12, TX12, 33, tyX12, rfl, by decide, inX12, aw_mem 992 (by decide +kernel) (by decide +kernel), rfl, (by decide +kernel), tyX12_ok, nmX12, fun h => by cases h⟩
theorem flX12_49 : aw_fl RX12 49 12 23 := ⟨RX12, TX12, 33, rfl, by decide, inX12, aw_mem 993 (by decide +kernel) (by decide +kernel)⟩
theorem fpX12_49 : aw_fp RX12 49 12 23 true (.array .int) := ⟨RX12, TX12, 33, tyX12, rfl, by decide, inX12, aw_mem 993 (by decide +kernel) (by decide +kernel), rfl, (by decide +kernel), tyX12_ok, nmX12, fun _ => rfl⟩
theorem flX12_52 : aw_fl RX12 52 12 24 := ⟨RX12, TX12, 33, rfl, by decide, inX12, aw_mem 994 (by decide +kernel) (by decide +kernel)⟩
theorem fpX12_52 : aw_fp RX12 52 12 24 true (.array .int) := ⟨RX12, TX12, 33, tyX12, rfl, by decide, inX12, aw_mem 994 (by decide +kernel) (by decide +kernel), rfl, (by decide +kernel), tyX12_ok, nmX12, fun _ => rfl⟩
theorem flX12_55 : aw_fl RX12 55 12 25 := ⟨RX12, TX12, 33, rfl, by decide, inX12, aw_mem 995 (by decide +kernel) (by decide +kernel)⟩
theorem fpX12_55 : aw_fp RX12 55 12 25 true (.array .int) := ⟨RX12, TX12, 33, tyX12, rfl, by decide, inX12, aw_mem 995 (by decide +kernel) (by decide +kernel), rfl, (by decide +kernel), tyX12_ok, nmX12, fun _ => rfl⟩
theorem flX12_58 : aw_fl RX12 58 12 26 := ⟨RX12, TX12, 33, rfl, by decide, inX12, aw_mem 996 (by decide +kernel) (by decide +kernel)⟩
theorem fpX12_58 : aw_fp RX12 58 12 26 true (.array .int) := ⟨RX12, TX12, 33, tyX12, rfl, by decide, inX12, aw_mem 996 (by decide +kernel) (by decide +kernel), rfl, (by decide +kernel), tyX12_ok, nmX12, fun _ => rfl⟩
theorem flX12_61 : aw_fl RX12 61 12 27 := ⟨RX12, TX12, 33, rfl, by decide, inX12, aw_mem 997 (by decide +kernel) (by decide +kernel)⟩
theorem fpX12_61 : aw_fp RX12 61 12 27 true (.array .int) := ⟨RX12, TX12, 33, tyX12, rfl, by decide, inX12, aw_mem 997 (by decide +kernel) (by decide +kernel), rfl, (by decide +kernel), tyX12_ok, nmX12, fun _ => rfl⟩
theorem flX12_242 : aw_fl RX12 242 12 28 := ⟨RX12, TX12, 33, rfl, by decide, inX12, aw_mem 998 (by decide +kernel) (by decide +kernel)⟩
theorem fpX12_242 : aw_fp RX12 242 12 28 false .long := ⟨RX12, TX12, 33, tyX12, rfl, by decide, inX12, aw_mem 998 (by decide +kernel) (by decide +kernel), rfl, (by decide +kernel), tyX12_ok, nmX12, fun h => by cases h⟩
theorem flX12_64 : aw_fl RX12 64 12 29 := ⟨RX12, TX12, 33, rfl, by decide, inX12, aw_mem 999 (by decide +kernel) (by decide +kernel)⟩
theorem fpX12_64 : aw_fp RX12 64 12 29 false .long := ⟨RX12, TX12, 33, tyX12, rfl, by decide, inX12, aw_mem 999 (by decide +kernel) (by decide +kernel), rfl, (by decide +kernel), tyX12_ok, nmX12, fun h => by cases h⟩
theorem flX12_68 : aw_fl RX12 68 12 30 := ⟨RX12, TX12, 33, rfl, by decide, inX12, aw_mem 1000 (by decide +kernel) (by decide +kernel)⟩
theorem fpX12_68 : aw_fp RX12 68 12 30 true (.array .int) := ⟨RX12, TX12, 33, tyX12, rfl, by decide, inX12, aw_mem 1000 (by decide +kernel) (by decide +kernel), rfl, (by decide +kernel), tyX12_ok, nmX12, fun _ => rfl⟩
theorem flX12_71 : aw_fl RX12 71 12 31 := ⟨RX12, TX12, 33, rfl, by decide, inX12, aw_mem 1001 (by decide +kernel) (by decide +kernel)⟩
theorem fpX12_71 : aw_fp RX12 71 12 31 true (.array .int) := ⟨RX12, TX12, 33, tyX12, rfl, by decide, inX12, aw_mem 1001 (by decide +kernel) (by decide +kernel), rfl, (by decide +kernel), tyX12_ok, nmX12, fun _ => rfl⟩
theorem flX12_286 : aw_fl RX12 286 12 32 := ⟨RX12, TX12, 33, rfl, by decide, inX12, aw_mem 1002 (by decide +kernel) (by decide +kernel)⟩
theorem fpX12_286 : aw_fp RX12 286 12 32 false .long := ⟨RX12, TX12, 33, tyX12, rfl, by decide, inX12, aw_mem 1002 (by decide +kernel) (by decide +kernel), rfl, (by decide +kernel), tyX12_ok, nmX12, fun h => by cases h⟩
theorem kkL_7 : Cond.classLink RL 7 RX11 ∈ aw_T := aw_mem 95 (by decide +kernel) (by decide +kernel)
theorem nwL_7 : aw_nw RL 7 11 [.null, .null, .null, .null, .null, .long 0, .long 0, .int 0, .int 0, .int 0] 10 := ⟨RX11, TX11, tyX11, rfl, inX11, tyX11_ok, aw_mem 95 (by decide +kernel) (by decide +kernel), aw_mem 96 (by decide +kernel) (by decide +kernel), aw_mem 76 (by decide +kernel) (by decide +kernel), by decide +kernel⟩
theorem ciL_9 : aw_cI RL 9 mX11_init := ⟨aw_mem 97 (by decide +kernel) (by decide +kernel), aw_mem 98 (by decide +kernel) (by decide +kernel), rfl, rfl⟩
theorem oiX11_1 : Cond.methodLink RX11 1 objectInit ∈ aw_T := aw_mem 100 (by decide +kernel) (by decide +kernel)
theorem kkX11_7 : Cond.classLink RX11 7 RX9 ∈ aw_T := aw_mem 103 (by decide +kernel) (by decide +kernel)
theorem nwX11_7 : aw_nw RX11 7 9 [.null, .null, .null, .null, .null, .null, .null, .null, .null, .int 0, .int 0, .int 0] 12 := ⟨RX9, TX9, tyX9, rfl, inX9, tyX9_ok, aw_mem 103 (by decide +kernel) (by decide +kernel), aw_mem 104 (by decide +kernel) (by decide +kernel), aw_mem 77 (by decide +kernel) (by decide +kernel), by decide +kernel⟩
theorem ciX11_9 : aw_cI RX11 9 mX9_init := ⟨aw_mem 105 (by decide +kernel) (by decide +kernel), aw_mem 106 (by decide +kernel) (by decide +kernel), rfl, rfl⟩
theorem oiX9_3 : Cond.methodLink RX9 3 objectInit ∈ aw_T := aw_mem 108 (by decide +kernel) (by decide +kernel)
theorem kkX9_9 : Cond.classLink RX9 9 RX6 ∈ aw_T := aw_mem 109 (by decide +kernel) (by decide +kernel)
theorem nwX9_9 : aw_nw RX9 9 6 [] 0 := ⟨RX6, TX6, tyX6, rfl, inX6, tyX6_ok, aw_mem 109 (by decide +kernel) (by decide +kernel), aw_mem 110 (by decide +kernel) (by decide +kernel), aw_mem 78 (by decide +kernel) (by decide +kernel), by decide +kernel⟩
theorem ciX9_11 : aw_cI RX9 11 mX6_init := ⟨aw_mem 111 (by decide +kernel) (by decide +kernel), aw_mem 112 (by decide +kernel) (by decide +kernel), rfl, rfl⟩
theorem oiX6_1 : Cond.methodLink RX6 1 objectInit ∈ aw_T := aw_mem 114 (by decide +kernel) (by decide +kernel)
theorem kkX9_18 : Cond.classLink RX9 18 RX1 ∈ aw_T := aw_mem 117 (by decide +kernel) (by decide +kernel)
theorem nwX9_18 : aw_nw RX9 18 1 [] 0 := ⟨RX1, TX1, tyX1, rfl, inX1, tyX1_ok, aw_mem 117 (by decide +kernel) (by decide +kernel), aw_mem 118 (by decide +kernel) (by decide +kernel), aw_mem 79 (by decide +kernel) (by decide +kernel), by decide +kernel⟩
theorem ciX9_20 : aw_cI RX9 20 mX1_init := ⟨aw_mem 119 (by decide +kernel) (by decide +kernel), aw_mem 120 (by decide +kernel) (by decide +kernel), rfl, rfl⟩
theorem ciX1_3 : aw_cI RX1 3 mX6_init := ⟨aw_mem 122 (by decide +kernel) (by decide +kernel), aw_mem 112 (by decide +kernel) (by decide +kernel), rfl, rfl⟩
theorem kkX9_21 : Cond.classLink RX9 21 RX2 ∈ aw_T := aw_mem 124 (by decide +kernel) (by decide +kernel)
theorem nwX9_21 : aw_nw RX9 21 2 [] 0 := ⟨RX2, TX2, tyX2, rfl, inX2, tyX2_ok, aw_mem 124 (by decide +kernel) (by decide +kernel), aw_mem 125 (by decide +kernel) (by decide +kernel), aw_mem 80 (by decide +kernel) (by decide +kernel), by decide +kernel⟩
theorem ciX9_23 : aw_cI RX9 23 mX2_init := ⟨aw_mem 126 (by decide +kernel) (by decide +kernel), aw_mem 127 (by decide +kernel) (by decide +kernel), rfl, rfl⟩
theorem ciX2_1 : aw_cI RX2 1 mX6_init := ⟨aw_mem 129 (by decide +kernel) (by decide +kernel), aw_mem 112 (by decide +kernel) (by decide +kernel), rfl, rfl⟩
theorem kkX9_24 : Cond.classLink RX9 24 RX8 ∈ aw_T := aw_mem 131 (by decide +kernel) (by decide +kernel)
theorem nwX9_24 : aw_nw RX9 24 8 [] 0 := ⟨RX8, TX8, tyX8, rfl, inX8, tyX8_ok, aw_mem 131 (by decide +kernel) (by decide +kernel), aw_mem 132 (by decide +kernel) (by decide +kernel), aw_mem 81 (by decide +kernel) (by decide +kernel), by decide +kernel⟩
theorem ciX9_26 : aw_cI RX9 26 mX8_init := ⟨aw_mem 133 (by decide +kernel) (by decide +kernel), aw_mem 134 (by decide +kernel) (by decide +kernel), rfl, rfl⟩
theorem ciX8_1 : aw_cI RX8 1 mX6_init := ⟨aw_mem 136 (by decide +kernel) (by decide +kernel), aw_mem 112 (by decide +kernel) (by decide +kernel), rfl, rfl⟩
theorem kkX9_27 : Cond.classLink RX9 27 RX3 ∈ aw_T := aw_mem 138 (by decide +kernel) (by decide +kernel)
theorem nwX9_27 : aw_nw RX9 27 3 [] 0 := ⟨RX3, TX3, tyX3, rfl, inX3, tyX3_ok, aw_mem 138 (by decide +kernel) (by decide +kernel), aw_mem 139 (by decide +kernel) (by decide +kernel), aw_mem 82 (by decide +kernel) (by decide +kernel), by decide +kernel⟩
theorem ciX9_29 : aw_cI RX9 29 mX3_init := ⟨aw_mem 140 (by decide +kernel) (by decide +kernel), aw_mem 141 (by decide +kernel) (by decide +kernel), rfl, rfl⟩
theorem ciX3_1 : aw_cI RX3 1 mX2_init := ⟨aw_mem 143 (by decide +kernel) (by decide +kernel), aw_mem 127 (by decide +kernel) (by decide +kernel), rfl, rfl⟩
theorem kkX9_30 : Cond.classLink RX9 30 RX0 ∈ aw_T := aw_mem 145 (by decide +kernel) (by decide +kernel)
theorem nwX9_30 : aw_nw RX9 30 0 [] 0 := ⟨RX0, TX0, tyX0, rfl, inX0, tyX0_ok, aw_mem 145 (by decide +kernel) (by decide +kernel), aw_mem 146 (by decide +kernel) (by decide +kernel), aw_mem 83 (by decide +kernel) (by decide +kernel), by decide +kernel⟩
theorem ciX9_32 : aw_cI RX9 32 mX0_init := ⟨aw_mem 147 (by decide +kernel) (by decide +kernel), aw_mem 148 (by decide +kernel) (by decide +kernel), rfl, rfl⟩
theorem ciX0_3 : aw_cI RX0 3 mX8_init := ⟨aw_mem 150 (by decide +kernel) (by decide +kernel), aw_mem 134 (by decide +kernel) (by decide +kernel), rfl, rfl⟩
theorem kkX9_53 : Cond.classLink RX9 53 RX4 ∈ aw_T := aw_mem 152 (by decide +kernel) (by decide +kernel)
theorem nwX9_53 : aw_nw RX9 53 4 [.null, .null, .null, .null, .int 0] 5 := ⟨RX4, TX4, tyX4, rfl, inX4, tyX4_ok, aw_mem 152 (by decide +kernel) (by decide +kernel), aw_mem 153 (by decide +kernel) (by decide +kernel), aw_mem 84 (by decide +kernel) (by decide +kernel), by decide +kernel⟩
theorem ciX9_55 : aw_cI RX9 55 mX4_init := ⟨aw_mem 154 (by decide +kernel) (by decide +kernel), aw_mem 155 (by decide +kernel) (by decide +kernel), rfl, rfl⟩
theorem oiX4_3 : Cond.methodLink RX4 3 objectInit ∈ aw_T := aw_mem 157 (by decide +kernel) (by decide +kernel)
theorem kkX9_60 : Cond.classLink RX9 60 RX5 ∈ aw_T := aw_mem 175 (by decide +kernel) (by decide +kernel)
theorem nwX9_60 : aw_nw RX9 60 5 [.null, .int 0] 2 := ⟨RX5, TX5, tyX5, rfl, inX5, tyX5_ok, aw_mem 175 (by decide +kernel) (by decide +kernel), aw_mem 176 (by decide +kernel) (by decide +kernel), aw_mem 85 (by decide +kernel) (by decide +kernel), by decide +kernel⟩
theorem ciX9_62 : aw_cI RX9 62 mX5_init := ⟨aw_mem 177 (by decide +kernel) (by decide +kernel), aw_mem 178 (by decide +kernel) (by decide +kernel), rfl, rfl⟩
theorem oiX5_5 : Cond.methodLink RX5 5 objectInit ∈ aw_T := aw_mem 180 (by decide +kernel) (by decide +kernel)
theorem kkX11_23 : Cond.classLink RX11 23 RX7 ∈ aw_T := aw_mem 226 (by decide +kernel) (by decide +kernel)
theorem nwX11_23 : aw_nw RX11 23 7 [.null, .int 0, .int 0, .int 0, .int 0, .int 0, .int 0] 7 := ⟨RX7, TX7, tyX7, rfl, inX7, tyX7_ok, aw_mem 226 (by decide +kernel) (by decide +kernel), aw_mem 227 (by decide +kernel) (by decide +kernel), aw_mem 86 (by decide +kernel) (by decide +kernel), by decide +kernel⟩
theorem ciX11_25 : aw_cI RX11 25 mX7_init := ⟨aw_mem 228 (by decide +kernel) (by decide +kernel), aw_mem 229 (by decide +kernel) (by decide +kernel), rfl, rfl⟩
theorem oiX7_3 : Cond.methodLink RX7 3 objectInit ∈ aw_T := aw_mem 231 (by decide +kernel) (by decide +kernel)
theorem kkX11_30 : Cond.classLink RX11 30 RX10 ∈ aw_T := aw_mem 254 (by decide +kernel) (by decide +kernel)
theorem nwX11_30 : aw_nw RX11 30 10 [.null, .null, .null, .null] 4 := ⟨RX10, TX10, tyX10, rfl, inX10, tyX10_ok, aw_mem 254 (by decide +kernel) (by decide +kernel), aw_mem 255 (by decide +kernel) (by decide +kernel), aw_mem 87 (by decide +kernel) (by decide +kernel), by decide +kernel⟩
theorem ciX11_32 : aw_cI RX11 32 mX10_init := ⟨aw_mem 256 (by decide +kernel) (by decide +kernel), aw_mem 257 (by decide +kernel) (by decide +kernel), rfl, rfl⟩
theorem oiX10_3 : Cond.methodLink RX10 3 objectInit ∈ aw_T := aw_mem 259 (by decide +kernel) (by decide +kernel)
theorem cvL_13 : aw_cV RL 13 11 mX11_gold := ⟨(RX11, TX11, 10), rfl, aw_mem 304 (by decide +kernel) (by decide +kernel), aw_mem 305 (by decide +kernel) (by decide +kernel), aw_mem 306 (by decide +kernel) (by decide +kernel)⟩
theorem cvX11_44 : aw_cV RX11 44 9 mX9_people := ⟨(RX9, TX9, 12), rfl, aw_mem 308 (by decide +kernel) (by decide +kernel), aw_mem 309 (by decide +kernel) (by decide +kernel), aw_mem 310 (by decide +kernel) (by decide +kernel)⟩
theorem cvX11_48 : aw_cV RX11 48 9 mX9_empty := ⟨(RX9, TX9, 12), rfl, aw_mem 312 (by decide +kernel) (by decide +kernel), aw_mem 313 (by decide +kernel) (by decide +kernel), aw_mem 314 (by decide +kernel) (by decide +kernel)⟩
theorem cvX9_77 : aw_cV RX9 77 4 mX4_drop := ⟨(RX4, TX4, 5), rfl, aw_mem 316 (by decide +kernel) (by decide +kernel), aw_mem 317 (by decide +kernel) (by decide +kernel), aw_mem 318 (by decide +kernel) (by decide +kernel)⟩
theorem cvX9_80 : aw_cV RX9 80 5 mX5_drop := ⟨(RX5, TX5, 2), rfl, aw_mem 320 (by decide +kernel) (by decide +kernel), aw_mem 321 (by decide +kernel) (by decide +kernel), aw_mem 322 (by decide +kernel) (by decide +kernel)⟩
theorem cvL_18 : aw_cV RL 18 11 mX11_one := ⟨(RX11, TX11, 10), rfl, aw_mem 324 (by decide +kernel) (by decide +kernel), aw_mem 325 (by decide +kernel) (by decide +kernel), aw_mem 326 (by decide +kernel) (by decide +kernel)⟩
theorem csX11_51 : aw_cS RX11 51 mX11_within := ⟨aw_mem 328 (by decide +kernel) (by decide +kernel), aw_mem 329 (by decide +kernel) (by decide +kernel)⟩
theorem cvX11_55 : aw_cV RX11 55 11 mX11_refuseBad := ⟨(RX11, TX11, 10), rfl, aw_mem 331 (by decide +kernel) (by decide +kernel), aw_mem 333 (by decide +kernel) (by decide +kernel), aw_mem 0 (by decide +kernel) (by decide +kernel)⟩
theorem cvX11_58 : aw_cV RX11 58 11 mX11_refuseFull := ⟨(RX11, TX11, 10), rfl, aw_mem 335 (by decide +kernel) (by decide +kernel), aw_mem 337 (by decide +kernel) (by decide +kernel), aw_mem 1 (by decide +kernel) (by decide +kernel)⟩
theorem cvX11_61 : aw_cV RX11 61 9 mX9_forgetSteps := ⟨(RX9, TX9, 12), rfl, aw_mem 339 (by decide +kernel) (by decide +kernel), aw_mem 340 (by decide +kernel) (by decide +kernel), aw_mem 341 (by decide +kernel) (by decide +kernel)⟩
theorem cvX11_64 : aw_cV RX11 64 9 mX9_join := ⟨(RX9, TX9, 12), rfl, aw_mem 343 (by decide +kernel) (by decide +kernel), aw_mem 344 (by decide +kernel) (by decide +kernel), aw_mem 345 (by decide +kernel) (by decide +kernel)⟩
theorem cvL_23 : aw_cV RL 23 11 mX11_hands := ⟨(RX11, TX11, 10), rfl, aw_mem 347 (by decide +kernel) (by decide +kernel), aw_mem 348 (by decide +kernel) (by decide +kernel), aw_mem 349 (by decide +kernel) (by decide +kernel)⟩
theorem cvX11_68 : aw_cV RX11 68 11 mX11_twoOfThem := ⟨(RX11, TX11, 10), rfl, aw_mem 351 (by decide +kernel) (by decide +kernel), aw_mem 353 (by decide +kernel) (by decide +kernel), aw_mem 2 (by decide +kernel) (by decide +kernel)⟩
theorem cvX11_100 : aw_cV RX11 100 9 mX9_isThere := ⟨(RX9, TX9, 12), rfl, aw_mem 355 (by decide +kernel) (by decide +kernel), aw_mem 356 (by decide +kernel) (by decide +kernel), aw_mem 357 (by decide +kernel) (by decide +kernel)⟩
theorem cvX11_72 : aw_cV RX11 72 9 mX9_handsOf := ⟨(RX9, TX9, 12), rfl, aw_mem 359 (by decide +kernel) (by decide +kernel), aw_mem 360 (by decide +kernel) (by decide +kernel), aw_mem 361 (by decide +kernel) (by decide +kernel)⟩
theorem cvX9_88 : aw_cV RX9 88 9 mX9_isThere := ⟨(RX9, TX9, 12), rfl, aw_mem 363 (by decide +kernel) (by decide +kernel), aw_mem 356 (by decide +kernel) (by decide +kernel), aw_mem 357 (by decide +kernel) (by decide +kernel)⟩
theorem cvX11_76 : aw_cV RX11 76 9 mX9_tellHands := ⟨(RX9, TX9, 12), rfl, aw_mem 364 (by decide +kernel) (by decide +kernel), aw_mem 365 (by decide +kernel) (by decide +kernel), aw_mem 366 (by decide +kernel) (by decide +kernel)⟩
theorem cvL_28 : aw_cV RL 28 11 mX11_type := ⟨(RX11, TX11, 10), rfl, aw_mem 368 (by decide +kernel) (by decide +kernel), aw_mem 369 (by decide +kernel) (by decide +kernel), aw_mem 370 (by decide +kernel) (by decide +kernel)⟩
theorem cvX11_80 : aw_cV RX11 80 7 mX7_length := ⟨(RX7, TX7, 7), rfl, aw_mem 372 (by decide +kernel) (by decide +kernel), aw_mem 373 (by decide +kernel) (by decide +kernel), aw_mem 374 (by decide +kernel) (by decide +kernel)⟩
theorem cvX11_83 : aw_cV RX11 83 7 mX7_append := ⟨(RX7, TX7, 7), rfl, aw_mem 376 (by decide +kernel) (by decide +kernel), aw_mem 377 (by decide +kernel) (by decide +kernel), aw_mem 378 (by decide +kernel) (by decide +kernel)⟩
theorem cvL_33 : aw_cV RL 33 11 mX11_clear := ⟨(RX11, TX11, 10), rfl, aw_mem 380 (by decide +kernel) (by decide +kernel), aw_mem 381 (by decide +kernel) (by decide +kernel), aw_mem 382 (by decide +kernel) (by decide +kernel)⟩
theorem cvX11_86 : aw_cV RX11 86 7 mX7_drop := ⟨(RX7, TX7, 7), rfl, aw_mem 384 (by decide +kernel) (by decide +kernel), aw_mem 385 (by decide +kernel) (by decide +kernel), aw_mem 386 (by decide +kernel) (by decide +kernel)⟩
theorem cvL_37 : aw_cV RL 37 11 mX11_read := ⟨(RX11, TX11, 10), rfl, aw_mem 388 (by decide +kernel) (by decide +kernel), aw_mem 389 (by decide +kernel) (by decide +kernel), aw_mem 390 (by decide +kernel) (by decide +kernel)⟩
theorem cvX11_89 : aw_cV RX11 89 7 mX7_readInto := ⟨(RX7, TX7, 7), rfl, aw_mem 392 (by decide +kernel) (by decide +kernel), aw_mem 393 (by decide +kernel) (by decide +kernel), aw_mem 394 (by decide +kernel) (by decide +kernel)⟩
theorem cvX7_22 : aw_cV RX7 22 9 mX9_empty := ⟨(RX9, TX9, 12), rfl, aw_mem 396 (by decide +kernel) (by decide +kernel), aw_mem 313 (by decide +kernel) (by decide +kernel), aw_mem 314 (by decide +kernel) (by decide +kernel)⟩
theorem cvX7_30 : aw_cV RX7 30 7 mX7_step := ⟨(RX7, TX7, 7), rfl, aw_mem 397 (by decide +kernel) (by decide +kernel), aw_mem 399 (by decide +kernel) (by decide +kernel), aw_mem 3 (by decide +kernel) (by decide +kernel)⟩
theorem cvX7_104 : aw_cV RX7 104 7 mX7_runEnd := ⟨(RX7, TX7, 7), rfl, aw_mem 401 (by decide +kernel) (by decide +kernel), aw_mem 403 (by decide +kernel) (by decide +kernel), aw_mem 4 (by decide +kernel) (by decide +kernel)⟩
theorem cvX7_96 : aw_cV RX7 96 7 mX7_byteAt := ⟨(RX7, TX7, 7), rfl, aw_mem 405 (by decide +kernel) (by decide +kernel), aw_mem 407 (by decide +kernel) (by decide +kernel), aw_mem 5 (by decide +kernel) (by decide +kernel)⟩
theorem cvX7_108 : aw_cV RX7 108 7 mX7_numberBetween := ⟨(RX7, TX7, 7), rfl, aw_mem 409 (by decide +kernel) (by decide +kernel), aw_mem 411 (by decide +kernel) (by decide +kernel), aw_mem 6 (by decide +kernel) (by decide +kernel)⟩
theorem cvX7_33 : aw_cV RX7 33 7 mX7_takeGold := ⟨(RX7, TX7, 7), rfl, aw_mem 413 (by decide +kernel) (by decide +kernel), aw_mem 415 (by decide +kernel) (by decide +kernel), aw_mem 7 (by decide +kernel) (by decide +kernel)⟩
theorem cvX7_41 : aw_cV RX7 41 7 mX7_isWord := ⟨(RX7, TX7, 7), rfl, aw_mem 418 (by decide +kernel) (by decide +kernel), aw_mem 420 (by decide +kernel) (by decide +kernel), aw_mem 8 (by decide +kernel) (by decide +kernel)⟩
theorem csJ0_495 : aw_cS RJ0 495 mJ1_charAt_3b067 := ⟨aw_mem 440 (by decide +kernel) (by decide +kernel), aw_mem 441 (by decide +kernel) (by decide +kernel)⟩
theorem csJ1_9 : aw_cS RJ1 9 mJ0_checkIndex_df160 := ⟨aw_mem 443 (by decide +kernel) (by decide +kernel), aw_mem 444 (by decide +kernel) (by decide +kernel)⟩
theorem csJ0_1059 : aw_cS RJ0 1059 mJ3_checkIndex_8e157 := ⟨aw_mem 448 (by decide +kernel) (by decide +kernel), aw_mem 449 (by decide +kernel) (by decide +kernel)⟩
theorem csJ0_498 : aw_cS RJ0 498 mJ2_charAt_3b067 := ⟨aw_mem 451 (by decide +kernel) (by decide +kernel), aw_mem 452 (by decide +kernel) (by decide +kernel)⟩
theorem csJ2_67 : aw_cS RJ2 67 mJ2_checkIndex_2214a := ⟨aw_mem 454 (by decide +kernel) (by decide +kernel), aw_mem 455 (by decide +kernel) (by decide +kernel)⟩
theorem csJ2_48 : aw_cS RJ2 48 mJ2_length_9d52b := ⟨aw_mem 457 (by decide +kernel) (by decide +kernel), aw_mem 458 (by decide +kernel) (by decide +kernel)⟩
theorem csJ2_414 : aw_cS RJ2 414 mJ0_checkIndex_df160 := ⟨aw_mem 460 (by decide +kernel) (by decide +kernel), aw_mem 444 (by decide +kernel) (by decide +kernel)⟩
theorem csJ2_71 : aw_cS RJ2 71 mJ2_getChar_3b067 := ⟨aw_mem 461 (by decide +kernel) (by decide +kernel), aw_mem 462 (by decide +kernel) (by decide +kernel)⟩
theorem cvX7_63 : aw_cV RX7 63 7 mX7_failHere := ⟨(RX7, TX7, 7), rfl, aw_mem 470 (by decide +kernel) (by decide +kernel), aw_mem 472 (by decide +kernel) (by decide +kernel), aw_mem 9 (by decide +kernel) (by decide +kernel)⟩
theorem cvX7_68 : aw_cV RX7 68 7 mX7_takeStop := ⟨(RX7, TX7, 7), rfl, aw_mem 474 (by decide +kernel) (by decide +kernel), aw_mem 476 (by decide +kernel) (by decide +kernel), aw_mem 10 (by decide +kernel) (by decide +kernel)⟩
theorem cvX7_45 : aw_cV RX7 45 9 mX9_people := ⟨(RX9, TX9, 12), rfl, aw_mem 479 (by decide +kernel) (by decide +kernel), aw_mem 309 (by decide +kernel) (by decide +kernel), aw_mem 310 (by decide +kernel) (by decide +kernel)⟩
theorem cvX7_49 : aw_cV RX7 49 7 mX7_takeOne := ⟨(RX7, TX7, 7), rfl, aw_mem 480 (by decide +kernel) (by decide +kernel), aw_mem 482 (by decide +kernel) (by decide +kernel), aw_mem 11 (by decide +kernel) (by decide +kernel)⟩
theorem cvX7_71 : aw_cV RX7 71 7 mX7_takeNumber := ⟨(RX7, TX7, 7), rfl, aw_mem 484 (by decide +kernel) (by decide +kernel), aw_mem 486 (by decide +kernel) (by decide +kernel), aw_mem 12 (by decide +kernel) (by decide +kernel)⟩
theorem cvX7_75 : aw_cV RX7 75 9 mX9_join := ⟨(RX9, TX9, 12), rfl, aw_mem 488 (by decide +kernel) (by decide +kernel), aw_mem 344 (by decide +kernel) (by decide +kernel), aw_mem 345 (by decide +kernel) (by decide +kernel)⟩
theorem cvX7_55 : aw_cV RX7 55 7 mX7_takeHands := ⟨(RX7, TX7, 7), rfl, aw_mem 490 (by decide +kernel) (by decide +kernel), aw_mem 492 (by decide +kernel) (by decide +kernel), aw_mem 13 (by decide +kernel) (by decide +kernel)⟩
theorem cvX7_82 : aw_cV RX7 82 9 mX9_tellHands := ⟨(RX9, TX9, 12), rfl, aw_mem 494 (by decide +kernel) (by decide +kernel), aw_mem 365 (by decide +kernel) (by decide +kernel), aw_mem 366 (by decide +kernel) (by decide +kernel)⟩
theorem cvX7_60 : aw_cV RX7 60 7 mX7_takeLie := ⟨(RX7, TX7, 7), rfl, aw_mem 496 (by decide +kernel) (by decide +kernel), aw_mem 498 (by decide +kernel) (by decide +kernel), aw_mem 14 (by decide +kernel) (by decide +kernel)⟩
theorem cvX7_86 : aw_cV RX7 86 9 mX9_tellLie := ⟨(RX9, TX9, 12), rfl, aw_mem 500 (by decide +kernel) (by decide +kernel), aw_mem 501 (by decide +kernel) (by decide +kernel), aw_mem 502 (by decide +kernel) (by decide +kernel)⟩
theorem cvX9_101 : aw_cV RX9 101 9 mX9_honestyBehindLie := ⟨(RX9, TX9, 12), rfl, aw_mem 504 (by decide +kernel) (by decide +kernel), aw_mem 506 (by decide +kernel) (by decide +kernel), aw_mem 15 (by decide +kernel) (by decide +kernel)⟩
theorem cvX9_141 : aw_cV RX9 141 9 mX9_honestyOf := ⟨(RX9, TX9, 12), rfl, aw_mem 508 (by decide +kernel) (by decide +kernel), aw_mem 509 (by decide +kernel) (by decide +kernel), aw_mem 510 (by decide +kernel) (by decide +kernel)⟩
theorem cvX9_138 : aw_cV RX9 138 9 mX9_kindOf := ⟨(RX9, TX9, 12), rfl, aw_mem 512 (by decide +kernel) (by decide +kernel), aw_mem 513 (by decide +kernel) (by decide +kernel), aw_mem 514 (by decide +kernel) (by decide +kernel)⟩
theorem cvX9_130 : aw_cV RX9 130 9 mX9_kindNumbered := ⟨(RX9, TX9, 12), rfl, aw_mem 516 (by decide +kernel) (by decide +kernel), aw_mem 518 (by decide +kernel) (by decide +kernel), aw_mem 16 (by decide +kernel) (by decide +kernel)⟩
theorem cvX9_169 : aw_cV RX9 169 6 mX6_loss := ⟨(RX6, TX6, 0), rfl, aw_mem 520 (by decide +kernel) (by decide +kernel), aw_mem 521 (by decide +kernel) (by decide +kernel), aw_mem 522 (by decide +kernel) (by decide +kernel)⟩
theorem coX9_169_X0 : aw_cO RX9 169 0 yX6_loss mX8_loss := ⟨(RX0, TX0, 0), cX6_loss, 2, (some .int), rfl, aw_mem 520 (by decide +kernel) (by decide +kernel), aw_mem 523 (by decide +kernel) (by decide +kernel), aw_mem 521 (by decide +kernel) (by decide +kernel), aw_mem 524 (by decide +kernel) (by decide +kernel), aw_mem 525 (by decide +kernel) (by decide +kernel), aw_mem 538 (by decide +kernel) (by decide +kernel), rfl, rfl, (by decide +kernel), (by decide +kernel)⟩
theorem coX9_169_X1 : aw_cO RX9 169 1 yX6_loss mX1_loss := ⟨(RX1, TX1, 0), cX6_loss, 2, (some .int), rfl, aw_mem 520 (by decide +kernel) (by decide +kernel), aw_mem 523 (by decide +kernel) (by decide +kernel), aw_mem 521 (by decide +kernel) (by decide +kernel), aw_mem 528 (by decide +kernel) (by decide +kernel), aw_mem 529 (by decide +kernel) (by decide +kernel), aw_mem 538 (by decide +kernel) (by decide +kernel), rfl, rfl, (by decide +kernel), (by decide +kernel)⟩
theorem coX9_169_X2 : aw_cO RX9 169 2 yX6_loss mX2_loss := ⟨(RX2, TX2, 0), cX6_loss, 2, (some .int), rfl, aw_mem 520 (by decide +kernel) (by decide +kernel), aw_mem 523 (by decide +kernel) (by decide +kernel), aw_mem 521 (by decide +kernel) (by decide +kernel), aw_mem 532 (by decide +kernel) (by decide +kernel), aw_mem 533 (by decide +kernel) (by decide +kernel), aw_mem 538 (by decide +kernel) (by decide +kernel), rfl, rfl, (by decide +kernel), (by decide +kernel)⟩
theorem coX9_169_X3 : aw_cO RX9 169 3 yX6_loss mX2_loss := ⟨(RX3, TX3, 0), cX6_loss, 2, (some .int), rfl, aw_mem 520 (by decide +kernel) (by decide +kernel), aw_mem 523 (by decide +kernel) (by decide +kernel), aw_mem 521 (by decide +kernel) (by decide +kernel), aw_mem 536 (by decide +kernel) (by decide +kernel), aw_mem 533 (by decide +kernel) (by decide +kernel), aw_mem 538 (by decide +kernel) (by decide +kernel), rfl, rfl, (by decide +kernel), (by decide +kernel)⟩
theorem coX9_169_X8 : aw_cO RX9 169 8 yX6_loss mX8_loss := ⟨(RX8, TX8, 0), cX6_loss, 2, (some .int), rfl, aw_mem 520 (by decide +kernel) (by decide +kernel), aw_mem 523 (by decide +kernel) (by decide +kernel), aw_mem 521 (by decide +kernel) (by decide +kernel), aw_mem 537 (by decide +kernel) (by decide +kernel), aw_mem 525 (by decide +kernel) (by decide +kernel), aw_mem 538 (by decide +kernel) (by decide +kernel), rfl, rfl, (by decide +kernel), (by decide +kernel)⟩
theorem cuX8_11 : aw_cU RX8 11 mX6_loss := ⟨aw_mem 527 (by decide +kernel) (by decide +kernel), aw_mem 523 (by decide +kernel) (by decide +kernel), aw_mem 137 (by decide +kernel) (by decide +kernel), aw_mem 521 (by decide +kernel) (by decide +kernel), (by decide +kernel)⟩
theorem cuX1_9 : aw_cU RX1 9 mX6_loss := ⟨aw_mem 531 (by decide +kernel) (by decide +kernel), aw_mem 523 (by decide +kernel) (by decide +kernel), aw_mem 123 (by decide +kernel) (by decide +kernel), aw_mem 521 (by decide +kernel) (by decide +kernel), (by decide +kernel)⟩
theorem cuX2_11 : aw_cU RX2 11 mX6_loss := ⟨aw_mem 535 (by decide +kernel) (by decide +kernel), aw_mem 523 (by decide +kernel) (by decide +kernel), aw_mem 130 (by decide +kernel) (by decide +kernel), aw_mem 521 (by decide +kernel) (by decide +kernel), (by decide +kernel)⟩
theorem csX9_172 : aw_cS RX9 172 mJ9_max_7cf53 := ⟨aw_mem 539 (by decide +kernel) (by decide +kernel), aw_mem 540 (by decide +kernel) (by decide +kernel)⟩
theorem cvX11_93 : aw_cV RX11 93 7 mX7_faultAt := ⟨(RX7, TX7, 7), rfl, aw_mem 542 (by decide +kernel) (by decide +kernel), aw_mem 543 (by decide +kernel) (by decide +kernel), aw_mem 544 (by decide +kernel) (by decide +kernel)⟩
theorem cvX11_96 : aw_cV RX11 96 9 mX9_copyFrom := ⟨(RX9, TX9, 12), rfl, aw_mem 546 (by decide +kernel) (by decide +kernel), aw_mem 547 (by decide +kernel) (by decide +kernel), aw_mem 548 (by decide +kernel) (by decide +kernel)⟩
theorem cvX9_81 : aw_cV RX9 81 4 mX4_copyFrom := ⟨(RX4, TX4, 5), rfl, aw_mem 550 (by decide +kernel) (by decide +kernel), aw_mem 551 (by decide +kernel) (by decide +kernel), aw_mem 552 (by decide +kernel) (by decide +kernel)⟩
theorem cvX9_85 : aw_cV RX9 85 5 mX5_copyFrom := ⟨(RX5, TX5, 2), rfl, aw_mem 554 (by decide +kernel) (by decide +kernel), aw_mem 555 (by decide +kernel) (by decide +kernel), aw_mem 556 (by decide +kernel) (by decide +kernel)⟩
theorem cvL_41 : aw_cV RL 41 11 mX11_lie := ⟨(RX11, TX11, 10), rfl, aw_mem 559 (by decide +kernel) (by decide +kernel), aw_mem 560 (by decide +kernel) (by decide +kernel), aw_mem 561 (by decide +kernel) (by decide +kernel)⟩
theorem cvX11_104 : aw_cV RX11 104 9 mX9_keepStep := ⟨(RX9, TX9, 12), rfl, aw_mem 563 (by decide +kernel) (by decide +kernel), aw_mem 564 (by decide +kernel) (by decide +kernel), aw_mem 565 (by decide +kernel) (by decide +kernel)⟩
theorem cvX9_117 : aw_cV RX9 117 5 mX5_open := ⟨(RX5, TX5, 2), rfl, aw_mem 567 (by decide +kernel) (by decide +kernel), aw_mem 568 (by decide +kernel) (by decide +kernel), aw_mem 569 (by decide +kernel) (by decide +kernel)⟩
theorem cvX9_120 : aw_cV RX9 120 5 mX5_put := ⟨(RX5, TX5, 2), rfl, aw_mem 571 (by decide +kernel) (by decide +kernel), aw_mem 572 (by decide +kernel) (by decide +kernel), aw_mem 573 (by decide +kernel) (by decide +kernel)⟩
theorem cvX5_25 : aw_cV RX5 25 5 mX5_placeOf := ⟨(RX5, TX5, 2), rfl, aw_mem 575 (by decide +kernel) (by decide +kernel), aw_mem 577 (by decide +kernel) (by decide +kernel), aw_mem 17 (by decide +kernel) (by decide +kernel)⟩
theorem cvX11_107 : aw_cV RX11 107 9 mX9_tellLie := ⟨(RX9, TX9, 12), rfl, aw_mem 579 (by decide +kernel) (by decide +kernel), aw_mem 501 (by decide +kernel) (by decide +kernel), aw_mem 502 (by decide +kernel) (by decide +kernel)⟩
theorem cvX11_110 : aw_cV RX11 110 9 mX9_honestyOf := ⟨(RX9, TX9, 12), rfl, aw_mem 580 (by decide +kernel) (by decide +kernel), aw_mem 509 (by decide +kernel) (by decide +kernel), aw_mem 510 (by decide +kernel) (by decide +kernel)⟩
theorem cvL_46 : aw_cV RL 46 11 mX11_give := ⟨(RX11, TX11, 10), rfl, aw_mem 581 (by decide +kernel) (by decide +kernel), aw_mem 582 (by decide +kernel) (by decide +kernel), aw_mem 583 (by decide +kernel) (by decide +kernel)⟩
theorem cvX11_113 : aw_cV RX11 113 9 mX9_piecesOf := ⟨(RX9, TX9, 12), rfl, aw_mem 585 (by decide +kernel) (by decide +kernel), aw_mem 586 (by decide +kernel) (by decide +kernel), aw_mem 587 (by decide +kernel) (by decide +kernel)⟩
theorem cvX11_116 : aw_cV RX11 116 11 mX11_refuseNo := ⟨(RX11, TX11, 10), rfl, aw_mem 589 (by decide +kernel) (by decide +kernel), aw_mem 591 (by decide +kernel) (by decide +kernel), aw_mem 18 (by decide +kernel) (by decide +kernel)⟩
theorem cvX11_119 : aw_cV RX11 119 9 mX9_handOn := ⟨(RX9, TX9, 12), rfl, aw_mem 593 (by decide +kernel) (by decide +kernel), aw_mem 594 (by decide +kernel) (by decide +kernel), aw_mem 595 (by decide +kernel) (by decide +kernel)⟩
theorem cvL_50 : aw_cV RL 50 11 mX11_day := ⟨(RX11, TX11, 10), rfl, aw_mem 597 (by decide +kernel) (by decide +kernel), aw_mem 598 (by decide +kernel) (by decide +kernel), aw_mem 599 (by decide +kernel) (by decide +kernel)⟩
theorem cvX11_123 : aw_cV RX11 123 9 mX9_passDay := ⟨(RX9, TX9, 12), rfl, aw_mem 601 (by decide +kernel) (by decide +kernel), aw_mem 602 (by decide +kernel) (by decide +kernel), aw_mem 603 (by decide +kernel) (by decide +kernel)⟩
theorem cvX9_105 : aw_cV RX9 105 9 mX9_honestyAfter := ⟨(RX9, TX9, 12), rfl, aw_mem 605 (by decide +kernel) (by decide +kernel), aw_mem 607 (by decide +kernel) (by decide +kernel), aw_mem 19 (by decide +kernel) (by decide +kernel)⟩
theorem cvX9_159 : aw_cV RX9 159 9 mX9_liedOf := ⟨(RX9, TX9, 12), rfl, aw_mem 609 (by decide +kernel) (by decide +kernel), aw_mem 610 (by decide +kernel) (by decide +kernel), aw_mem 611 (by decide +kernel) (by decide +kernel)⟩
theorem csX9_108 : aw_cS RX9 108 mJ9_min_7cf53 := ⟨aw_mem 613 (by decide +kernel) (by decide +kernel), aw_mem 614 (by decide +kernel) (by decide +kernel)⟩
theorem cvX11_126 : aw_cV RX11 126 9 mX9_today := ⟨(RX9, TX9, 12), rfl, aw_mem 616 (by decide +kernel) (by decide +kernel), aw_mem 617 (by decide +kernel) (by decide +kernel), aw_mem 618 (by decide +kernel) (by decide +kernel)⟩
theorem cvL_54 : aw_cV RL 54 11 mX11_undo := ⟨(RX11, TX11, 10), rfl, aw_mem 620 (by decide +kernel) (by decide +kernel), aw_mem 621 (by decide +kernel) (by decide +kernel), aw_mem 622 (by decide +kernel) (by decide +kernel)⟩
theorem cvX11_129 : aw_cV RX11 129 9 mX9_steps := ⟨(RX9, TX9, 12), rfl, aw_mem 624 (by decide +kernel) (by decide +kernel), aw_mem 625 (by decide +kernel) (by decide +kernel), aw_mem 626 (by decide +kernel) (by decide +kernel)⟩
theorem cvX9_113 : aw_cV RX9 113 5 mX5_size := ⟨(RX5, TX5, 2), rfl, aw_mem 628 (by decide +kernel) (by decide +kernel), aw_mem 629 (by decide +kernel) (by decide +kernel), aw_mem 630 (by decide +kernel) (by decide +kernel)⟩
theorem cvX11_132 : aw_cV RX11 132 9 mX9_stepBack := ⟨(RX9, TX9, 12), rfl, aw_mem 632 (by decide +kernel) (by decide +kernel), aw_mem 633 (by decide +kernel) (by decide +kernel), aw_mem 634 (by decide +kernel) (by decide +kernel)⟩
theorem cvX9_124 : aw_cV RX9 124 5 mX5_last := ⟨(RX5, TX5, 2), rfl, aw_mem 636 (by decide +kernel) (by decide +kernel), aw_mem 637 (by decide +kernel) (by decide +kernel), aw_mem 638 (by decide +kernel) (by decide +kernel)⟩
theorem cvX9_127 : aw_cV RX9 127 5 mX5_dropLast := ⟨(RX5, TX5, 2), rfl, aw_mem 640 (by decide +kernel) (by decide +kernel), aw_mem 641 (by decide +kernel) (by decide +kernel), aw_mem 642 (by decide +kernel) (by decide +kernel)⟩
theorem csX5_19 : aw_cS RX5 19 mJ9_max_7cf53 := ⟨aw_mem 644 (by decide +kernel) (by decide +kernel), aw_mem 540 (by decide +kernel) (by decide +kernel)⟩
theorem cvL_58 : aw_cV RL 58 11 mX11_of := ⟨(RX11, TX11, 10), rfl, aw_mem 645 (by decide +kernel) (by decide +kernel), aw_mem 646 (by decide +kernel) (by decide +kernel), aw_mem 647 (by decide +kernel) (by decide +kernel)⟩
theorem cvX11_135 : aw_cV RX11 135 9 mX9_kindOf := ⟨(RX9, TX9, 12), rfl, aw_mem 649 (by decide +kernel) (by decide +kernel), aw_mem 513 (by decide +kernel) (by decide +kernel), aw_mem 514 (by decide +kernel) (by decide +kernel)⟩
theorem cvX11_138 : aw_cV RX11 138 9 mX9_payOf := ⟨(RX9, TX9, 12), rfl, aw_mem 650 (by decide +kernel) (by decide +kernel), aw_mem 651 (by decide +kernel) (by decide +kernel), aw_mem 652 (by decide +kernel) (by decide +kernel)⟩
theorem cvX11_141 : aw_cV RX11 141 9 mX9_liedOf := ⟨(RX9, TX9, 12), rfl, aw_mem 654 (by decide +kernel) (by decide +kernel), aw_mem 610 (by decide +kernel) (by decide +kernel), aw_mem 611 (by decide +kernel) (by decide +kernel)⟩
theorem cvX11_144 : aw_cV RX11 144 9 mX9_ownWeight := ⟨(RX9, TX9, 12), rfl, aw_mem 655 (by decide +kernel) (by decide +kernel), aw_mem 656 (by decide +kernel) (by decide +kernel), aw_mem 657 (by decide +kernel) (by decide +kernel)⟩
theorem cvX9_98 : aw_cV RX9 98 9 mX9_piecesOf := ⟨(RX9, TX9, 12), rfl, aw_mem 659 (by decide +kernel) (by decide +kernel), aw_mem 586 (by decide +kernel) (by decide +kernel), aw_mem 587 (by decide +kernel) (by decide +kernel)⟩
theorem cvX9_144 : aw_cV RX9 144 9 mX9_weightWith := ⟨(RX9, TX9, 12), rfl, aw_mem 660 (by decide +kernel) (by decide +kernel), aw_mem 661 (by decide +kernel) (by decide +kernel), aw_mem 662 (by decide +kernel) (by decide +kernel)⟩
theorem cvX9_134 : aw_cV RX9 134 6 mX6_weight := ⟨(RX6, TX6, 0), rfl, aw_mem 664 (by decide +kernel) (by decide +kernel), aw_mem 665 (by decide +kernel) (by decide +kernel), aw_mem 666 (by decide +kernel) (by decide +kernel)⟩
theorem coX9_134_X0 : aw_cO RX9 134 0 yX6_weight mX0_weight := ⟨(RX0, TX0, 0), cX6_weight, 4, (some .int), rfl, aw_mem 664 (by decide +kernel) (by decide +kernel), aw_mem 667 (by decide +kernel) (by decide +kernel), aw_mem 665 (by decide +kernel) (by decide +kernel), aw_mem 668 (by decide +kernel) (by decide +kernel), aw_mem 669 (by decide +kernel) (by decide +kernel), aw_mem 688 (by decide +kernel) (by decide +kernel), rfl, rfl, (by decide +kernel), (by decide +kernel)⟩
theorem coX9_134_X1 : aw_cO RX9 134 1 yX6_weight mX1_weight := ⟨(RX1, TX1, 0), cX6_weight, 4, (some .int), rfl, aw_mem 664 (by decide +kernel) (by decide +kernel), aw_mem 667 (by decide +kernel) (by decide +kernel), aw_mem 665 (by decide +kernel) (by decide +kernel), aw_mem 676 (by decide +kernel) (by decide +kernel), aw_mem 677 (by decide +kernel) (by decide +kernel), aw_mem 688 (by decide +kernel) (by decide +kernel), rfl, rfl, (by decide +kernel), (by decide +kernel)⟩
theorem coX9_134_X2 : aw_cO RX9 134 2 yX6_weight mX2_weight := ⟨(RX2, TX2, 0), cX6_weight, 4, (some .int), rfl, aw_mem 664 (by decide +kernel) (by decide +kernel), aw_mem 667 (by decide +kernel) (by decide +kernel), aw_mem 665 (by decide +kernel) (by decide +kernel), aw_mem 679 (by decide +kernel) (by decide +kernel), aw_mem 680 (by decide +kernel) (by decide +kernel), aw_mem 688 (by decide +kernel) (by decide +kernel), rfl, rfl, (by decide +kernel), (by decide +kernel)⟩
theorem coX9_134_X3 : aw_cO RX9 134 3 yX6_weight mX3_weight := ⟨(RX3, TX3, 0), cX6_weight, 4, (some .int), rfl, aw_mem 664 (by decide +kernel) (by decide +kernel), aw_mem 667 (by decide +kernel) (by decide +kernel), aw_mem 665 (by decide +kernel) (by decide +kernel), aw_mem 683 (by decide +kernel) (by decide +kernel), aw_mem 684 (by decide +kernel) (by decide +kernel), aw_mem 688 (by decide +kernel) (by decide +kernel), rfl, rfl, (by decide +kernel), (by decide +kernel)⟩
theorem coX9_134_X8 : aw_cO RX9 134 8 yX6_weight mX8_weight := ⟨(RX8, TX8, 0), cX6_weight, 4, (some .int), rfl, aw_mem 664 (by decide +kernel) (by decide +kernel), aw_mem 667 (by decide +kernel) (by decide +kernel), aw_mem 665 (by decide +kernel) (by decide +kernel), aw_mem 687 (by decide +kernel) (by decide +kernel), aw_mem 672 (by decide +kernel) (by decide +kernel), aw_mem 688 (by decide +kernel) (by decide +kernel), rfl, rfl, (by decide +kernel), (by decide +kernel)⟩
theorem cuX0_9 : aw_cU RX0 9 mX8_weight := ⟨aw_mem 671 (by decide +kernel) (by decide +kernel), aw_mem 1387 (by decide +kernel) (by decide +kernel), aw_mem 151 (by decide +kernel) (by decide +kernel), aw_mem 672 (by decide +kernel) (by decide +kernel), (by decide +kernel)⟩
theorem cuX8_7 : aw_cU RX8 7 mX6_weight := ⟨aw_mem 674 (by decide +kernel) (by decide +kernel), aw_mem 667 (by decide +kernel) (by decide +kernel), aw_mem 137 (by decide +kernel) (by decide +kernel), aw_mem 665 (by decide +kernel) (by decide +kernel), (by decide +kernel)⟩
theorem csX0_13 : aw_cS RX0 13 mJ9_min_7cf53 := ⟨aw_mem 675 (by decide +kernel) (by decide +kernel), aw_mem 614 (by decide +kernel) (by decide +kernel)⟩
theorem cuX2_7 : aw_cU RX2 7 mX6_weight := ⟨aw_mem 682 (by decide +kernel) (by decide +kernel), aw_mem 667 (by decide +kernel) (by decide +kernel), aw_mem 130 (by decide +kernel) (by decide +kernel), aw_mem 665 (by decide +kernel) (by decide +kernel), (by decide +kernel)⟩
theorem cuX3_7 : aw_cU RX3 7 mX2_weight := ⟨aw_mem 686 (by decide +kernel) (by decide +kernel), aw_mem 1388 (by decide +kernel) (by decide +kernel), aw_mem 144 (by decide +kernel) (by decide +kernel), aw_mem 680 (by decide +kernel) (by decide +kernel), (by decide +kernel)⟩
theorem cvL_62 : aw_cV RL 62 11 mX11_weighs := ⟨(RX11, TX11, 10), rfl, aw_mem 689 (by decide +kernel) (by decide +kernel), aw_mem 690 (by decide +kernel) (by decide +kernel), aw_mem 691 (by decide +kernel) (by decide +kernel)⟩
theorem cvX11_147 : aw_cV RX11 147 9 mX9_weightWith := ⟨(RX9, TX9, 12), rfl, aw_mem 693 (by decide +kernel) (by decide +kernel), aw_mem 661 (by decide +kernel) (by decide +kernel), aw_mem 662 (by decide +kernel) (by decide +kernel)⟩
theorem cvL_66 : aw_cV RL 66 11 mX11_all := ⟨(RX11, TX11, 10), rfl, aw_mem 694 (by decide +kernel) (by decide +kernel), aw_mem 695 (by decide +kernel) (by decide +kernel), aw_mem 696 (by decide +kernel) (by decide +kernel)⟩
theorem cvX11_151 : aw_cV RX11 151 9 mX9_allWeight := ⟨(RX9, TX9, 12), rfl, aw_mem 698 (by decide +kernel) (by decide +kernel), aw_mem 699 (by decide +kernel) (by decide +kernel), aw_mem 700 (by decide +kernel) (by decide +kernel)⟩
theorem cvX9_147 : aw_cV RX9 147 9 mX9_ownWeight := ⟨(RX9, TX9, 12), rfl, aw_mem 702 (by decide +kernel) (by decide +kernel), aw_mem 656 (by decide +kernel) (by decide +kernel), aw_mem 657 (by decide +kernel) (by decide +kernel)⟩
theorem cvL_70 : aw_cV RL 70 11 mX11_when := ⟨(RX11, TX11, 10), rfl, aw_mem 703 (by decide +kernel) (by decide +kernel), aw_mem 704 (by decide +kernel) (by decide +kernel), aw_mem 705 (by decide +kernel) (by decide +kernel)⟩
theorem cvX11_154 : aw_cV RX11 154 9 mX9_daysUntil := ⟨(RX9, TX9, 12), rfl, aw_mem 707 (by decide +kernel) (by decide +kernel), aw_mem 708 (by decide +kernel) (by decide +kernel), aw_mem 709 (by decide +kernel) (by decide +kernel)⟩
theorem cvX9_150 : aw_cV RX9 150 9 mX9_weightBy := ⟨(RX9, TX9, 12), rfl, aw_mem 711 (by decide +kernel) (by decide +kernel), aw_mem 712 (by decide +kernel) (by decide +kernel), aw_mem 713 (by decide +kernel) (by decide +kernel)⟩
theorem cvL_74 : aw_cV RL 74 11 mX11_bag := ⟨(RX11, TX11, 10), rfl, aw_mem 715 (by decide +kernel) (by decide +kernel), aw_mem 716 (by decide +kernel) (by decide +kernel), aw_mem 717 (by decide +kernel) (by decide +kernel)⟩
theorem cvX11_157 : aw_cV RX11 157 10 mX10_carry := ⟨(RX10, TX10, 4), rfl, aw_mem 719 (by decide +kernel) (by decide +kernel), aw_mem 720 (by decide +kernel) (by decide +kernel), aw_mem 721 (by decide +kernel) (by decide +kernel)⟩
theorem cvX10_24 : aw_cV RX10 24 10 mX10_weighEach := ⟨(RX10, TX10, 4), rfl, aw_mem 723 (by decide +kernel) (by decide +kernel), aw_mem 725 (by decide +kernel) (by decide +kernel), aw_mem 20 (by decide +kernel) (by decide +kernel)⟩
theorem cvX10_103 : aw_cV RX10 103 9 mX9_isThere := ⟨(RX9, TX9, 12), rfl, aw_mem 727 (by decide +kernel) (by decide +kernel), aw_mem 356 (by decide +kernel) (by decide +kernel), aw_mem 357 (by decide +kernel) (by decide +kernel)⟩
theorem cvX10_100 : aw_cV RX10 100 9 mX9_weightWith := ⟨(RX9, TX9, 12), rfl, aw_mem 728 (by decide +kernel) (by decide +kernel), aw_mem 661 (by decide +kernel) (by decide +kernel), aw_mem 662 (by decide +kernel) (by decide +kernel)⟩
theorem cvX10_28 : aw_cV RX10 28 9 mX9_people := ⟨(RX9, TX9, 12), rfl, aw_mem 729 (by decide +kernel) (by decide +kernel), aw_mem 309 (by decide +kernel) (by decide +kernel), aw_mem 310 (by decide +kernel) (by decide +kernel)⟩
theorem cvX10_34 : aw_cV RX10 34 10 mX10_heftOf := ⟨(RX10, TX10, 4), rfl, aw_mem 730 (by decide +kernel) (by decide +kernel), aw_mem 732 (by decide +kernel) (by decide +kernel), aw_mem 21 (by decide +kernel) (by decide +kernel)⟩
theorem cvX10_38 : aw_cV RX10 38 10 mX10_measure := ⟨(RX10, TX10, 4), rfl, aw_mem 734 (by decide +kernel) (by decide +kernel), aw_mem 736 (by decide +kernel) (by decide +kernel), aw_mem 22 (by decide +kernel) (by decide +kernel)⟩
theorem cvX10_52 : aw_cV RX10 52 10 mX10_handsToOneAt := ⟨(RX10, TX10, 4), rfl, aw_mem 738 (by decide +kernel) (by decide +kernel), aw_mem 740 (by decide +kernel) (by decide +kernel), aw_mem 23 (by decide +kernel) (by decide +kernel)⟩
theorem cvX10_49 : aw_cV RX10 49 9 mX9_handsOf := ⟨(RX9, TX9, 12), rfl, aw_mem 742 (by decide +kernel) (by decide +kernel), aw_mem 360 (by decide +kernel) (by decide +kernel), aw_mem 361 (by decide +kernel) (by decide +kernel)⟩
theorem cvX10_42 : aw_cV RX10 42 10 mX10_farOf := ⟨(RX10, TX10, 4), rfl, aw_mem 743 (by decide +kernel) (by decide +kernel), aw_mem 745 (by decide +kernel) (by decide +kernel), aw_mem 24 (by decide +kernel) (by decide +kernel)⟩
theorem cvX11_161 : aw_cV RX11 161 10 mX10_handAt := ⟨(RX10, TX10, 4), rfl, aw_mem 747 (by decide +kernel) (by decide +kernel), aw_mem 748 (by decide +kernel) (by decide +kernel), aw_mem 749 (by decide +kernel) (by decide +kernel)⟩
theorem cvX10_45 : aw_cV RX10 45 10 mX10_nearerHand := ⟨(RX10, TX10, 4), rfl, aw_mem 751 (by decide +kernel) (by decide +kernel), aw_mem 753 (by decide +kernel) (by decide +kernel), aw_mem 25 (by decide +kernel) (by decide +kernel)⟩
theorem cvL_78 : aw_cV RL 78 11 mX11_debt := ⟨(RX11, TX11, 10), rfl, aw_mem 755 (by decide +kernel) (by decide +kernel), aw_mem 756 (by decide +kernel) (by decide +kernel), aw_mem 757 (by decide +kernel) (by decide +kernel)⟩
theorem cvX11_165 : aw_cV RX11 165 9 mX9_fewestPieces := ⟨(RX9, TX9, 12), rfl, aw_mem 759 (by decide +kernel) (by decide +kernel), aw_mem 760 (by decide +kernel) (by decide +kernel), aw_mem 761 (by decide +kernel) (by decide +kernel)⟩
theorem cvL_82 : aw_cV RL 82 11 mX11_hire := ⟨(RX11, TX11, 10), rfl, aw_mem 763 (by decide +kernel) (by decide +kernel), aw_mem 764 (by decide +kernel) (by decide +kernel), aw_mem 765 (by decide +kernel) (by decide +kernel)⟩
theorem cvX11_168 : aw_cV RX11 168 10 mX10_weighers := ⟨(RX10, TX10, 4), rfl, aw_mem 767 (by decide +kernel) (by decide +kernel), aw_mem 768 (by decide +kernel) (by decide +kernel), aw_mem 769 (by decide +kernel) (by decide +kernel)⟩
theorem csX10_56 : aw_cS RX10 56 mX10_payTogether := ⟨aw_mem 771 (by decide +kernel) (by decide +kernel), aw_mem 772 (by decide +kernel) (by decide +kernel)⟩
theorem cvX10_62 : aw_cV RX10 62 9 mX9_payOf := ⟨(RX9, TX9, 12), rfl, aw_mem 774 (by decide +kernel) (by decide +kernel), aw_mem 651 (by decide +kernel) (by decide +kernel), aw_mem 652 (by decide +kernel) (by decide +kernel)⟩
theorem cvX10_59 : aw_cV RX10 59 10 mX10_weightTogether := ⟨(RX10, TX10, 4), rfl, aw_mem 775 (by decide +kernel) (by decide +kernel), aw_mem 776 (by decide +kernel) (by decide +kernel), aw_mem 777 (by decide +kernel) (by decide +kernel)⟩
theorem cvX11_171 : aw_cV RX11 171 10 mX10_weightTogether := ⟨(RX10, TX10, 4), rfl, aw_mem 779 (by decide +kernel) (by decide +kernel), aw_mem 776 (by decide +kernel) (by decide +kernel), aw_mem 777 (by decide +kernel) (by decide +kernel)⟩
theorem cvL_86 : aw_cV RL 86 11 mX11_shelves := ⟨(RX11, TX11, 10), rfl, aw_mem 780 (by decide +kernel) (by decide +kernel), aw_mem 781 (by decide +kernel) (by decide +kernel), aw_mem 782 (by decide +kernel) (by decide +kernel)⟩
theorem cvX11_174 : aw_cV RX11 174 10 mX10_shelve := ⟨(RX10, TX10, 4), rfl, aw_mem 784 (by decide +kernel) (by decide +kernel), aw_mem 785 (by decide +kernel) (by decide +kernel), aw_mem 786 (by decide +kernel) (by decide +kernel)⟩
theorem cvX10_65 : aw_cV RX10 65 10 mX10_weighBags := ⟨(RX10, TX10, 4), rfl, aw_mem 788 (by decide +kernel) (by decide +kernel), aw_mem 790 (by decide +kernel) (by decide +kernel), aw_mem 26 (by decide +kernel) (by decide +kernel)⟩
theorem kcX10_69 : Cond.constant RX10 69 (1000000) ∈ aw_T := aw_mem 792 (by decide +kernel) (by decide +kernel)
theorem cvX10_70 : aw_cV RX10 70 10 mX10_lightestWith := ⟨(RX10, TX10, 4), rfl, aw_mem 793 (by decide +kernel) (by decide +kernel), aw_mem 795 (by decide +kernel) (by decide +kernel), aw_mem 27 (by decide +kernel) (by decide +kernel)⟩
theorem csX10_89 : aw_cS RX10 89 mJ6_bitCount_0f7a4 := ⟨aw_mem 797 (by decide +kernel) (by decide +kernel), aw_mem 798 (by decide +kernel) (by decide +kernel)⟩
theorem kcJ6_265 : Cond.constant RJ6 265 (1431655765) ∈ aw_T := aw_mem 800 (by decide +kernel) (by decide +kernel)
theorem kcJ6_266 : Cond.constant RJ6 266 (858993459) ∈ aw_T := aw_mem 801 (by decide +kernel) (by decide +kernel)
theorem kcJ6_267 : Cond.constant RJ6 267 (252645135) ∈ aw_T := aw_mem 802 (by decide +kernel) (by decide +kernel)
theorem cvX10_94 : aw_cV RX10 94 10 mX10_bagWeight := ⟨(RX10, TX10, 4), rfl, aw_mem 803 (by decide +kernel) (by decide +kernel), aw_mem 805 (by decide +kernel) (by decide +kernel), aw_mem 28 (by decide +kernel) (by decide +kernel)⟩
theorem cvX10_83 : aw_cV RX10 83 10 mX10_lightestOf := ⟨(RX10, TX10, 4), rfl, aw_mem 807 (by decide +kernel) (by decide +kernel), aw_mem 809 (by decide +kernel) (by decide +kernel), aw_mem 29 (by decide +kernel) (by decide +kernel)⟩
theorem csX10_97 : aw_cS RX10 97 mJ9_min_7cf53 := ⟨aw_mem 811 (by decide +kernel) (by decide +kernel), aw_mem 614 (by decide +kernel) (by decide +kernel)⟩
theorem csX10_74 : aw_cS RX10 74 mJ9_max_7cf53 := ⟨aw_mem 812 (by decide +kernel) (by decide +kernel), aw_mem 540 (by decide +kernel) (by decide +kernel)⟩
theorem cvX10_79 : aw_cV RX10 79 10 mX10_putLightest := ⟨(RX10, TX10, 4), rfl, aw_mem 813 (by decide +kernel) (by decide +kernel), aw_mem 815 (by decide +kernel) (by decide +kernel), aw_mem 30 (by decide +kernel) (by decide +kernel)⟩
theorem cvX11_177 : aw_cV RX11 177 10 mX10_bagOf := ⟨(RX10, TX10, 4), rfl, aw_mem 817 (by decide +kernel) (by decide +kernel), aw_mem 818 (by decide +kernel) (by decide +kernel), aw_mem 819 (by decide +kernel) (by decide +kernel)⟩
theorem cvX10_86 : aw_cV RX10 86 10 mX10_firstBag := ⟨(RX10, TX10, 4), rfl, aw_mem 821 (by decide +kernel) (by decide +kernel), aw_mem 823 (by decide +kernel) (by decide +kernel), aw_mem 31 (by decide +kernel) (by decide +kernel)⟩
theorem cvL_90 : aw_cV RL 90 11 mX11_note := ⟨(RX11, TX11, 10), rfl, aw_mem 825 (by decide +kernel) (by decide +kernel), aw_mem 826 (by decide +kernel) (by decide +kernel), aw_mem 827 (by decide +kernel) (by decide +kernel)⟩
theorem cvX11_180 : aw_cV RX11 180 9 mX9_notes := ⟨(RX9, TX9, 12), rfl, aw_mem 829 (by decide +kernel) (by decide +kernel), aw_mem 830 (by decide +kernel) (by decide +kernel), aw_mem 831 (by decide +kernel) (by decide +kernel)⟩
theorem cvX11_184 : aw_cV RX11 184 4 mX4_size := ⟨(RX4, TX4, 5), rfl, aw_mem 833 (by decide +kernel) (by decide +kernel), aw_mem 834 (by decide +kernel) (by decide +kernel), aw_mem 835 (by decide +kernel) (by decide +kernel)⟩
theorem cvX11_189 : aw_cV RX11 189 4 mX4_add := ⟨(RX4, TX4, 5), rfl, aw_mem 837 (by decide +kernel) (by decide +kernel), aw_mem 838 (by decide +kernel) (by decide +kernel), aw_mem 839 (by decide +kernel) (by decide +kernel)⟩
theorem cvL_94 : aw_cV RL 94 11 mX11_forget := ⟨(RX11, TX11, 10), rfl, aw_mem 841 (by decide +kernel) (by decide +kernel), aw_mem 842 (by decide +kernel) (by decide +kernel), aw_mem 843 (by decide +kernel) (by decide +kernel)⟩
theorem cvX11_192 : aw_cV RX11 192 4 mX4_drop := ⟨(RX4, TX4, 5), rfl, aw_mem 845 (by decide +kernel) (by decide +kernel), aw_mem 317 (by decide +kernel) (by decide +kernel), aw_mem 318 (by decide +kernel) (by decide +kernel)⟩
theorem cvL_98 : aw_cV RL 98 11 mX11_is := ⟨(RX11, TX11, 10), rfl, aw_mem 846 (by decide +kernel) (by decide +kernel), aw_mem 847 (by decide +kernel) (by decide +kernel), aw_mem 848 (by decide +kernel) (by decide +kernel)⟩
theorem cvX11_193 : aw_cV RX11 193 4 mX4_kindsThatFit := ⟨(RX4, TX4, 5), rfl, aw_mem 850 (by decide +kernel) (by decide +kernel), aw_mem 851 (by decide +kernel) (by decide +kernel), aw_mem 852 (by decide +kernel) (by decide +kernel)⟩
theorem cvX4_28 : aw_cV RX4 28 9 mX9_honestyOf := ⟨(RX9, TX9, 12), rfl, aw_mem 854 (by decide +kernel) (by decide +kernel), aw_mem 509 (by decide +kernel) (by decide +kernel), aw_mem 510 (by decide +kernel) (by decide +kernel)⟩
theorem cvX4_34 : aw_cV RX4 34 4 mX4_allFit := ⟨(RX4, TX4, 5), rfl, aw_mem 855 (by decide +kernel) (by decide +kernel), aw_mem 857 (by decide +kernel) (by decide +kernel), aw_mem 32 (by decide +kernel) (by decide +kernel)⟩
theorem cvX4_47 : aw_cV RX4 47 9 mX9_weightBy := ⟨(RX9, TX9, 12), rfl, aw_mem 859 (by decide +kernel) (by decide +kernel), aw_mem 712 (by decide +kernel) (by decide +kernel), aw_mem 713 (by decide +kernel) (by decide +kernel)⟩
theorem cvX11_197 : aw_cV RX11 197 4 mX4_honestiesThatFit := ⟨(RX4, TX4, 5), rfl, aw_mem 860 (by decide +kernel) (by decide +kernel), aw_mem 861 (by decide +kernel) (by decide +kernel), aw_mem 862 (by decide +kernel) (by decide +kernel)⟩
theorem cvX4_38 : aw_cV RX4 38 9 mX9_kindOf := ⟨(RX9, TX9, 12), rfl, aw_mem 864 (by decide +kernel) (by decide +kernel), aw_mem 513 (by decide +kernel) (by decide +kernel), aw_mem 514 (by decide +kernel) (by decide +kernel)⟩
theorem cvL_102 : aw_cV RL 102 11 mX11_next := ⟨(RX11, TX11, 10), rfl, aw_mem 865 (by decide +kernel) (by decide +kernel), aw_mem 866 (by decide +kernel) (by decide +kernel), aw_mem 867 (by decide +kernel) (by decide +kernel)⟩
theorem csX11_200 : aw_cS RX11 200 mX4_bestWeighing := ⟨aw_mem 869 (by decide +kernel) (by decide +kernel), aw_mem 870 (by decide +kernel) (by decide +kernel)⟩
theorem csX4_41 : aw_cS RX4 41 mX4_mostAlike := ⟨aw_mem 872 (by decide +kernel) (by decide +kernel), aw_mem 873 (by decide +kernel) (by decide +kernel)⟩
theorem cvX4_51 : aw_cV RX4 51 9 mX9_today := ⟨(RX9, TX9, 12), rfl, aw_mem 875 (by decide +kernel) (by decide +kernel), aw_mem 617 (by decide +kernel) (by decide +kernel), aw_mem 618 (by decide +kernel) (by decide +kernel)⟩
theorem csX4_55 : aw_cS RX4 55 mJ9_max_7cf53 := ⟨aw_mem 876 (by decide +kernel) (by decide +kernel), aw_mem 540 (by decide +kernel) (by decide +kernel)⟩
theorem cvL_106 : aw_cV RL 106 11 mX11_two := ⟨(RX11, TX11, 10), rfl, aw_mem 877 (by decide +kernel) (by decide +kernel), aw_mem 878 (by decide +kernel) (by decide +kernel), aw_mem 879 (by decide +kernel) (by decide +kernel)⟩
theorem cvX11_203 : aw_cV RX11 203 9 mX9_truthWorth := ⟨(RX9, TX9, 12), rfl, aw_mem 881 (by decide +kernel) (by decide +kernel), aw_mem 882 (by decide +kernel) (by decide +kernel), aw_mem 883 (by decide +kernel) (by decide +kernel)⟩
theorem csX11_206 : aw_cS RX11 206 mX11_isContent := ⟨aw_mem 885 (by decide +kernel) (by decide +kernel), aw_mem 886 (by decide +kernel) (by decide +kernel)⟩
theorem cvL_110 : aw_cV RL 110 11 mX11_winds := ⟨(RX11, TX11, 10), rfl, aw_mem 888 (by decide +kernel) (by decide +kernel), aw_mem 889 (by decide +kernel) (by decide +kernel), aw_mem 890 (by decide +kernel) (by decide +kernel)⟩
theorem klX11_210 : Cond.constantLong RX11 210 (10) ∈ aw_T := aw_mem 892 (by decide +kernel) (by decide +kernel)
theorem cvX11_212 : aw_cV RX11 212 11 mX11_keepFraction := ⟨(RX11, TX11, 10), rfl, aw_mem 893 (by decide +kernel) (by decide +kernel), aw_mem 895 (by decide +kernel) (by decide +kernel), aw_mem 33 (by decide +kernel) (by decide +kernel)⟩
theorem cvL_114 : aw_cV RL 114 11 mX11_years := ⟨(RX11, TX11, 10), rfl, aw_mem 897 (by decide +kernel) (by decide +kernel), aw_mem 898 (by decide +kernel) (by decide +kernel), aw_mem 899 (by decide +kernel) (by decide +kernel)⟩
theorem kcX11_216 : Cond.constant RX11 216 (999999) ∈ aw_T := aw_mem 901 (by decide +kernel) (by decide +kernel)
theorem klX11_217 : Cond.constantLong RX11 217 (1103515245) ∈ aw_T := aw_mem 902 (by decide +kernel) (by decide +kernel)
theorem klX11_219 : Cond.constantLong RX11 219 (12345) ∈ aw_T := aw_mem 903 (by decide +kernel) (by decide +kernel)
theorem klX11_221 : Cond.constantLong RX11 221 (2147483648) ∈ aw_T := aw_mem 904 (by decide +kernel) (by decide +kernel)
theorem klX11_223 : Cond.constantLong RX11 223 (65536) ∈ aw_T := aw_mem 905 (by decide +kernel) (by decide +kernel)
theorem klX11_225 : Cond.constantLong RX11 225 (6) ∈ aw_T := aw_mem 906 (by decide +kernel) (by decide +kernel)
theorem klX11_227 : Cond.constantLong RX11 227 (1048576) ∈ aw_T := aw_mem 907 (by decide +kernel) (by decide +kernel)
theorem klX11_229 : Cond.constantLong RX11 229 (5) ∈ aw_T := aw_mem 908 (by decide +kernel) (by decide +kernel)
theorem cvL_118 : aw_cV RL 118 11 mX11_part := ⟨(RX11, TX11, 10), rfl, aw_mem 909 (by decide +kernel) (by decide +kernel), aw_mem 910 (by decide +kernel) (by decide +kernel), aw_mem 911 (by decide +kernel) (by decide +kernel)⟩
theorem cvL_123 : aw_cV RL 123 11 mX11_image := ⟨(RX11, TX11, 10), rfl, aw_mem 913 (by decide +kernel) (by decide +kernel), aw_mem 914 (by decide +kernel) (by decide +kernel), aw_mem 915 (by decide +kernel) (by decide +kernel)⟩
theorem cvL_127 : aw_cV RL 127 11 mX11_from := ⟨(RX11, TX11, 10), rfl, aw_mem 917 (by decide +kernel) (by decide +kernel), aw_mem 918 (by decide +kernel) (by decide +kernel), aw_mem 919 (by decide +kernel) (by decide +kernel)⟩
theorem cvL_131 : aw_cV RL 131 11 mX11_status := ⟨(RX11, TX11, 10), rfl, aw_mem 921 (by decide +kernel) (by decide +kernel), aw_mem 922 (by decide +kernel) (by decide +kernel), aw_mem 923 (by decide +kernel) (by decide +kernel)⟩
theorem cvL_135 : aw_cV RL 135 11 mX11_count := ⟨(RX11, TX11, 10), rfl, aw_mem 925 (by decide +kernel) (by decide +kernel), aw_mem 926 (by decide +kernel) (by decide +kernel), aw_mem 927 (by decide +kernel) (by decide +kernel)⟩
theorem cvX11_241 : aw_cV RX11 241 11 mX11_counted := ⟨(RX11, TX11, 10), rfl, aw_mem 929 (by decide +kernel) (by decide +kernel), aw_mem 931 (by decide +kernel) (by decide +kernel), aw_mem 34 (by decide +kernel) (by decide +kernel)⟩
theorem cvX11_252 : aw_cV RX11 252 9 mX9_allPieces := ⟨(RX9, TX9, 12), rfl, aw_mem 933 (by decide +kernel) (by decide +kernel), aw_mem 934 (by decide +kernel) (by decide +kernel), aw_mem 935 (by decide +kernel) (by decide +kernel)⟩
theorem cvX11_255 : aw_cV RX11 255 9 mX9_liars := ⟨(RX9, TX9, 12), rfl, aw_mem 937 (by decide +kernel) (by decide +kernel), aw_mem 938 (by decide +kernel) (by decide +kernel), aw_mem 939 (by decide +kernel) (by decide +kernel)⟩
theorem csX9_92 : aw_cS RX9 92 mJ6_bitCount_0f7a4 := ⟨aw_mem 941 (by decide +kernel) (by decide +kernel), aw_mem 798 (by decide +kernel) (by decide +kernel)⟩
theorem cvL_139 : aw_cV RL 139 11 mX11_digest := ⟨(RX11, TX11, 10), rfl, aw_mem 942 (by decide +kernel) (by decide +kernel), aw_mem 943 (by decide +kernel) (by decide +kernel), aw_mem 944 (by decide +kernel) (by decide +kernel)⟩
theorem klX11_244 : Cond.constantLong RX11 244 (1307) ∈ aw_T := aw_mem 946 (by decide +kernel) (by decide +kernel)
theorem klX11_246 : Cond.constantLong RX11 246 (31) ∈ aw_T := aw_mem 947 (by decide +kernel) (by decide +kernel)
theorem cvX11_248 : aw_cV RX11 248 9 mX9_mixInto := ⟨(RX9, TX9, 12), rfl, aw_mem 948 (by decide +kernel) (by decide +kernel), aw_mem 949 (by decide +kernel) (by decide +kernel), aw_mem 950 (by decide +kernel) (by decide +kernel)⟩
theorem klX9_154 : Cond.constantLong RX9 154 (31) ∈ aw_T := aw_mem 952 (by decide +kernel) (by decide +kernel)
theorem cvX9_156 : aw_cV RX9 156 9 mX9_payOf := ⟨(RX9, TX9, 12), rfl, aw_mem 953 (by decide +kernel) (by decide +kernel), aw_mem 651 (by decide +kernel) (by decide +kernel), aw_mem 652 (by decide +kernel) (by decide +kernel)⟩
theorem cvX9_162 : aw_cV RX9 162 9 mX9_handsOf := ⟨(RX9, TX9, 12), rfl, aw_mem 954 (by decide +kernel) (by decide +kernel), aw_mem 360 (by decide +kernel) (by decide +kernel), aw_mem 361 (by decide +kernel) (by decide +kernel)⟩
theorem cvX9_165 : aw_cV RX9 165 4 mX4_mixInto := ⟨(RX4, TX4, 5), rfl, aw_mem 955 (by decide +kernel) (by decide +kernel), aw_mem 956 (by decide +kernel) (by decide +kernel), aw_mem 957 (by decide +kernel) (by decide +kernel)⟩
theorem klX4_45 : Cond.constantLong RX4 45 (31) ∈ aw_T := aw_mem 959 (by decide +kernel) (by decide +kernel)
theorem kkL_10 : Cond.classLink RL 10 RX12 ∈ aw_T := aw_mem 960 (by decide +kernel) (by decide +kernel)
theorem nwL_10 : aw_nw RL 10 12 [.null, .int 0, .int 0, .int 0, .int 0, .null, .null, .null, .null, .null, .null, .null, .null, .null, .null, .int 0, .int 0, .int 0, .int 0, .null, .int 0, .null, .int 0, .null, .null, .null, .null, .null, .long 0, .long 0, .null, .null, .long 0] 33 := ⟨RX12, TX12, tyX12, rfl, inX12, tyX12_ok, aw_mem 960 (by decide +kernel) (by decide +kernel), aw_mem 961 (by decide +kernel) (by decide +kernel), aw_mem 88 (by decide +kernel) (by decide +kernel), by decide +kernel⟩
theorem ciL_12 : aw_cI RL 12 mX12_init := ⟨aw_mem 962 (by decide +kernel) (by decide +kernel), aw_mem 963 (by decide +kernel) (by decide +kernel), rfl, rfl⟩
theorem oiX12_7 : Cond.methodLink RX12 7 objectInit ∈ aw_T := aw_mem 965 (by decide +kernel) (by decide +kernel)
theorem cvX12_74 : aw_cV RX12 74 12 mX12_begin := ⟨(RX12, TX12, 33), rfl, aw_mem 966 (by decide +kernel) (by decide +kernel), aw_mem 968 (by decide +kernel) (by decide +kernel), aw_mem 35 (by decide +kernel) (by decide +kernel)⟩
theorem cvL_17 : aw_cV RL 17 12 mX12_gold := ⟨(RX12, TX12, 33), rfl, aw_mem 1070 (by decide +kernel) (by decide +kernel), aw_mem 1071 (by decide +kernel) (by decide +kernel), aw_mem 1072 (by decide +kernel) (by decide +kernel)⟩
theorem cvL_22 : aw_cV RL 22 12 mX12_one := ⟨(RX12, TX12, 33), rfl, aw_mem 1074 (by decide +kernel) (by decide +kernel), aw_mem 1075 (by decide +kernel) (by decide +kernel), aw_mem 1076 (by decide +kernel) (by decide +kernel)⟩
theorem csX12_93 : aw_cS RX12 93 mX12_in := ⟨aw_mem 1078 (by decide +kernel) (by decide +kernel), aw_mem 1079 (by decide +kernel) (by decide +kernel)⟩
theorem cvX12_97 : aw_cV RX12 97 12 mX12_bad := ⟨(RX12, TX12, 33), rfl, aw_mem 1081 (by decide +kernel) (by decide +kernel), aw_mem 1083 (by decide +kernel) (by decide +kernel), aw_mem 36 (by decide +kernel) (by decide +kernel)⟩
theorem cvX12_101 : aw_cV RX12 101 12 mX12_full := ⟨(RX12, TX12, 33), rfl, aw_mem 1085 (by decide +kernel) (by decide +kernel), aw_mem 1087 (by decide +kernel) (by decide +kernel), aw_mem 37 (by decide +kernel) (by decide +kernel)⟩
theorem cvX12_104 : aw_cV RX12 104 12 mX12_addOne := ⟨(RX12, TX12, 33), rfl, aw_mem 1089 (by decide +kernel) (by decide +kernel), aw_mem 1091 (by decide +kernel) (by decide +kernel), aw_mem 38 (by decide +kernel) (by decide +kernel)⟩
theorem cvL_27 : aw_cV RL 27 12 mX12_hands := ⟨(RX12, TX12, 33), rfl, aw_mem 1093 (by decide +kernel) (by decide +kernel), aw_mem 1094 (by decide +kernel) (by decide +kernel), aw_mem 1095 (by decide +kernel) (by decide +kernel)⟩
theorem cvX12_108 : aw_cV RX12 108 12 mX12_isOne := ⟨(RX12, TX12, 33), rfl, aw_mem 1097 (by decide +kernel) (by decide +kernel), aw_mem 1099 (by decide +kernel) (by decide +kernel), aw_mem 39 (by decide +kernel) (by decide +kernel)⟩
theorem cvL_32 : aw_cV RL 32 12 mX12_type := ⟨(RX12, TX12, 33), rfl, aw_mem 1101 (by decide +kernel) (by decide +kernel), aw_mem 1102 (by decide +kernel) (by decide +kernel), aw_mem 1103 (by decide +kernel) (by decide +kernel)⟩
theorem cvL_36 : aw_cV RL 36 12 mX12_clear := ⟨(RX12, TX12, 33), rfl, aw_mem 1105 (by decide +kernel) (by decide +kernel), aw_mem 1106 (by decide +kernel) (by decide +kernel), aw_mem 1107 (by decide +kernel) (by decide +kernel)⟩
theorem cvL_40 : aw_cV RL 40 12 mX12_read := ⟨(RX12, TX12, 33), rfl, aw_mem 1109 (by decide +kernel) (by decide +kernel), aw_mem 1110 (by decide +kernel) (by decide +kernel), aw_mem 1111 (by decide +kernel) (by decide +kernel)⟩
theorem cvX12_177 : aw_cV RX12 177 12 mX12_readsGold := ⟨(RX12, TX12, 33), rfl, aw_mem 1113 (by decide +kernel) (by decide +kernel), aw_mem 1115 (by decide +kernel) (by decide +kernel), aw_mem 40 (by decide +kernel) (by decide +kernel)⟩
theorem cvX12_135 : aw_cV RX12 135 12 mX12_skip := ⟨(RX12, TX12, 33), rfl, aw_mem 1117 (by decide +kernel) (by decide +kernel), aw_mem 1119 (by decide +kernel) (by decide +kernel), aw_mem 41 (by decide +kernel) (by decide +kernel)⟩
theorem cvX12_118 : aw_cV RX12 118 12 mX12_here := ⟨(RX12, TX12, 33), rfl, aw_mem 1121 (by decide +kernel) (by decide +kernel), aw_mem 1123 (by decide +kernel) (by decide +kernel), aw_mem 42 (by decide +kernel) (by decide +kernel)⟩
theorem cvX12_162 : aw_cV RX12 162 12 mX12_wordHere := ⟨(RX12, TX12, 33), rfl, aw_mem 1125 (by decide +kernel) (by decide +kernel), aw_mem 1127 (by decide +kernel) (by decide +kernel), aw_mem 43 (by decide +kernel) (by decide +kernel)⟩
theorem cvX12_128 : aw_cV RX12 128 12 mX12_wordSize := ⟨(RX12, TX12, 33), rfl, aw_mem 1129 (by decide +kernel) (by decide +kernel), aw_mem 1131 (by decide +kernel) (by decide +kernel), aw_mem 44 (by decide +kernel) (by decide +kernel)⟩
theorem csX12_121 : aw_cS RX12 121 mX12_isLetter := ⟨aw_mem 1133 (by decide +kernel) (by decide +kernel), aw_mem 1134 (by decide +kernel) (by decide +kernel)⟩
theorem cvX12_131 : aw_cV RX12 131 12 mX12_spells := ⟨(RX12, TX12, 33), rfl, aw_mem 1136 (by decide +kernel) (by decide +kernel), aw_mem 1138 (by decide +kernel) (by decide +kernel), aw_mem 45 (by decide +kernel) (by decide +kernel)⟩
theorem cvX12_124 : aw_cV RX12 124 12 mX12_letter := ⟨(RX12, TX12, 33), rfl, aw_mem 1140 (by decide +kernel) (by decide +kernel), aw_mem 1142 (by decide +kernel) (by decide +kernel), aw_mem 46 (by decide +kernel) (by decide +kernel)⟩
theorem cvX12_151 : aw_cV RX12 151 12 mX12_ends := ⟨(RX12, TX12, 33), rfl, aw_mem 1144 (by decide +kernel) (by decide +kernel), aw_mem 1146 (by decide +kernel) (by decide +kernel), aw_mem 47 (by decide +kernel) (by decide +kernel)⟩
theorem cvX12_174 : aw_cV RX12 174 12 mX12_readsItem := ⟨(RX12, TX12, 33), rfl, aw_mem 1148 (by decide +kernel) (by decide +kernel), aw_mem 1150 (by decide +kernel) (by decide +kernel), aw_mem 48 (by decide +kernel) (by decide +kernel)⟩
theorem cvX12_165 : aw_cV RX12 165 12 mX12_readsOne := ⟨(RX12, TX12, 33), rfl, aw_mem 1152 (by decide +kernel) (by decide +kernel), aw_mem 1154 (by decide +kernel) (by decide +kernel), aw_mem 49 (by decide +kernel) (by decide +kernel)⟩
theorem cvX12_147 : aw_cV RX12 147 12 mX12_number := ⟨(RX12, TX12, 33), rfl, aw_mem 1156 (by decide +kernel) (by decide +kernel), aw_mem 1158 (by decide +kernel) (by decide +kernel), aw_mem 50 (by decide +kernel) (by decide +kernel)⟩
theorem csX12_138 : aw_cS RX12 138 mX12_isFigure := ⟨aw_mem 1160 (by decide +kernel) (by decide +kernel), aw_mem 1161 (by decide +kernel) (by decide +kernel)⟩
theorem cvX12_168 : aw_cV RX12 168 12 mX12_readsHands := ⟨(RX12, TX12, 33), rfl, aw_mem 1163 (by decide +kernel) (by decide +kernel), aw_mem 1165 (by decide +kernel) (by decide +kernel), aw_mem 51 (by decide +kernel) (by decide +kernel)⟩
theorem cvX12_171 : aw_cV RX12 171 12 mX12_readsLie := ⟨(RX12, TX12, 33), rfl, aw_mem 1167 (by decide +kernel) (by decide +kernel), aw_mem 1169 (by decide +kernel) (by decide +kernel), aw_mem 52 (by decide +kernel) (by decide +kernel)⟩
theorem csX12_155 : aw_cS RX12 155 mX12_lieBy := ⟨aw_mem 1171 (by decide +kernel) (by decide +kernel), aw_mem 1172 (by decide +kernel) (by decide +kernel)⟩
theorem cvL_45 : aw_cV RL 45 12 mX12_lie := ⟨(RX12, TX12, 33), rfl, aw_mem 1174 (by decide +kernel) (by decide +kernel), aw_mem 1175 (by decide +kernel) (by decide +kernel), aw_mem 1176 (by decide +kernel) (by decide +kernel)⟩
theorem cvX12_202 : aw_cV RX12 202 12 mX12_notes := ⟨(RX12, TX12, 33), rfl, aw_mem 1178 (by decide +kernel) (by decide +kernel), aw_mem 1180 (by decide +kernel) (by decide +kernel), aw_mem 53 (by decide +kernel) (by decide +kernel)⟩
theorem cvX12_189 : aw_cV RX12 189 12 mX12_lays := ⟨(RX12, TX12, 33), rfl, aw_mem 1182 (by decide +kernel) (by decide +kernel), aw_mem 1184 (by decide +kernel) (by decide +kernel), aw_mem 54 (by decide +kernel) (by decide +kernel)⟩
theorem cvX12_205 : aw_cV RX12 205 12 mX12_lies := ⟨(RX12, TX12, 33), rfl, aw_mem 1186 (by decide +kernel) (by decide +kernel), aw_mem 1188 (by decide +kernel) (by decide +kernel), aw_mem 55 (by decide +kernel) (by decide +kernel)⟩
theorem cvX12_196 : aw_cV RX12 196 12 mX12_honestBehind := ⟨(RX12, TX12, 33), rfl, aw_mem 1190 (by decide +kernel) (by decide +kernel), aw_mem 1192 (by decide +kernel) (by decide +kernel), aw_mem 56 (by decide +kernel) (by decide +kernel)⟩
theorem cvL_49 : aw_cV RL 49 12 mX12_give := ⟨(RX12, TX12, 33), rfl, aw_mem 1194 (by decide +kernel) (by decide +kernel), aw_mem 1195 (by decide +kernel) (by decide +kernel), aw_mem 1196 (by decide +kernel) (by decide +kernel)⟩
theorem csX12_199 : aw_cS RX12 199 mX12_has := ⟨aw_mem 1198 (by decide +kernel) (by decide +kernel), aw_mem 1199 (by decide +kernel) (by decide +kernel)⟩
theorem cvX12_209 : aw_cV RX12 209 12 mX12_no := ⟨(RX12, TX12, 33), rfl, aw_mem 1201 (by decide +kernel) (by decide +kernel), aw_mem 1203 (by decide +kernel) (by decide +kernel), aw_mem 57 (by decide +kernel) (by decide +kernel)⟩
theorem cvL_53 : aw_cV RL 53 12 mX12_day := ⟨(RX12, TX12, 33), rfl, aw_mem 1205 (by decide +kernel) (by decide +kernel), aw_mem 1206 (by decide +kernel) (by decide +kernel), aw_mem 1207 (by decide +kernel) (by decide +kernel)⟩
theorem cvX12_212 : aw_cV RX12 212 12 mX12_pass := ⟨(RX12, TX12, 33), rfl, aw_mem 1209 (by decide +kernel) (by decide +kernel), aw_mem 1211 (by decide +kernel) (by decide +kernel), aw_mem 58 (by decide +kernel) (by decide +kernel)⟩
theorem csX12_180 : aw_cS RX12 180 mX12_lesser := ⟨aw_mem 1213 (by decide +kernel) (by decide +kernel), aw_mem 1214 (by decide +kernel) (by decide +kernel)⟩
theorem cvL_57 : aw_cV RL 57 12 mX12_undo := ⟨(RX12, TX12, 33), rfl, aw_mem 1216 (by decide +kernel) (by decide +kernel), aw_mem 1217 (by decide +kernel) (by decide +kernel), aw_mem 1218 (by decide +kernel) (by decide +kernel)⟩
theorem cvX12_193 : aw_cV RX12 193 12 mX12_takes := ⟨(RX12, TX12, 33), rfl, aw_mem 1220 (by decide +kernel) (by decide +kernel), aw_mem 1222 (by decide +kernel) (by decide +kernel), aw_mem 59 (by decide +kernel) (by decide +kernel)⟩
theorem cvL_61 : aw_cV RL 61 12 mX12_of := ⟨(RX12, TX12, 33), rfl, aw_mem 1224 (by decide +kernel) (by decide +kernel), aw_mem 1225 (by decide +kernel) (by decide +kernel), aw_mem 1226 (by decide +kernel) (by decide +kernel)⟩
theorem cvX12_215 : aw_cV RX12 215 12 mX12_ownWeight := ⟨(RX12, TX12, 33), rfl, aw_mem 1228 (by decide +kernel) (by decide +kernel), aw_mem 1230 (by decide +kernel) (by decide +kernel), aw_mem 60 (by decide +kernel) (by decide +kernel)⟩
theorem cvX12_186 : aw_cV RX12 186 12 mX12_weight := ⟨(RX12, TX12, 33), rfl, aw_mem 1232 (by decide +kernel) (by decide +kernel), aw_mem 1234 (by decide +kernel) (by decide +kernel), aw_mem 61 (by decide +kernel) (by decide +kernel)⟩
theorem csX12_183 : aw_cS RX12 183 mX12_weightBy := ⟨aw_mem 1236 (by decide +kernel) (by decide +kernel), aw_mem 1237 (by decide +kernel) (by decide +kernel)⟩
theorem cvL_65 : aw_cV RL 65 12 mX12_weighs := ⟨(RX12, TX12, 33), rfl, aw_mem 1239 (by decide +kernel) (by decide +kernel), aw_mem 1240 (by decide +kernel) (by decide +kernel), aw_mem 1241 (by decide +kernel) (by decide +kernel)⟩
theorem cvL_69 : aw_cV RL 69 12 mX12_all := ⟨(RX12, TX12, 33), rfl, aw_mem 1243 (by decide +kernel) (by decide +kernel), aw_mem 1244 (by decide +kernel) (by decide +kernel), aw_mem 1245 (by decide +kernel) (by decide +kernel)⟩
theorem cvL_73 : aw_cV RL 73 12 mX12_when := ⟨(RX12, TX12, 33), rfl, aw_mem 1247 (by decide +kernel) (by decide +kernel), aw_mem 1248 (by decide +kernel) (by decide +kernel), aw_mem 1249 (by decide +kernel) (by decide +kernel)⟩
theorem cvL_77 : aw_cV RL 77 12 mX12_bag := ⟨(RX12, TX12, 33), rfl, aw_mem 1251 (by decide +kernel) (by decide +kernel), aw_mem 1252 (by decide +kernel) (by decide +kernel), aw_mem 1253 (by decide +kernel) (by decide +kernel)⟩
theorem cvX12_219 : aw_cV RX12 219 12 mX12_ten := ⟨(RX12, TX12, 33), rfl, aw_mem 1255 (by decide +kernel) (by decide +kernel), aw_mem 1257 (by decide +kernel) (by decide +kernel), aw_mem 62 (by decide +kernel) (by decide +kernel)⟩
theorem cvX12_222 : aw_cV RX12 222 12 mX12_setSteps := ⟨(RX12, TX12, 33), rfl, aw_mem 1259 (by decide +kernel) (by decide +kernel), aw_mem 1261 (by decide +kernel) (by decide +kernel), aw_mem 63 (by decide +kernel) (by decide +kernel)⟩
theorem kcX12_218 : Cond.constant RX12 218 (1048576) ∈ aw_T := aw_mem 1263 (by decide +kernel) (by decide +kernel)
theorem cvL_81 : aw_cV RL 81 12 mX12_debt := ⟨(RX12, TX12, 33), rfl, aw_mem 1264 (by decide +kernel) (by decide +kernel), aw_mem 1265 (by decide +kernel) (by decide +kernel), aw_mem 1266 (by decide +kernel) (by decide +kernel)⟩
theorem cvL_85 : aw_cV RL 85 12 mX12_hire := ⟨(RX12, TX12, 33), rfl, aw_mem 1268 (by decide +kernel) (by decide +kernel), aw_mem 1269 (by decide +kernel) (by decide +kernel), aw_mem 1270 (by decide +kernel) (by decide +kernel)⟩
theorem cvL_89 : aw_cV RL 89 12 mX12_shelves := ⟨(RX12, TX12, 33), rfl, aw_mem 1272 (by decide +kernel) (by decide +kernel), aw_mem 1273 (by decide +kernel) (by decide +kernel), aw_mem 1274 (by decide +kernel) (by decide +kernel)⟩
theorem cvX12_225 : aw_cV RX12 225 12 mX12_nextBags := ⟨(RX12, TX12, 33), rfl, aw_mem 1276 (by decide +kernel) (by decide +kernel), aw_mem 1278 (by decide +kernel) (by decide +kernel), aw_mem 64 (by decide +kernel) (by decide +kernel)⟩
theorem cvL_93 : aw_cV RL 93 12 mX12_note := ⟨(RX12, TX12, 33), rfl, aw_mem 1280 (by decide +kernel) (by decide +kernel), aw_mem 1281 (by decide +kernel) (by decide +kernel), aw_mem 1282 (by decide +kernel) (by decide +kernel)⟩
theorem cvL_97 : aw_cV RL 97 12 mX12_forget := ⟨(RX12, TX12, 33), rfl, aw_mem 1284 (by decide +kernel) (by decide +kernel), aw_mem 1285 (by decide +kernel) (by decide +kernel), aw_mem 1286 (by decide +kernel) (by decide +kernel)⟩
theorem cvL_101 : aw_cV RL 101 12 mX12_is := ⟨(RX12, TX12, 33), rfl, aw_mem 1288 (by decide +kernel) (by decide +kernel), aw_mem 1289 (by decide +kernel) (by decide +kernel), aw_mem 1290 (by decide +kernel) (by decide +kernel)⟩
theorem cvX12_231 : aw_cV RX12 231 12 mX12_kindsOf := ⟨(RX12, TX12, 33), rfl, aw_mem 1292 (by decide +kernel) (by decide +kernel), aw_mem 1294 (by decide +kernel) (by decide +kernel), aw_mem 65 (by decide +kernel) (by decide +kernel)⟩
theorem cvX12_228 : aw_cV RX12 228 12 mX12_isSo := ⟨(RX12, TX12, 33), rfl, aw_mem 1296 (by decide +kernel) (by decide +kernel), aw_mem 1298 (by decide +kernel) (by decide +kernel), aw_mem 66 (by decide +kernel) (by decide +kernel)⟩
theorem cvL_105 : aw_cV RL 105 12 mX12_next := ⟨(RX12, TX12, 33), rfl, aw_mem 1300 (by decide +kernel) (by decide +kernel), aw_mem 1301 (by decide +kernel) (by decide +kernel), aw_mem 1302 (by decide +kernel) (by decide +kernel)⟩
theorem cvX12_234 : aw_cV RX12 234 12 mX12_alike := ⟨(RX12, TX12, 33), rfl, aw_mem 1304 (by decide +kernel) (by decide +kernel), aw_mem 1306 (by decide +kernel) (by decide +kernel), aw_mem 67 (by decide +kernel) (by decide +kernel)⟩
theorem cvL_109 : aw_cV RL 109 12 mX12_two := ⟨(RX12, TX12, 33), rfl, aw_mem 1308 (by decide +kernel) (by decide +kernel), aw_mem 1309 (by decide +kernel) (by decide +kernel), aw_mem 1310 (by decide +kernel) (by decide +kernel)⟩
theorem cvX12_238 : aw_cV RX12 238 12 mX12_gets := ⟨(RX12, TX12, 33), rfl, aw_mem 1312 (by decide +kernel) (by decide +kernel), aw_mem 1314 (by decide +kernel) (by decide +kernel), aw_mem 68 (by decide +kernel) (by decide +kernel)⟩
theorem cvL_113 : aw_cV RL 113 12 mX12_winds := ⟨(RX12, TX12, 33), rfl, aw_mem 1316 (by decide +kernel) (by decide +kernel), aw_mem 1317 (by decide +kernel) (by decide +kernel), aw_mem 1318 (by decide +kernel) (by decide +kernel)⟩
theorem klX12_245 : Cond.constantLong RX12 245 (10) ∈ aw_T := aw_mem 1320 (by decide +kernel) (by decide +kernel)
theorem cvX12_247 : aw_cV RX12 247 12 mX12_lay := ⟨(RX12, TX12, 33), rfl, aw_mem 1321 (by decide +kernel) (by decide +kernel), aw_mem 1323 (by decide +kernel) (by decide +kernel), aw_mem 69 (by decide +kernel) (by decide +kernel)⟩
theorem cvL_117 : aw_cV RL 117 12 mX12_years := ⟨(RX12, TX12, 33), rfl, aw_mem 1325 (by decide +kernel) (by decide +kernel), aw_mem 1326 (by decide +kernel) (by decide +kernel), aw_mem 1327 (by decide +kernel) (by decide +kernel)⟩
theorem kcX12_251 : Cond.constant RX12 251 (999999) ∈ aw_T := aw_mem 1329 (by decide +kernel) (by decide +kernel)
theorem cvX12_252 : aw_cV RX12 252 12 mX12_puts := ⟨(RX12, TX12, 33), rfl, aw_mem 1330 (by decide +kernel) (by decide +kernel), aw_mem 1332 (by decide +kernel) (by decide +kernel), aw_mem 70 (by decide +kernel) (by decide +kernel)⟩
theorem klX12_255 : Cond.constantLong RX12 255 (1103515245) ∈ aw_T := aw_mem 1334 (by decide +kernel) (by decide +kernel)
theorem klX12_257 : Cond.constantLong RX12 257 (12345) ∈ aw_T := aw_mem 1335 (by decide +kernel) (by decide +kernel)
theorem klX12_259 : Cond.constantLong RX12 259 (2147483648) ∈ aw_T := aw_mem 1336 (by decide +kernel) (by decide +kernel)
theorem klX12_261 : Cond.constantLong RX12 261 (65536) ∈ aw_T := aw_mem 1337 (by decide +kernel) (by decide +kernel)
theorem klX12_263 : Cond.constantLong RX12 263 (6) ∈ aw_T := aw_mem 1338 (by decide +kernel) (by decide +kernel)
theorem klX12_265 : Cond.constantLong RX12 265 (1048576) ∈ aw_T := aw_mem 1339 (by decide +kernel) (by decide +kernel)
theorem klX12_267 : Cond.constantLong RX12 267 (5) ∈ aw_T := aw_mem 1340 (by decide +kernel) (by decide +kernel)
theorem cvX12_269 : aw_cV RX12 269 12 mX12_all := ⟨(RX12, TX12, 33), rfl, aw_mem 1341 (by decide +kernel) (by decide +kernel), aw_mem 1244 (by decide +kernel) (by decide +kernel), aw_mem 1245 (by decide +kernel) (by decide +kernel)⟩
theorem cvX12_272 : aw_cV RX12 272 12 mX12_back := ⟨(RX12, TX12, 33), rfl, aw_mem 1342 (by decide +kernel) (by decide +kernel), aw_mem 1344 (by decide +kernel) (by decide +kernel), aw_mem 71 (by decide +kernel) (by decide +kernel)⟩
theorem cvL_122 : aw_cV RL 122 12 mX12_part := ⟨(RX12, TX12, 33), rfl, aw_mem 1346 (by decide +kernel) (by decide +kernel), aw_mem 1347 (by decide +kernel) (by decide +kernel), aw_mem 1348 (by decide +kernel) (by decide +kernel)⟩
theorem cvL_126 : aw_cV RL 126 12 mX12_image := ⟨(RX12, TX12, 33), rfl, aw_mem 1350 (by decide +kernel) (by decide +kernel), aw_mem 1351 (by decide +kernel) (by decide +kernel), aw_mem 1352 (by decide +kernel) (by decide +kernel)⟩
theorem cvL_130 : aw_cV RL 130 12 mX12_from := ⟨(RX12, TX12, 33), rfl, aw_mem 1354 (by decide +kernel) (by decide +kernel), aw_mem 1355 (by decide +kernel) (by decide +kernel), aw_mem 1356 (by decide +kernel) (by decide +kernel)⟩
theorem cvL_134 : aw_cV RL 134 12 mX12_status := ⟨(RX12, TX12, 33), rfl, aw_mem 1358 (by decide +kernel) (by decide +kernel), aw_mem 1359 (by decide +kernel) (by decide +kernel), aw_mem 1360 (by decide +kernel) (by decide +kernel)⟩
theorem cvL_138 : aw_cV RL 138 12 mX12_count := ⟨(RX12, TX12, 33), rfl, aw_mem 1362 (by decide +kernel) (by decide +kernel), aw_mem 1363 (by decide +kernel) (by decide +kernel), aw_mem 1364 (by decide +kernel) (by decide +kernel)⟩
theorem cvX12_281 : aw_cV RX12 281 12 mX12_countOf := ⟨(RX12, TX12, 33), rfl, aw_mem 1366 (by decide +kernel) (by decide +kernel), aw_mem 1368 (by decide +kernel) (by decide +kernel), aw_mem 72 (by decide +kernel) (by decide +kernel)⟩
theorem cvX12_275 : aw_cV RX12 275 12 mX12_allPieces := ⟨(RX12, TX12, 33), rfl, aw_mem 1370 (by decide +kernel) (by decide +kernel), aw_mem 1372 (by decide +kernel) (by decide +kernel), aw_mem 73 (by decide +kernel) (by decide +kernel)⟩
theorem csX12_278 : aw_cS RX12 278 mX12_bits := ⟨aw_mem 1374 (by decide +kernel) (by decide +kernel), aw_mem 1375 (by decide +kernel) (by decide +kernel)⟩
theorem cvL_143 : aw_cV RL 143 12 mX12_digest := ⟨(RX12, TX12, 33), rfl, aw_mem 1377 (by decide +kernel) (by decide +kernel), aw_mem 1378 (by decide +kernel) (by decide +kernel), aw_mem 1379 (by decide +kernel) (by decide +kernel)⟩
theorem klX12_289 : Cond.constantLong RX12 289 (1307) ∈ aw_T := aw_mem 1381 (by decide +kernel) (by decide +kernel)
theorem cvX12_291 : aw_cV RX12 291 12 mX12_mix := ⟨(RX12, TX12, 33), rfl, aw_mem 1382 (by decide +kernel) (by decide +kernel), aw_mem 1384 (by decide +kernel) (by decide +kernel), aw_mem 74 (by decide +kernel) (by decide +kernel)⟩
theorem klX12_284 : Cond.constantLong RX12 284 (31) ∈ aw_T := aw_mem 1386 (by decide +kernel) (by decide +kernel)
theorem ac_I : Cond.arrayClass .int ∈ aw_T := aw_mem 174 (by decide +kernel) (by decide +kernel)
theorem oi_1 : Cond.instanceMethod objectInit ∈ aw_T := aw_mem 101 (by decide +kernel) (by decide +kernel)
theorem oi_2 : Cond.code objectInit ⟨#[0xb1]⟩ 1 none ∈ aw_T := aw_mem 102 (by decide +kernel) (by decide +kernel)
end
