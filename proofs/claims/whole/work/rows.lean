section
-- ===== PART A: goes FIRST, ahead of the names: the tables' words, and 'selects' of the private methods out of them =====
/-- a private method of a class that the tables say can be made, by its rows of tables_1 -/
def lw_okq (q : MethodName × Nat) : Prop := (q.1.cls ≠ "java/lang/invoke/MethodHandle" ∧ q.1.cls ≠ "java/lang/invoke/VarHandle") ∧ Cond.instantiable q.1.cls q.2 ∈ tables_1 ∧ Cond.privateMethod q.1 ∈ tables_1 ∧ Cond.instanceMethod q.1 ∈ tables_1
theorem lw_p0 : lw_okq (⟨"HonestGold", "refuseBad", "()I"⟩, 10) := ⟨⟨by decide +kernel, by decide +kernel⟩, List.mem_of_getElem? (i := 21) (by decide +kernel), List.mem_of_getElem? (i := 257) (by decide +kernel), List.mem_of_getElem? (i := 258) (by decide +kernel)⟩
theorem lw_p1 : lw_okq (⟨"HonestGold", "refuseFull", "()I"⟩, 10) := ⟨⟨by decide +kernel, by decide +kernel⟩, List.mem_of_getElem? (i := 21) (by decide +kernel), List.mem_of_getElem? (i := 261) (by decide +kernel), List.mem_of_getElem? (i := 262) (by decide +kernel)⟩
theorem lw_p2 : lw_okq (⟨"HonestGold", "twoOfThem", "(II)Z"⟩, 10) := ⟨⟨by decide +kernel, by decide +kernel⟩, List.mem_of_getElem? (i := 21) (by decide +kernel), List.mem_of_getElem? (i := 277) (by decide +kernel), List.mem_of_getElem? (i := 278) (by decide +kernel)⟩
theorem lw_p3 : lw_okq (⟨"HonestGold$Reader", "step", "()V"⟩, 7) := ⟨⟨by decide +kernel, by decide +kernel⟩, List.mem_of_getElem? (i := 152) (by decide +kernel), List.mem_of_getElem? (i := 323) (by decide +kernel), List.mem_of_getElem? (i := 324) (by decide +kernel)⟩
theorem lw_p4 : lw_okq (⟨"HonestGold$Reader", "runEnd", "(III)I"⟩, 7) := ⟨⟨by decide +kernel, by decide +kernel⟩, List.mem_of_getElem? (i := 152) (by decide +kernel), List.mem_of_getElem? (i := 327) (by decide +kernel), List.mem_of_getElem? (i := 328) (by decide +kernel)⟩
theorem lw_p5 : lw_okq (⟨"HonestGold$Reader", "byteAt", "(I)I"⟩, 7) := ⟨⟨by decide +kernel, by decide +kernel⟩, List.mem_of_getElem? (i := 152) (by decide +kernel), List.mem_of_getElem? (i := 331) (by decide +kernel), List.mem_of_getElem? (i := 332) (by decide +kernel)⟩
theorem lw_p6 : lw_okq (⟨"HonestGold$Reader", "numberBetween", "(II)I"⟩, 7) := ⟨⟨by decide +kernel, by decide +kernel⟩, List.mem_of_getElem? (i := 152) (by decide +kernel), List.mem_of_getElem? (i := 335) (by decide +kernel), List.mem_of_getElem? (i := 336) (by decide +kernel)⟩
theorem lw_p7 : lw_okq (⟨"HonestGold$Reader", "takeGold", "()V"⟩, 7) := ⟨⟨by decide +kernel, by decide +kernel⟩, List.mem_of_getElem? (i := 152) (by decide +kernel), List.mem_of_getElem? (i := 339) (by decide +kernel), List.mem_of_getElem? (i := 340) (by decide +kernel)⟩
theorem lw_p8 : lw_okq (⟨"HonestGold$Reader", "isWord", "(Ljava/lang/String;)Z"⟩, 7) := ⟨⟨by decide +kernel, by decide +kernel⟩, List.mem_of_getElem? (i := 152) (by decide +kernel), List.mem_of_getElem? (i := 344) (by decide +kernel), List.mem_of_getElem? (i := 345) (by decide +kernel)⟩
theorem lw_p9 : lw_okq (⟨"HonestGold$Reader", "failHere", "()V"⟩, 7) := ⟨⟨by decide +kernel, by decide +kernel⟩, List.mem_of_getElem? (i := 152) (by decide +kernel), List.mem_of_getElem? (i := 396) (by decide +kernel), List.mem_of_getElem? (i := 397) (by decide +kernel)⟩
theorem lw_p10 : lw_okq (⟨"HonestGold$Reader", "takeStop", "()V"⟩, 7) := ⟨⟨by decide +kernel, by decide +kernel⟩, List.mem_of_getElem? (i := 152) (by decide +kernel), List.mem_of_getElem? (i := 400) (by decide +kernel), List.mem_of_getElem? (i := 401) (by decide +kernel)⟩
theorem lw_p11 : lw_okq (⟨"HonestGold$Reader", "takeOne", "(LHonestGold$Treasury;)V"⟩, 7) := ⟨⟨by decide +kernel, by decide +kernel⟩, List.mem_of_getElem? (i := 152) (by decide +kernel), List.mem_of_getElem? (i := 406) (by decide +kernel), List.mem_of_getElem? (i := 407) (by decide +kernel)⟩
theorem lw_p12 : lw_okq (⟨"HonestGold$Reader", "takeNumber", "(II)I"⟩, 7) := ⟨⟨by decide +kernel, by decide +kernel⟩, List.mem_of_getElem? (i := 152) (by decide +kernel), List.mem_of_getElem? (i := 410) (by decide +kernel), List.mem_of_getElem? (i := 411) (by decide +kernel)⟩
theorem lw_p13 : lw_okq (⟨"HonestGold$Reader", "takeHands", "(LHonestGold$Treasury;)V"⟩, 7) := ⟨⟨by decide +kernel, by decide +kernel⟩, List.mem_of_getElem? (i := 152) (by decide +kernel), List.mem_of_getElem? (i := 416) (by decide +kernel), List.mem_of_getElem? (i := 417) (by decide +kernel)⟩
theorem lw_p14 : lw_okq (⟨"HonestGold$Reader", "takeLie", "(LHonestGold$Treasury;)V"⟩, 7) := ⟨⟨by decide +kernel, by decide +kernel⟩, List.mem_of_getElem? (i := 152) (by decide +kernel), List.mem_of_getElem? (i := 422) (by decide +kernel), List.mem_of_getElem? (i := 423) (by decide +kernel)⟩
theorem lw_p15 : lw_okq (⟨"HonestGold$Treasury", "honestyBehindLie", "(II)I"⟩, 12) := ⟨⟨by decide +kernel, by decide +kernel⟩, List.mem_of_getElem? (i := 29) (by decide +kernel), List.mem_of_getElem? (i := 430) (by decide +kernel), List.mem_of_getElem? (i := 431) (by decide +kernel)⟩
def lw_privs_1 : List (MethodName × Nat) := [(⟨"HonestGold", "refuseBad", "()I"⟩, 10), (⟨"HonestGold", "refuseFull", "()I"⟩, 10), (⟨"HonestGold", "twoOfThem", "(II)Z"⟩, 10), (⟨"HonestGold$Reader", "step", "()V"⟩, 7), (⟨"HonestGold$Reader", "runEnd", "(III)I"⟩, 7), (⟨"HonestGold$Reader", "byteAt", "(I)I"⟩, 7), (⟨"HonestGold$Reader", "numberBetween", "(II)I"⟩, 7), (⟨"HonestGold$Reader", "takeGold", "()V"⟩, 7), (⟨"HonestGold$Reader", "isWord", "(Ljava/lang/String;)Z"⟩, 7), (⟨"HonestGold$Reader", "failHere", "()V"⟩, 7), (⟨"HonestGold$Reader", "takeStop", "()V"⟩, 7), (⟨"HonestGold$Reader", "takeOne", "(LHonestGold$Treasury;)V"⟩, 7), (⟨"HonestGold$Reader", "takeNumber", "(II)I"⟩, 7), (⟨"HonestGold$Reader", "takeHands", "(LHonestGold$Treasury;)V"⟩, 7), (⟨"HonestGold$Reader", "takeLie", "(LHonestGold$Treasury;)V"⟩, 7), (⟨"HonestGold$Treasury", "honestyBehindLie", "(II)I"⟩, 12)]
theorem lw_r1 : ∀ q ∈ lw_privs_1, lw_okq q := List.forall_mem_cons.mpr ⟨lw_p0, List.forall_mem_cons.mpr ⟨lw_p1, List.forall_mem_cons.mpr ⟨lw_p2, List.forall_mem_cons.mpr ⟨lw_p3, List.forall_mem_cons.mpr ⟨lw_p4, List.forall_mem_cons.mpr ⟨lw_p5, List.forall_mem_cons.mpr ⟨lw_p6, List.forall_mem_cons.mpr ⟨lw_p7, List.forall_mem_cons.mpr ⟨lw_p8, List.forall_mem_cons.mpr ⟨lw_p9, List.forall_mem_cons.mpr ⟨lw_p10, List.forall_mem_cons.mpr ⟨lw_p11, List.forall_mem_cons.mpr ⟨lw_p12, List.forall_mem_cons.mpr ⟨lw_p13, List.forall_mem_cons.mpr ⟨lw_p14, List.forall_mem_cons.mpr ⟨lw_p15, fun _ h => absurd h List.not_mem_nil⟩⟩⟩⟩⟩⟩⟩⟩⟩⟩⟩⟩⟩⟩⟩⟩
theorem lw_p16 : lw_okq (⟨"HonestGold$Treasury", "kindNumbered", "(I)LHonestGold$Plain;"⟩, 12) := ⟨⟨by decide +kernel, by decide +kernel⟩, List.mem_of_getElem? (i := 29) (by decide +kernel), List.mem_of_getElem? (i := 442) (by decide +kernel), List.mem_of_getElem? (i := 443) (by decide +kernel)⟩
theorem lw_p17 : lw_okq (⟨"HonestGold$Past", "placeOf", "(I)I"⟩, 2) := ⟨⟨by decide +kernel, by decide +kernel⟩, List.mem_of_getElem? (i := 101) (by decide +kernel), List.mem_of_getElem? (i := 501) (by decide +kernel), List.mem_of_getElem? (i := 502) (by decide +kernel)⟩
theorem lw_p18 : lw_okq (⟨"HonestGold", "refuseNo", "()I"⟩, 10) := ⟨⟨by decide +kernel, by decide +kernel⟩, List.mem_of_getElem? (i := 21) (by decide +kernel), List.mem_of_getElem? (i := 515) (by decide +kernel), List.mem_of_getElem? (i := 516) (by decide +kernel)⟩
theorem lw_p19 : lw_okq (⟨"HonestGold$Treasury", "honestyAfter", "(II)I"⟩, 12) := ⟨⟨by decide +kernel, by decide +kernel⟩, List.mem_of_getElem? (i := 29) (by decide +kernel), List.mem_of_getElem? (i := 531) (by decide +kernel), List.mem_of_getElem? (i := 532) (by decide +kernel)⟩
theorem lw_p20 : lw_okq (⟨"HonestGold$Ways", "weighEach", "(LHonestGold$Treasury;I)V"⟩, 4) := ⟨⟨by decide +kernel, by decide +kernel⟩, List.mem_of_getElem? (i := 180) (by decide +kernel), List.mem_of_getElem? (i := 649) (by decide +kernel), List.mem_of_getElem? (i := 650) (by decide +kernel)⟩
theorem lw_p21 : lw_okq (⟨"HonestGold$Ways", "heftOf", "(I)I"⟩, 4) := ⟨⟨by decide +kernel, by decide +kernel⟩, List.mem_of_getElem? (i := 180) (by decide +kernel), List.mem_of_getElem? (i := 656) (by decide +kernel), List.mem_of_getElem? (i := 657) (by decide +kernel)⟩
theorem lw_p22 : lw_okq (⟨"HonestGold$Ways", "measure", "(LHonestGold$Treasury;III)I"⟩, 4) := ⟨⟨by decide +kernel, by decide +kernel⟩, List.mem_of_getElem? (i := 180) (by decide +kernel), List.mem_of_getElem? (i := 660) (by decide +kernel), List.mem_of_getElem? (i := 661) (by decide +kernel)⟩
theorem lw_p23 : lw_okq (⟨"HonestGold$Ways", "handsToOneAt", "(LHonestGold$Treasury;II)Z"⟩, 4) := ⟨⟨by decide +kernel, by decide +kernel⟩, List.mem_of_getElem? (i := 180) (by decide +kernel), List.mem_of_getElem? (i := 664) (by decide +kernel), List.mem_of_getElem? (i := 665) (by decide +kernel)⟩
theorem lw_p24 : lw_okq (⟨"HonestGold$Ways", "farOf", "(I)I"⟩, 4) := ⟨⟨by decide +kernel, by decide +kernel⟩, List.mem_of_getElem? (i := 180) (by decide +kernel), List.mem_of_getElem? (i := 669) (by decide +kernel), List.mem_of_getElem? (i := 670) (by decide +kernel)⟩
theorem lw_p25 : lw_okq (⟨"HonestGold$Ways", "nearerHand", "(LHonestGold$Treasury;I)I"⟩, 4) := ⟨⟨by decide +kernel, by decide +kernel⟩, List.mem_of_getElem? (i := 180) (by decide +kernel), List.mem_of_getElem? (i := 677) (by decide +kernel), List.mem_of_getElem? (i := 678) (by decide +kernel)⟩
theorem lw_p26 : lw_okq (⟨"HonestGold$Ways", "weighBags", "(LHonestGold$Treasury;II)V"⟩, 4) := ⟨⟨by decide +kernel, by decide +kernel⟩, List.mem_of_getElem? (i := 180) (by decide +kernel), List.mem_of_getElem? (i := 714) (by decide +kernel), List.mem_of_getElem? (i := 715) (by decide +kernel)⟩
theorem lw_p27 : lw_okq (⟨"HonestGold$Ways", "lightestWith", "(II)I"⟩, 4) := ⟨⟨by decide +kernel, by decide +kernel⟩, List.mem_of_getElem? (i := 180) (by decide +kernel), List.mem_of_getElem? (i := 719) (by decide +kernel), List.mem_of_getElem? (i := 720) (by decide +kernel)⟩
theorem lw_p28 : lw_okq (⟨"HonestGold$Ways", "bagWeight", "(II)I"⟩, 4) := ⟨⟨by decide +kernel, by decide +kernel⟩, List.mem_of_getElem? (i := 180) (by decide +kernel), List.mem_of_getElem? (i := 729) (by decide +kernel), List.mem_of_getElem? (i := 730) (by decide +kernel)⟩
theorem lw_p29 : lw_okq (⟨"HonestGold$Ways", "lightestOf", "(I)I"⟩, 4) := ⟨⟨by decide +kernel, by decide +kernel⟩, List.mem_of_getElem? (i := 180) (by decide +kernel), List.mem_of_getElem? (i := 733) (by decide +kernel), List.mem_of_getElem? (i := 734) (by decide +kernel)⟩
theorem lw_p30 : lw_okq (⟨"HonestGold$Ways", "putLightest", "(II)V"⟩, 4) := ⟨⟨by decide +kernel, by decide +kernel⟩, List.mem_of_getElem? (i := 180) (by decide +kernel), List.mem_of_getElem? (i := 739) (by decide +kernel), List.mem_of_getElem? (i := 740) (by decide +kernel)⟩
theorem lw_p31 : lw_okq (⟨"HonestGold$Ways", "firstBag", "(II)I"⟩, 4) := ⟨⟨by decide +kernel, by decide +kernel⟩, List.mem_of_getElem? (i := 180) (by decide +kernel), List.mem_of_getElem? (i := 747) (by decide +kernel), List.mem_of_getElem? (i := 748) (by decide +kernel)⟩
def lw_privs_2 : List (MethodName × Nat) := [(⟨"HonestGold$Treasury", "kindNumbered", "(I)LHonestGold$Plain;"⟩, 12), (⟨"HonestGold$Past", "placeOf", "(I)I"⟩, 2), (⟨"HonestGold", "refuseNo", "()I"⟩, 10), (⟨"HonestGold$Treasury", "honestyAfter", "(II)I"⟩, 12), (⟨"HonestGold$Ways", "weighEach", "(LHonestGold$Treasury;I)V"⟩, 4), (⟨"HonestGold$Ways", "heftOf", "(I)I"⟩, 4), (⟨"HonestGold$Ways", "measure", "(LHonestGold$Treasury;III)I"⟩, 4), (⟨"HonestGold$Ways", "handsToOneAt", "(LHonestGold$Treasury;II)Z"⟩, 4), (⟨"HonestGold$Ways", "farOf", "(I)I"⟩, 4), (⟨"HonestGold$Ways", "nearerHand", "(LHonestGold$Treasury;I)I"⟩, 4), (⟨"HonestGold$Ways", "weighBags", "(LHonestGold$Treasury;II)V"⟩, 4), (⟨"HonestGold$Ways", "lightestWith", "(II)I"⟩, 4), (⟨"HonestGold$Ways", "bagWeight", "(II)I"⟩, 4), (⟨"HonestGold$Ways", "lightestOf", "(I)I"⟩, 4), (⟨"HonestGold$Ways", "putLightest", "(II)V"⟩, 4), (⟨"HonestGold$Ways", "firstBag", "(II)I"⟩, 4)]
theorem lw_r2 : ∀ q ∈ lw_privs_2, lw_okq q := List.forall_mem_cons.mpr ⟨lw_p16, List.forall_mem_cons.mpr ⟨lw_p17, List.forall_mem_cons.mpr ⟨lw_p18, List.forall_mem_cons.mpr ⟨lw_p19, List.forall_mem_cons.mpr ⟨lw_p20, List.forall_mem_cons.mpr ⟨lw_p21, List.forall_mem_cons.mpr ⟨lw_p22, List.forall_mem_cons.mpr ⟨lw_p23, List.forall_mem_cons.mpr ⟨lw_p24, List.forall_mem_cons.mpr ⟨lw_p25, List.forall_mem_cons.mpr ⟨lw_p26, List.forall_mem_cons.mpr ⟨lw_p27, List.forall_mem_cons.mpr ⟨lw_p28, List.forall_mem_cons.mpr ⟨lw_p29, List.forall_mem_cons.mpr ⟨lw_p30, List.forall_mem_cons.mpr ⟨lw_p31, fun _ h => absurd h List.not_mem_nil⟩⟩⟩⟩⟩⟩⟩⟩⟩⟩⟩⟩⟩⟩⟩⟩
theorem lw_p32 : lw_okq (⟨"HonestGold$Notes", "allFit", "(LHonestGold$Treasury;III)Z"⟩, 5) := ⟨⟨by decide +kernel, by decide +kernel⟩, List.mem_of_getElem? (i := 78) (by decide +kernel), List.mem_of_getElem? (i := 781) (by decide +kernel), List.mem_of_getElem? (i := 782) (by decide +kernel)⟩
theorem lw_p33 : lw_okq (⟨"HonestGold", "keepFraction", "(JJ)V"⟩, 10) := ⟨⟨by decide +kernel, by decide +kernel⟩, List.mem_of_getElem? (i := 21) (by decide +kernel), List.mem_of_getElem? (i := 819) (by decide +kernel), List.mem_of_getElem? (i := 820) (by decide +kernel)⟩
theorem lw_p34 : lw_okq (⟨"HonestGold", "counted", "(I)I"⟩, 10) := ⟨⟨by decide +kernel, by decide +kernel⟩, List.mem_of_getElem? (i := 21) (by decide +kernel), List.mem_of_getElem? (i := 855) (by decide +kernel), List.mem_of_getElem? (i := 856) (by decide +kernel)⟩
theorem lw_p35 : lw_okq (⟨"HonestGoldModel", "begin", "()V"⟩, 33) := ⟨⟨by decide +kernel, by decide +kernel⟩, List.mem_of_getElem? (i := 886) (by decide +kernel), List.mem_of_getElem? (i := 892) (by decide +kernel), List.mem_of_getElem? (i := 893) (by decide +kernel)⟩
theorem lw_p36 : lw_okq (⟨"HonestGoldModel", "bad", "()I"⟩, 33) := ⟨⟨by decide +kernel, by decide +kernel⟩, List.mem_of_getElem? (i := 886) (by decide +kernel), List.mem_of_getElem? (i := 1007) (by decide +kernel), List.mem_of_getElem? (i := 1008) (by decide +kernel)⟩
theorem lw_p37 : lw_okq (⟨"HonestGoldModel", "full", "()I"⟩, 33) := ⟨⟨by decide +kernel, by decide +kernel⟩, List.mem_of_getElem? (i := 886) (by decide +kernel), List.mem_of_getElem? (i := 1011) (by decide +kernel), List.mem_of_getElem? (i := 1012) (by decide +kernel)⟩
theorem lw_p38 : lw_okq (⟨"HonestGoldModel", "addOne", "(IIII)I"⟩, 33) := ⟨⟨by decide +kernel, by decide +kernel⟩, List.mem_of_getElem? (i := 886) (by decide +kernel), List.mem_of_getElem? (i := 1015) (by decide +kernel), List.mem_of_getElem? (i := 1016) (by decide +kernel)⟩
theorem lw_p39 : lw_okq (⟨"HonestGoldModel", "isOne", "(I)Z"⟩, 33) := ⟨⟨by decide +kernel, by decide +kernel⟩, List.mem_of_getElem? (i := 886) (by decide +kernel), List.mem_of_getElem? (i := 1023) (by decide +kernel), List.mem_of_getElem? (i := 1024) (by decide +kernel)⟩
theorem lw_p40 : lw_okq (⟨"HonestGoldModel", "readsGold", "()I"⟩, 33) := ⟨⟨by decide +kernel, by decide +kernel⟩, List.mem_of_getElem? (i := 886) (by decide +kernel), List.mem_of_getElem? (i := 1039) (by decide +kernel), List.mem_of_getElem? (i := 1040) (by decide +kernel)⟩
theorem lw_p41 : lw_okq (⟨"HonestGoldModel", "skip", "()V"⟩, 33) := ⟨⟨by decide +kernel, by decide +kernel⟩, List.mem_of_getElem? (i := 886) (by decide +kernel), List.mem_of_getElem? (i := 1043) (by decide +kernel), List.mem_of_getElem? (i := 1044) (by decide +kernel)⟩
theorem lw_p42 : lw_okq (⟨"HonestGoldModel", "here", "()I"⟩, 33) := ⟨⟨by decide +kernel, by decide +kernel⟩, List.mem_of_getElem? (i := 886) (by decide +kernel), List.mem_of_getElem? (i := 1047) (by decide +kernel), List.mem_of_getElem? (i := 1048) (by decide +kernel)⟩
theorem lw_p43 : lw_okq (⟨"HonestGoldModel", "wordHere", "()I"⟩, 33) := ⟨⟨by decide +kernel, by decide +kernel⟩, List.mem_of_getElem? (i := 886) (by decide +kernel), List.mem_of_getElem? (i := 1051) (by decide +kernel), List.mem_of_getElem? (i := 1052) (by decide +kernel)⟩
theorem lw_p44 : lw_okq (⟨"HonestGoldModel", "wordSize", "()I"⟩, 33) := ⟨⟨by decide +kernel, by decide +kernel⟩, List.mem_of_getElem? (i := 886) (by decide +kernel), List.mem_of_getElem? (i := 1055) (by decide +kernel), List.mem_of_getElem? (i := 1056) (by decide +kernel)⟩
theorem lw_p45 : lw_okq (⟨"HonestGoldModel", "spells", "(IIII)Z"⟩, 33) := ⟨⟨by decide +kernel, by decide +kernel⟩, List.mem_of_getElem? (i := 886) (by decide +kernel), List.mem_of_getElem? (i := 1062) (by decide +kernel), List.mem_of_getElem? (i := 1063) (by decide +kernel)⟩
theorem lw_p46 : lw_okq (⟨"HonestGoldModel", "letter", "(I)I"⟩, 33) := ⟨⟨by decide +kernel, by decide +kernel⟩, List.mem_of_getElem? (i := 886) (by decide +kernel), List.mem_of_getElem? (i := 1066) (by decide +kernel), List.mem_of_getElem? (i := 1067) (by decide +kernel)⟩
theorem lw_p47 : lw_okq (⟨"HonestGoldModel", "ends", "()Z"⟩, 33) := ⟨⟨by decide +kernel, by decide +kernel⟩, List.mem_of_getElem? (i := 886) (by decide +kernel), List.mem_of_getElem? (i := 1070) (by decide +kernel), List.mem_of_getElem? (i := 1071) (by decide +kernel)⟩
def lw_privs_3 : List (MethodName × Nat) := [(⟨"HonestGold$Notes", "allFit", "(LHonestGold$Treasury;III)Z"⟩, 5), (⟨"HonestGold", "keepFraction", "(JJ)V"⟩, 10), (⟨"HonestGold", "counted", "(I)I"⟩, 10), (⟨"HonestGoldModel", "begin", "()V"⟩, 33), (⟨"HonestGoldModel", "bad", "()I"⟩, 33), (⟨"HonestGoldModel", "full", "()I"⟩, 33), (⟨"HonestGoldModel", "addOne", "(IIII)I"⟩, 33), (⟨"HonestGoldModel", "isOne", "(I)Z"⟩, 33), (⟨"HonestGoldModel", "readsGold", "()I"⟩, 33), (⟨"HonestGoldModel", "skip", "()V"⟩, 33), (⟨"HonestGoldModel", "here", "()I"⟩, 33), (⟨"HonestGoldModel", "wordHere", "()I"⟩, 33), (⟨"HonestGoldModel", "wordSize", "()I"⟩, 33), (⟨"HonestGoldModel", "spells", "(IIII)Z"⟩, 33), (⟨"HonestGoldModel", "letter", "(I)I"⟩, 33), (⟨"HonestGoldModel", "ends", "()Z"⟩, 33)]
theorem lw_r3 : ∀ q ∈ lw_privs_3, lw_okq q := List.forall_mem_cons.mpr ⟨lw_p32, List.forall_mem_cons.mpr ⟨lw_p33, List.forall_mem_cons.mpr ⟨lw_p34, List.forall_mem_cons.mpr ⟨lw_p35, List.forall_mem_cons.mpr ⟨lw_p36, List.forall_mem_cons.mpr ⟨lw_p37, List.forall_mem_cons.mpr ⟨lw_p38, List.forall_mem_cons.mpr ⟨lw_p39, List.forall_mem_cons.mpr ⟨lw_p40, List.forall_mem_cons.mpr ⟨lw_p41, List.forall_mem_cons.mpr ⟨lw_p42, List.forall_mem_cons.mpr ⟨lw_p43, List.forall_mem_cons.mpr ⟨lw_p44, List.forall_mem_cons.mpr ⟨lw_p45, List.forall_mem_cons.mpr ⟨lw_p46, List.forall_mem_cons.mpr ⟨lw_p47, fun _ h => absurd h List.not_mem_nil⟩⟩⟩⟩⟩⟩⟩⟩⟩⟩⟩⟩⟩⟩⟩⟩
theorem lw_p48 : lw_okq (⟨"HonestGoldModel", "readsItem", "()Z"⟩, 33) := ⟨⟨by decide +kernel, by decide +kernel⟩, List.mem_of_getElem? (i := 886) (by decide +kernel), List.mem_of_getElem? (i := 1074) (by decide +kernel), List.mem_of_getElem? (i := 1075) (by decide +kernel)⟩
theorem lw_p49 : lw_okq (⟨"HonestGoldModel", "readsOne", "()Z"⟩, 33) := ⟨⟨by decide +kernel, by decide +kernel⟩, List.mem_of_getElem? (i := 886) (by decide +kernel), List.mem_of_getElem? (i := 1078) (by decide +kernel), List.mem_of_getElem? (i := 1079) (by decide +kernel)⟩
theorem lw_p50 : lw_okq (⟨"HonestGoldModel", "number", "(II)Z"⟩, 33) := ⟨⟨by decide +kernel, by decide +kernel⟩, List.mem_of_getElem? (i := 886) (by decide +kernel), List.mem_of_getElem? (i := 1082) (by decide +kernel), List.mem_of_getElem? (i := 1083) (by decide +kernel)⟩
theorem lw_p51 : lw_okq (⟨"HonestGoldModel", "readsHands", "()Z"⟩, 33) := ⟨⟨by decide +kernel, by decide +kernel⟩, List.mem_of_getElem? (i := 886) (by decide +kernel), List.mem_of_getElem? (i := 1089) (by decide +kernel), List.mem_of_getElem? (i := 1090) (by decide +kernel)⟩
theorem lw_p52 : lw_okq (⟨"HonestGoldModel", "readsLie", "()Z"⟩, 33) := ⟨⟨by decide +kernel, by decide +kernel⟩, List.mem_of_getElem? (i := 886) (by decide +kernel), List.mem_of_getElem? (i := 1093) (by decide +kernel), List.mem_of_getElem? (i := 1094) (by decide +kernel)⟩
theorem lw_p53 : lw_okq (⟨"HonestGoldModel", "notes", "()V"⟩, 33) := ⟨⟨by decide +kernel, by decide +kernel⟩, List.mem_of_getElem? (i := 886) (by decide +kernel), List.mem_of_getElem? (i := 1104) (by decide +kernel), List.mem_of_getElem? (i := 1105) (by decide +kernel)⟩
theorem lw_p54 : lw_okq (⟨"HonestGoldModel", "lays", "([II)V"⟩, 33) := ⟨⟨by decide +kernel, by decide +kernel⟩, List.mem_of_getElem? (i := 886) (by decide +kernel), List.mem_of_getElem? (i := 1108) (by decide +kernel), List.mem_of_getElem? (i := 1109) (by decide +kernel)⟩
theorem lw_p55 : lw_okq (⟨"HonestGoldModel", "lies", "(II)V"⟩, 33) := ⟨⟨by decide +kernel, by decide +kernel⟩, List.mem_of_getElem? (i := 886) (by decide +kernel), List.mem_of_getElem? (i := 1112) (by decide +kernel), List.mem_of_getElem? (i := 1113) (by decide +kernel)⟩
theorem lw_p56 : lw_okq (⟨"HonestGoldModel", "honestBehind", "(II)I"⟩, 33) := ⟨⟨by decide +kernel, by decide +kernel⟩, List.mem_of_getElem? (i := 886) (by decide +kernel), List.mem_of_getElem? (i := 1116) (by decide +kernel), List.mem_of_getElem? (i := 1117) (by decide +kernel)⟩
theorem lw_p57 : lw_okq (⟨"HonestGoldModel", "no", "()I"⟩, 33) := ⟨⟨by decide +kernel, by decide +kernel⟩, List.mem_of_getElem? (i := 886) (by decide +kernel), List.mem_of_getElem? (i := 1127) (by decide +kernel), List.mem_of_getElem? (i := 1128) (by decide +kernel)⟩
theorem lw_p58 : lw_okq (⟨"HonestGoldModel", "pass", "()V"⟩, 33) := ⟨⟨by decide +kernel, by decide +kernel⟩, List.mem_of_getElem? (i := 886) (by decide +kernel), List.mem_of_getElem? (i := 1135) (by decide +kernel), List.mem_of_getElem? (i := 1136) (by decide +kernel)⟩
theorem lw_p59 : lw_okq (⟨"HonestGoldModel", "takes", "([II)V"⟩, 33) := ⟨⟨by decide +kernel, by decide +kernel⟩, List.mem_of_getElem? (i := 886) (by decide +kernel), List.mem_of_getElem? (i := 1146) (by decide +kernel), List.mem_of_getElem? (i := 1147) (by decide +kernel)⟩
theorem lw_p60 : lw_okq (⟨"HonestGoldModel", "ownWeight", "(I)I"⟩, 33) := ⟨⟨by decide +kernel, by decide +kernel⟩, List.mem_of_getElem? (i := 886) (by decide +kernel), List.mem_of_getElem? (i := 1154) (by decide +kernel), List.mem_of_getElem? (i := 1155) (by decide +kernel)⟩
theorem lw_p61 : lw_okq (⟨"HonestGoldModel", "weight", "(II)I"⟩, 33) := ⟨⟨by decide +kernel, by decide +kernel⟩, List.mem_of_getElem? (i := 886) (by decide +kernel), List.mem_of_getElem? (i := 1158) (by decide +kernel), List.mem_of_getElem? (i := 1159) (by decide +kernel)⟩
theorem lw_p62 : lw_okq (⟨"HonestGoldModel", "ten", "()I"⟩, 33) := ⟨⟨by decide +kernel, by decide +kernel⟩, List.mem_of_getElem? (i := 886) (by decide +kernel), List.mem_of_getElem? (i := 1181) (by decide +kernel), List.mem_of_getElem? (i := 1182) (by decide +kernel)⟩
theorem lw_p63 : lw_okq (⟨"HonestGoldModel", "setSteps", "(IIII)I"⟩, 33) := ⟨⟨by decide +kernel, by decide +kernel⟩, List.mem_of_getElem? (i := 886) (by decide +kernel), List.mem_of_getElem? (i := 1185) (by decide +kernel), List.mem_of_getElem? (i := 1186) (by decide +kernel)⟩
def lw_privs_4 : List (MethodName × Nat) := [(⟨"HonestGoldModel", "readsItem", "()Z"⟩, 33), (⟨"HonestGoldModel", "readsOne", "()Z"⟩, 33), (⟨"HonestGoldModel", "number", "(II)Z"⟩, 33), (⟨"HonestGoldModel", "readsHands", "()Z"⟩, 33), (⟨"HonestGoldModel", "readsLie", "()Z"⟩, 33), (⟨"HonestGoldModel", "notes", "()V"⟩, 33), (⟨"HonestGoldModel", "lays", "([II)V"⟩, 33), (⟨"HonestGoldModel", "lies", "(II)V"⟩, 33), (⟨"HonestGoldModel", "honestBehind", "(II)I"⟩, 33), (⟨"HonestGoldModel", "no", "()I"⟩, 33), (⟨"HonestGoldModel", "pass", "()V"⟩, 33), (⟨"HonestGoldModel", "takes", "([II)V"⟩, 33), (⟨"HonestGoldModel", "ownWeight", "(I)I"⟩, 33), (⟨"HonestGoldModel", "weight", "(II)I"⟩, 33), (⟨"HonestGoldModel", "ten", "()I"⟩, 33), (⟨"HonestGoldModel", "setSteps", "(IIII)I"⟩, 33)]
theorem lw_r4 : ∀ q ∈ lw_privs_4, lw_okq q := List.forall_mem_cons.mpr ⟨lw_p48, List.forall_mem_cons.mpr ⟨lw_p49, List.forall_mem_cons.mpr ⟨lw_p50, List.forall_mem_cons.mpr ⟨lw_p51, List.forall_mem_cons.mpr ⟨lw_p52, List.forall_mem_cons.mpr ⟨lw_p53, List.forall_mem_cons.mpr ⟨lw_p54, List.forall_mem_cons.mpr ⟨lw_p55, List.forall_mem_cons.mpr ⟨lw_p56, List.forall_mem_cons.mpr ⟨lw_p57, List.forall_mem_cons.mpr ⟨lw_p58, List.forall_mem_cons.mpr ⟨lw_p59, List.forall_mem_cons.mpr ⟨lw_p60, List.forall_mem_cons.mpr ⟨lw_p61, List.forall_mem_cons.mpr ⟨lw_p62, List.forall_mem_cons.mpr ⟨lw_p63, fun _ h => absurd h List.not_mem_nil⟩⟩⟩⟩⟩⟩⟩⟩⟩⟩⟩⟩⟩⟩⟩⟩
theorem lw_p64 : lw_okq (⟨"HonestGoldModel", "nextBags", "()Z"⟩, 33) := ⟨⟨by decide +kernel, by decide +kernel⟩, List.mem_of_getElem? (i := 886) (by decide +kernel), List.mem_of_getElem? (i := 1202) (by decide +kernel), List.mem_of_getElem? (i := 1203) (by decide +kernel)⟩
theorem lw_p65 : lw_okq (⟨"HonestGoldModel", "kindsOf", "(I)I"⟩, 33) := ⟨⟨by decide +kernel, by decide +kernel⟩, List.mem_of_getElem? (i := 886) (by decide +kernel), List.mem_of_getElem? (i := 1218) (by decide +kernel), List.mem_of_getElem? (i := 1219) (by decide +kernel)⟩
theorem lw_p66 : lw_okq (⟨"HonestGoldModel", "isSo", "(III)Z"⟩, 33) := ⟨⟨by decide +kernel, by decide +kernel⟩, List.mem_of_getElem? (i := 886) (by decide +kernel), List.mem_of_getElem? (i := 1222) (by decide +kernel), List.mem_of_getElem? (i := 1223) (by decide +kernel)⟩
theorem lw_p67 : lw_okq (⟨"HonestGoldModel", "alike", "(III)I"⟩, 33) := ⟨⟨by decide +kernel, by decide +kernel⟩, List.mem_of_getElem? (i := 886) (by decide +kernel), List.mem_of_getElem? (i := 1230) (by decide +kernel), List.mem_of_getElem? (i := 1231) (by decide +kernel)⟩
theorem lw_p68 : lw_okq (⟨"HonestGoldModel", "gets", "(IZZ)I"⟩, 33) := ⟨⟨by decide +kernel, by decide +kernel⟩, List.mem_of_getElem? (i := 886) (by decide +kernel), List.mem_of_getElem? (i := 1238) (by decide +kernel), List.mem_of_getElem? (i := 1239) (by decide +kernel)⟩
theorem lw_p69 : lw_okq (⟨"HonestGoldModel", "lay", "(JJ)V"⟩, 33) := ⟨⟨by decide +kernel, by decide +kernel⟩, List.mem_of_getElem? (i := 886) (by decide +kernel), List.mem_of_getElem? (i := 1247) (by decide +kernel), List.mem_of_getElem? (i := 1248) (by decide +kernel)⟩
theorem lw_p70 : lw_okq (⟨"HonestGoldModel", "puts", "()V"⟩, 33) := ⟨⟨by decide +kernel, by decide +kernel⟩, List.mem_of_getElem? (i := 886) (by decide +kernel), List.mem_of_getElem? (i := 1256) (by decide +kernel), List.mem_of_getElem? (i := 1257) (by decide +kernel)⟩
theorem lw_p71 : lw_okq (⟨"HonestGoldModel", "back", "()V"⟩, 33) := ⟨⟨by decide +kernel, by decide +kernel⟩, List.mem_of_getElem? (i := 886) (by decide +kernel), List.mem_of_getElem? (i := 1268) (by decide +kernel), List.mem_of_getElem? (i := 1269) (by decide +kernel)⟩
theorem lw_p72 : lw_okq (⟨"HonestGoldModel", "countOf", "(I)I"⟩, 33) := ⟨⟨by decide +kernel, by decide +kernel⟩, List.mem_of_getElem? (i := 886) (by decide +kernel), List.mem_of_getElem? (i := 1292) (by decide +kernel), List.mem_of_getElem? (i := 1293) (by decide +kernel)⟩
theorem lw_p73 : lw_okq (⟨"HonestGoldModel", "allPieces", "()I"⟩, 33) := ⟨⟨by decide +kernel, by decide +kernel⟩, List.mem_of_getElem? (i := 886) (by decide +kernel), List.mem_of_getElem? (i := 1296) (by decide +kernel), List.mem_of_getElem? (i := 1297) (by decide +kernel)⟩
theorem lw_p74 : lw_okq (⟨"HonestGoldModel", "mix", "(J)V"⟩, 33) := ⟨⟨by decide +kernel, by decide +kernel⟩, List.mem_of_getElem? (i := 886) (by decide +kernel), List.mem_of_getElem? (i := 1308) (by decide +kernel), List.mem_of_getElem? (i := 1309) (by decide +kernel)⟩
def lw_privs_5 : List (MethodName × Nat) := [(⟨"HonestGoldModel", "nextBags", "()Z"⟩, 33), (⟨"HonestGoldModel", "kindsOf", "(I)I"⟩, 33), (⟨"HonestGoldModel", "isSo", "(III)Z"⟩, 33), (⟨"HonestGoldModel", "alike", "(III)I"⟩, 33), (⟨"HonestGoldModel", "gets", "(IZZ)I"⟩, 33), (⟨"HonestGoldModel", "lay", "(JJ)V"⟩, 33), (⟨"HonestGoldModel", "puts", "()V"⟩, 33), (⟨"HonestGoldModel", "back", "()V"⟩, 33), (⟨"HonestGoldModel", "countOf", "(I)I"⟩, 33), (⟨"HonestGoldModel", "allPieces", "()I"⟩, 33), (⟨"HonestGoldModel", "mix", "(J)V"⟩, 33)]
theorem lw_r5 : ∀ q ∈ lw_privs_5, lw_okq q := List.forall_mem_cons.mpr ⟨lw_p64, List.forall_mem_cons.mpr ⟨lw_p65, List.forall_mem_cons.mpr ⟨lw_p66, List.forall_mem_cons.mpr ⟨lw_p67, List.forall_mem_cons.mpr ⟨lw_p68, List.forall_mem_cons.mpr ⟨lw_p69, List.forall_mem_cons.mpr ⟨lw_p70, List.forall_mem_cons.mpr ⟨lw_p71, List.forall_mem_cons.mpr ⟨lw_p72, List.forall_mem_cons.mpr ⟨lw_p73, List.forall_mem_cons.mpr ⟨lw_p74, fun _ h => absurd h List.not_mem_nil⟩⟩⟩⟩⟩⟩⟩⟩⟩⟩⟩
def lw_privs : List (MethodName × Nat) := lw_privs_1 ++ (lw_privs_2 ++ (lw_privs_3 ++ (lw_privs_4 ++ (lw_privs_5))))
def lw_tbl : List Cond := k2_sels lw_privs ++ tables_1
theorem lw_privs_ok : ∀ q ∈ lw_privs, lw_okq q := by
  show ∀ q ∈ lw_privs_1 ++ (lw_privs_2 ++ (lw_privs_3 ++ (lw_privs_4 ++ (lw_privs_5)))), lw_okq q
  exact List.forall_mem_append.mpr ⟨lw_r1, List.forall_mem_append.mpr ⟨lw_r2, List.forall_mem_append.mpr ⟨lw_r3, List.forall_mem_append.mpr ⟨lw_r4, lw_r5⟩⟩⟩⟩
-- ===== end of PART A; then your names; then what follows =====
end
section
def RX0 : String := "HonestGold$Banker"
def TX0 : u_T := fun k => match k with
  | _ => ("", "", "", false)
def tyX0 : Nat → FieldType := fun k => match k with
  | _ => .int
abbrev wsX00 : List Cond := u_ws RX0 TX0 0
theorem nmX0 : ∀ a, a < 0 → ∀ b, b < 0 → a ≠ b → (TX0 a).2.1 ≠ (TX0 b).2.1 := by decide +kernel
theorem tyX0_ok : ∀ k, k < 0 → parseFieldDescriptor (TX0 k).2.2.1 = some (tyX0 k) := by decide +kernel
abbrev cX0_init : ByteArray := prog_2_method_1_code
def yX0_init : MethodName := ⟨RX0, "<init>", "()V"⟩
abbrev cX0_weight : ByteArray := prog_2_method_2_code
def yX0_weight : MethodName := ⟨RX0, "weight", "(III)I"⟩
def RX1 : String := "HonestGold$Child"
def TX1 : u_T := fun k => match k with
  | _ => ("", "", "", false)
def tyX1 : Nat → FieldType := fun k => match k with
  | _ => .int
abbrev wsX10 : List Cond := u_ws RX1 TX1 0
theorem nmX1 : ∀ a, a < 0 → ∀ b, b < 0 → a ≠ b → (TX1 a).2.1 ≠ (TX1 b).2.1 := by decide +kernel
theorem tyX1_ok : ∀ k, k < 0 → parseFieldDescriptor (TX1 k).2.2.1 = some (tyX1 k) := by decide +kernel
abbrev cX1_init : ByteArray := prog_3_method_1_code
def yX1_init : MethodName := ⟨RX1, "<init>", "()V"⟩
abbrev cX1_weight : ByteArray := prog_3_method_2_code
def yX1_weight : MethodName := ⟨RX1, "weight", "(III)I"⟩
abbrev cX1_loss : ByteArray := prog_3_method_3_code
def yX1_loss : MethodName := ⟨RX1, "loss", "(I)I"⟩
def RX2 : String := "HonestGold$Half"
def TX2 : u_T := fun k => match k with
  | _ => ("", "", "", false)
def tyX2 : Nat → FieldType := fun k => match k with
  | _ => .int
abbrev wsX20 : List Cond := u_ws RX2 TX2 0
theorem nmX2 : ∀ a, a < 0 → ∀ b, b < 0 → a ≠ b → (TX2 a).2.1 ≠ (TX2 b).2.1 := by decide +kernel
theorem tyX2_ok : ∀ k, k < 0 → parseFieldDescriptor (TX2 k).2.2.1 = some (tyX2 k) := by decide +kernel
abbrev cX2_init : ByteArray := prog_4_method_1_code
def yX2_init : MethodName := ⟨RX2, "<init>", "()V"⟩
abbrev cX2_weight : ByteArray := prog_4_method_2_code
def yX2_weight : MethodName := ⟨RX2, "weight", "(III)I"⟩
abbrev cX2_loss : ByteArray := prog_4_method_3_code
def yX2_loss : MethodName := ⟨RX2, "loss", "(I)I"⟩
def RX3 : String := "HonestGold$Minister"
def TX3 : u_T := fun k => match k with
  | _ => ("", "", "", false)
def tyX3 : Nat → FieldType := fun k => match k with
  | _ => .int
abbrev wsX30 : List Cond := u_ws RX3 TX3 0
theorem nmX3 : ∀ a, a < 0 → ∀ b, b < 0 → a ≠ b → (TX3 a).2.1 ≠ (TX3 b).2.1 := by decide +kernel
theorem tyX3_ok : ∀ k, k < 0 → parseFieldDescriptor (TX3 k).2.2.1 = some (tyX3 k) := by decide +kernel
abbrev cX3_init : ByteArray := prog_5_method_1_code
def yX3_init : MethodName := ⟨RX3, "<init>", "()V"⟩
abbrev cX3_weight : ByteArray := prog_5_method_2_code
def yX3_weight : MethodName := ⟨RX3, "weight", "(III)I"⟩
def RX4 : String := "HonestGold$Notes"
def TX4 : u_T := fun k => match k with
  | 0 => ("HonestGold$Notes", "who", "[I", true)
  | 1 => ("HonestGold$Notes", "pieces", "[I", true)
  | 2 => ("HonestGold$Notes", "weight", "[I", true)
  | 3 => ("HonestGold$Notes", "day", "[I", true)
  | _ => ("HonestGold$Notes", "size", "I", false)
def tyX4 : Nat → FieldType := fun k => match k with
  | 0 => .array .int
  | 1 => .array .int
  | 2 => .array .int
  | 3 => .array .int
  | _ => .int
abbrev wsX40 : List Cond := u_ws RX4 TX4 5
theorem nmX4 : ∀ a, a < 5 → ∀ b, b < 5 → a ≠ b → (TX4 a).2.1 ≠ (TX4 b).2.1 := by decide +kernel
theorem tyX4_ok : ∀ k, k < 5 → parseFieldDescriptor (TX4 k).2.2.1 = some (tyX4 k) := by decide +kernel
abbrev cX4_init : ByteArray := prog_6_method_1_code
def yX4_init : MethodName := ⟨RX4, "<init>", "()V"⟩
abbrev cX4_size : ByteArray := prog_6_method_2_code
def yX4_size : MethodName := ⟨RX4, "size", "()I"⟩
abbrev cX4_drop : ByteArray := prog_6_method_3_code
def yX4_drop : MethodName := ⟨RX4, "drop", "()V"⟩
abbrev cX4_add : ByteArray := prog_6_method_4_code
def yX4_add : MethodName := ⟨RX4, "add", "(IIII)I"⟩
abbrev cX4_copyFrom : ByteArray := prog_6_method_5_code
def yX4_copyFrom : MethodName := ⟨RX4, "copyFrom", "(LHonestGold$Notes;)V"⟩
abbrev cX4_kindsThatFit : ByteArray := prog_6_method_6_code
def yX4_kindsThatFit : MethodName := ⟨RX4, "kindsThatFit", "(LHonestGold$Treasury;I)I"⟩
abbrev cX4_honestiesThatFit : ByteArray := prog_6_method_7_code
def yX4_honestiesThatFit : MethodName := ⟨RX4, "honestiesThatFit", "(LHonestGold$Treasury;I)I"⟩
abbrev cX4_bestWeighing : ByteArray := prog_6_method_8_code
def yX4_bestWeighing : MethodName := ⟨RX4, "bestWeighing", "(LHonestGold$Treasury;II)I"⟩
abbrev cX4_mixInto : ByteArray := prog_6_method_9_code
def yX4_mixInto : MethodName := ⟨RX4, "mixInto", "(J)J"⟩
abbrev cX4_allFit : ByteArray := prog_6_method_10_code
def yX4_allFit : MethodName := ⟨RX4, "allFit", "(LHonestGold$Treasury;III)Z"⟩
abbrev cX4_mostAlike : ByteArray := prog_6_method_11_code
def yX4_mostAlike : MethodName := ⟨RX4, "mostAlike", "(LHonestGold$Treasury;III)I"⟩
def RX5 : String := "HonestGold$Past"
def TX5 : u_T := fun k => match k with
  | 0 => ("HonestGold$Past", "rows", "[I", true)
  | _ => ("HonestGold$Past", "steps", "I", false)
def tyX5 : Nat → FieldType := fun k => match k with
  | 0 => .array .int
  | _ => .int
abbrev wsX50 : List Cond := u_ws RX5 TX5 2
theorem nmX5 : ∀ a, a < 2 → ∀ b, b < 2 → a ≠ b → (TX5 a).2.1 ≠ (TX5 b).2.1 := by decide +kernel
theorem tyX5_ok : ∀ k, k < 2 → parseFieldDescriptor (TX5 k).2.2.1 = some (tyX5 k) := by decide +kernel
abbrev cX5_init : ByteArray := prog_7_method_1_code
def yX5_init : MethodName := ⟨RX5, "<init>", "()V"⟩
abbrev cX5_size : ByteArray := prog_7_method_2_code
def yX5_size : MethodName := ⟨RX5, "size", "()I"⟩
abbrev cX5_drop : ByteArray := prog_7_method_3_code
def yX5_drop : MethodName := ⟨RX5, "drop", "()V"⟩
abbrev cX5_dropLast : ByteArray := prog_7_method_4_code
def yX5_dropLast : MethodName := ⟨RX5, "dropLast", "()V"⟩
abbrev cX5_open : ByteArray := prog_7_method_5_code
def yX5_open : MethodName := ⟨RX5, "open", "()V"⟩
abbrev cX5_put : ByteArray := prog_7_method_6_code
def yX5_put : MethodName := ⟨RX5, "put", "(II)V"⟩
abbrev cX5_last : ByteArray := prog_7_method_7_code
def yX5_last : MethodName := ⟨RX5, "last", "(I)I"⟩
abbrev cX5_copyFrom : ByteArray := prog_7_method_8_code
def yX5_copyFrom : MethodName := ⟨RX5, "copyFrom", "(LHonestGold$Past;)V"⟩
abbrev cX5_placeOf : ByteArray := prog_7_method_9_code
def yX5_placeOf : MethodName := ⟨RX5, "placeOf", "(I)I"⟩
def RX6 : String := "HonestGold$Plain"
def TX6 : u_T := fun k => match k with
  | _ => ("", "", "", false)
def tyX6 : Nat → FieldType := fun k => match k with
  | _ => .int
abbrev wsX60 : List Cond := u_ws RX6 TX6 0
theorem nmX6 : ∀ a, a < 0 → ∀ b, b < 0 → a ≠ b → (TX6 a).2.1 ≠ (TX6 b).2.1 := by decide +kernel
theorem tyX6_ok : ∀ k, k < 0 → parseFieldDescriptor (TX6 k).2.2.1 = some (tyX6 k) := by decide +kernel
abbrev cX6_init : ByteArray := prog_8_method_1_code
def yX6_init : MethodName := ⟨RX6, "<init>", "()V"⟩
abbrev cX6_weight : ByteArray := prog_8_method_2_code
def yX6_weight : MethodName := ⟨RX6, "weight", "(III)I"⟩
abbrev cX6_loss : ByteArray := prog_8_method_3_code
def yX6_loss : MethodName := ⟨RX6, "loss", "(I)I"⟩
def RX7 : String := "HonestGold$Reader"
def TX7 : u_T := fun k => match k with
  | 0 => ("HonestGold$Reader", "text", "[I", true)
  | 1 => ("HonestGold$Reader", "length", "I", false)
  | 2 => ("HonestGold$Reader", "tokenStart", "I", false)
  | 3 => ("HonestGold$Reader", "tokenEnd", "I", false)
  | 4 => ("HonestGold$Reader", "token", "I", false)
  | 5 => ("HonestGold$Reader", "number", "I", false)
  | _ => ("HonestGold$Reader", "fault", "I", false)
def tyX7 : Nat → FieldType := fun k => match k with
  | 0 => .array .int
  | 1 => .int
  | 2 => .int
  | 3 => .int
  | 4 => .int
  | 5 => .int
  | _ => .int
abbrev wsX70 : List Cond := u_ws RX7 TX7 7
theorem nmX7 : ∀ a, a < 7 → ∀ b, b < 7 → a ≠ b → (TX7 a).2.1 ≠ (TX7 b).2.1 := by decide +kernel
theorem tyX7_ok : ∀ k, k < 7 → parseFieldDescriptor (TX7 k).2.2.1 = some (tyX7 k) := by decide +kernel
abbrev cX7_init : ByteArray := prog_9_method_1_code
def yX7_init : MethodName := ⟨RX7, "<init>", "()V"⟩
abbrev cX7_length : ByteArray := prog_9_method_2_code
def yX7_length : MethodName := ⟨RX7, "length", "()I"⟩
abbrev cX7_drop : ByteArray := prog_9_method_3_code
def yX7_drop : MethodName := ⟨RX7, "drop", "()V"⟩
abbrev cX7_append : ByteArray := prog_9_method_4_code
def yX7_append : MethodName := ⟨RX7, "append", "(I)I"⟩
abbrev cX7_faultAt : ByteArray := prog_9_method_5_code
def yX7_faultAt : MethodName := ⟨RX7, "faultAt", "()I"⟩
abbrev cX7_readInto : ByteArray := prog_9_method_6_code
def yX7_readInto : MethodName := ⟨RX7, "readInto", "(LHonestGold$Treasury;)I"⟩
abbrev cX7_takeGold : ByteArray := prog_9_method_7_code
def yX7_takeGold : MethodName := ⟨RX7, "takeGold", "()V"⟩
abbrev cX7_takeOne : ByteArray := prog_9_method_8_code
def yX7_takeOne : MethodName := ⟨RX7, "takeOne", "(LHonestGold$Treasury;)V"⟩
abbrev cX7_takeHands : ByteArray := prog_9_method_9_code
def yX7_takeHands : MethodName := ⟨RX7, "takeHands", "(LHonestGold$Treasury;)V"⟩
abbrev cX7_takeLie : ByteArray := prog_9_method_10_code
def yX7_takeLie : MethodName := ⟨RX7, "takeLie", "(LHonestGold$Treasury;)V"⟩
abbrev cX7_takeNumber : ByteArray := prog_9_method_11_code
def yX7_takeNumber : MethodName := ⟨RX7, "takeNumber", "(II)I"⟩
abbrev cX7_takeStop : ByteArray := prog_9_method_12_code
def yX7_takeStop : MethodName := ⟨RX7, "takeStop", "()V"⟩
abbrev cX7_failHere : ByteArray := prog_9_method_13_code
def yX7_failHere : MethodName := ⟨RX7, "failHere", "()V"⟩
abbrev cX7_isWord : ByteArray := prog_9_method_14_code
def yX7_isWord : MethodName := ⟨RX7, "isWord", "(Ljava/lang/String;)Z"⟩
abbrev cX7_step : ByteArray := prog_9_method_15_code
def yX7_step : MethodName := ⟨RX7, "step", "()V"⟩
abbrev cX7_runEnd : ByteArray := prog_9_method_16_code
def yX7_runEnd : MethodName := ⟨RX7, "runEnd", "(III)I"⟩
abbrev cX7_numberBetween : ByteArray := prog_9_method_17_code
def yX7_numberBetween : MethodName := ⟨RX7, "numberBetween", "(II)I"⟩
abbrev cX7_byteAt : ByteArray := prog_9_method_18_code
def yX7_byteAt : MethodName := ⟨RX7, "byteAt", "(I)I"⟩
def RX8 : String := "HonestGold$Smith"
def TX8 : u_T := fun k => match k with
  | _ => ("", "", "", false)
def tyX8 : Nat → FieldType := fun k => match k with
  | _ => .int
abbrev wsX80 : List Cond := u_ws RX8 TX8 0
theorem nmX8 : ∀ a, a < 0 → ∀ b, b < 0 → a ≠ b → (TX8 a).2.1 ≠ (TX8 b).2.1 := by decide +kernel
theorem tyX8_ok : ∀ k, k < 0 → parseFieldDescriptor (TX8 k).2.2.1 = some (tyX8 k) := by decide +kernel
abbrev cX8_init : ByteArray := prog_10_method_1_code
def yX8_init : MethodName := ⟨RX8, "<init>", "()V"⟩
abbrev cX8_weight : ByteArray := prog_10_method_2_code
def yX8_weight : MethodName := ⟨RX8, "weight", "(III)I"⟩
abbrev cX8_loss : ByteArray := prog_10_method_3_code
def yX8_loss : MethodName := ⟨RX8, "loss", "(I)I"⟩
def RX9 : String := "HonestGold$Treasury"
def TX9 : u_T := fun k => match k with
  | 0 => ("HonestGold$Treasury", "plain", "LHonestGold$Plain;", true)
  | 1 => ("HonestGold$Treasury", "kinds", "[LHonestGold$Plain;", true)
  | 2 => ("HonestGold$Treasury", "kind", "[I", true)
  | 3 => ("HonestGold$Treasury", "honesty", "[I", true)
  | 4 => ("HonestGold$Treasury", "pieces", "[I", true)
  | 5 => ("HonestGold$Treasury", "pay", "[I", true)
  | 6 => ("HonestGold$Treasury", "hands", "[I", true)
  | 7 => ("HonestGold$Treasury", "notes", "LHonestGold$Notes;", true)
  | 8 => ("HonestGold$Treasury", "past", "LHonestGold$Past;", true)
  | 9 => ("HonestGold$Treasury", "people", "I", false)
  | 10 => ("HonestGold$Treasury", "day", "I", false)
  | _ => ("HonestGold$Treasury", "lied", "I", false)
def tyX9 : Nat → FieldType := fun k => match k with
  | 0 => .object "HonestGold$Plain"
  | 1 => .array (.object "HonestGold$Plain")
  | 2 => .array .int
  | 3 => .array .int
  | 4 => .array .int
  | 5 => .array .int
  | 6 => .array .int
  | 7 => .object "HonestGold$Notes"
  | 8 => .object "HonestGold$Past"
  | 9 => .int
  | 10 => .int
  | _ => .int
abbrev wsX90 : List Cond := u_ws RX9 TX9 12
theorem nmX9 : ∀ a, a < 12 → ∀ b, b < 12 → a ≠ b → (TX9 a).2.1 ≠ (TX9 b).2.1 := by decide +kernel
theorem tyX9_ok : ∀ k, k < 12 → parseFieldDescriptor (TX9 k).2.2.1 = some (tyX9 k) := by decide +kernel
abbrev cX9_init : ByteArray := prog_11_method_1_code
def yX9_init : MethodName := ⟨RX9, "<init>", "()V"⟩
abbrev cX9_empty : ByteArray := prog_11_method_2_code
def yX9_empty : MethodName := ⟨RX9, "empty", "()V"⟩
abbrev cX9_copyFrom : ByteArray := prog_11_method_3_code
def yX9_copyFrom : MethodName := ⟨RX9, "copyFrom", "(LHonestGold$Treasury;)V"⟩
abbrev cX9_people : ByteArray := prog_11_method_4_code
def yX9_people : MethodName := ⟨RX9, "people", "()I"⟩
abbrev cX9_isThere : ByteArray := prog_11_method_5_code
def yX9_isThere : MethodName := ⟨RX9, "isThere", "(I)Z"⟩
abbrev cX9_kindOf : ByteArray := prog_11_method_6_code
def yX9_kindOf : MethodName := ⟨RX9, "kindOf", "(I)I"⟩
abbrev cX9_honestyOf : ByteArray := prog_11_method_7_code
def yX9_honestyOf : MethodName := ⟨RX9, "honestyOf", "(I)I"⟩
abbrev cX9_piecesOf : ByteArray := prog_11_method_8_code
def yX9_piecesOf : MethodName := ⟨RX9, "piecesOf", "(I)I"⟩
abbrev cX9_payOf : ByteArray := prog_11_method_9_code
def yX9_payOf : MethodName := ⟨RX9, "payOf", "(I)I"⟩
abbrev cX9_handsOf : ByteArray := prog_11_method_10_code
def yX9_handsOf : MethodName := ⟨RX9, "handsOf", "(I)I"⟩
abbrev cX9_liedOf : ByteArray := prog_11_method_11_code
def yX9_liedOf : MethodName := ⟨RX9, "liedOf", "(I)I"⟩
abbrev cX9_today : ByteArray := prog_11_method_12_code
def yX9_today : MethodName := ⟨RX9, "today", "()I"⟩
abbrev cX9_liars : ByteArray := prog_11_method_13_code
def yX9_liars : MethodName := ⟨RX9, "liars", "()I"⟩
abbrev cX9_notes : ByteArray := prog_11_method_14_code
def yX9_notes : MethodName := ⟨RX9, "notes", "()LHonestGold$Notes;"⟩
abbrev cX9_allPieces : ByteArray := prog_11_method_15_code
def yX9_allPieces : MethodName := ⟨RX9, "allPieces", "()I"⟩
abbrev cX9_join : ByteArray := prog_11_method_16_code
def yX9_join : MethodName := ⟨RX9, "join", "(IIII)I"⟩
abbrev cX9_tellHands : ByteArray := prog_11_method_17_code
def yX9_tellHands : MethodName := ⟨RX9, "tellHands", "(II)V"⟩
abbrev cX9_tellLie : ByteArray := prog_11_method_18_code
def yX9_tellLie : MethodName := ⟨RX9, "tellLie", "(II)V"⟩
abbrev cX9_handOn : ByteArray := prog_11_method_19_code
def yX9_handOn : MethodName := ⟨RX9, "handOn", "(III)V"⟩
abbrev cX9_passDay : ByteArray := prog_11_method_20_code
def yX9_passDay : MethodName := ⟨RX9, "passDay", "()V"⟩
abbrev cX9_steps : ByteArray := prog_11_method_21_code
def yX9_steps : MethodName := ⟨RX9, "steps", "()I"⟩
abbrev cX9_forgetSteps : ByteArray := prog_11_method_22_code
def yX9_forgetSteps : MethodName := ⟨RX9, "forgetSteps", "()V"⟩
abbrev cX9_keepStep : ByteArray := prog_11_method_23_code
def yX9_keepStep : MethodName := ⟨RX9, "keepStep", "()V"⟩
abbrev cX9_stepBack : ByteArray := prog_11_method_24_code
def yX9_stepBack : MethodName := ⟨RX9, "stepBack", "()V"⟩
abbrev cX9_weightBy : ByteArray := prog_11_method_25_code
def yX9_weightBy : MethodName := ⟨RX9, "weightBy", "(IIII)I"⟩
abbrev cX9_weightWith : ByteArray := prog_11_method_26_code
def yX9_weightWith : MethodName := ⟨RX9, "weightWith", "(II)I"⟩
abbrev cX9_ownWeight : ByteArray := prog_11_method_27_code
def yX9_ownWeight : MethodName := ⟨RX9, "ownWeight", "(I)I"⟩
abbrev cX9_allWeight : ByteArray := prog_11_method_28_code
def yX9_allWeight : MethodName := ⟨RX9, "allWeight", "()I"⟩
abbrev cX9_daysUntil : ByteArray := prog_11_method_29_code
def yX9_daysUntil : MethodName := ⟨RX9, "daysUntil", "(II)I"⟩
abbrev cX9_fewestPieces : ByteArray := prog_11_method_30_code
def yX9_fewestPieces : MethodName := ⟨RX9, "fewestPieces", "(II)I"⟩
abbrev cX9_truthWorth : ByteArray := prog_11_method_31_code
def yX9_truthWorth : MethodName := ⟨RX9, "truthWorth", "(I)I"⟩
abbrev cX9_mixInto : ByteArray := prog_11_method_32_code
def yX9_mixInto : MethodName := ⟨RX9, "mixInto", "(J)J"⟩
abbrev cX9_kindNumbered : ByteArray := prog_11_method_33_code
def yX9_kindNumbered : MethodName := ⟨RX9, "kindNumbered", "(I)LHonestGold$Plain;"⟩
abbrev cX9_honestyBehindLie : ByteArray := prog_11_method_34_code
def yX9_honestyBehindLie : MethodName := ⟨RX9, "honestyBehindLie", "(II)I"⟩
abbrev cX9_honestyAfter : ByteArray := prog_11_method_35_code
def yX9_honestyAfter : MethodName := ⟨RX9, "honestyAfter", "(II)I"⟩
def RX10 : String := "HonestGold$Ways"
def TX10 : u_T := fun k => match k with
  | 0 => ("HonestGold$Ways", "heft", "[I", true)
  | 1 => ("HonestGold$Ways", "far", "[I", true)
  | 2 => ("HonestGold$Ways", "lightest", "[I", true)
  | _ => ("HonestGold$Ways", "bagWeights", "[I", true)
def tyX10 : Nat → FieldType := fun k => match k with
  | 0 => .array .int
  | 1 => .array .int
  | 2 => .array .int
  | _ => .array .int
abbrev wsX100 : List Cond := u_ws RX10 TX10 4
theorem nmX10 : ∀ a, a < 4 → ∀ b, b < 4 → a ≠ b → (TX10 a).2.1 ≠ (TX10 b).2.1 := by decide +kernel
theorem tyX10_ok : ∀ k, k < 4 → parseFieldDescriptor (TX10 k).2.2.1 = some (tyX10 k) := by decide +kernel
abbrev cX10_init : ByteArray := prog_12_method_1_code
def yX10_init : MethodName := ⟨RX10, "<init>", "()V"⟩
abbrev cX10_carry : ByteArray := prog_12_method_2_code
def yX10_carry : MethodName := ⟨RX10, "carry", "(LHonestGold$Treasury;III)I"⟩
abbrev cX10_handAt : ByteArray := prog_12_method_3_code
def yX10_handAt : MethodName := ⟨RX10, "handAt", "(LHonestGold$Treasury;II)I"⟩
abbrev cX10_nearerHand : ByteArray := prog_12_method_4_code
def yX10_nearerHand : MethodName := ⟨RX10, "nearerHand", "(LHonestGold$Treasury;I)I"⟩
abbrev cX10_measure : ByteArray := prog_12_method_5_code
def yX10_measure : MethodName := ⟨RX10, "measure", "(LHonestGold$Treasury;III)I"⟩
abbrev cX10_handsToOneAt : ByteArray := prog_12_method_6_code
def yX10_handsToOneAt : MethodName := ⟨RX10, "handsToOneAt", "(LHonestGold$Treasury;II)Z"⟩
abbrev cX10_weighers : ByteArray := prog_12_method_7_code
def yX10_weighers : MethodName := ⟨RX10, "weighers", "(LHonestGold$Treasury;II)I"⟩
abbrev cX10_weightTogether : ByteArray := prog_12_method_8_code
def yX10_weightTogether : MethodName := ⟨RX10, "weightTogether", "(I)I"⟩
abbrev cX10_payTogether : ByteArray := prog_12_method_9_code
def yX10_payTogether : MethodName := ⟨RX10, "payTogether", "(LHonestGold$Treasury;I)I"⟩
abbrev cX10_shelve : ByteArray := prog_12_method_10_code
def yX10_shelve : MethodName := ⟨RX10, "shelve", "(LHonestGold$Treasury;II)I"⟩
abbrev cX10_bagOf : ByteArray := prog_12_method_11_code
def yX10_bagOf : MethodName := ⟨RX10, "bagOf", "(II)I"⟩
abbrev cX10_firstBag : ByteArray := prog_12_method_12_code
def yX10_firstBag : MethodName := ⟨RX10, "firstBag", "(II)I"⟩
abbrev cX10_lightestWith : ByteArray := prog_12_method_13_code
def yX10_lightestWith : MethodName := ⟨RX10, "lightestWith", "(II)I"⟩
abbrev cX10_weighBags : ByteArray := prog_12_method_14_code
def yX10_weighBags : MethodName := ⟨RX10, "weighBags", "(LHonestGold$Treasury;II)V"⟩
abbrev cX10_bagWeight : ByteArray := prog_12_method_15_code
def yX10_bagWeight : MethodName := ⟨RX10, "bagWeight", "(II)I"⟩
abbrev cX10_weighEach : ByteArray := prog_12_method_16_code
def yX10_weighEach : MethodName := ⟨RX10, "weighEach", "(LHonestGold$Treasury;I)V"⟩
abbrev cX10_heftOf : ByteArray := prog_12_method_17_code
def yX10_heftOf : MethodName := ⟨RX10, "heftOf", "(I)I"⟩
abbrev cX10_farOf : ByteArray := prog_12_method_18_code
def yX10_farOf : MethodName := ⟨RX10, "farOf", "(I)I"⟩
abbrev cX10_lightestOf : ByteArray := prog_12_method_19_code
def yX10_lightestOf : MethodName := ⟨RX10, "lightestOf", "(I)I"⟩
abbrev cX10_putLightest : ByteArray := prog_12_method_20_code
def yX10_putLightest : MethodName := ⟨RX10, "putLightest", "(II)V"⟩
def RX11 : String := "HonestGold"
def TX11 : u_T := fun k => match k with
  | 0 => ("HonestGold", "now", "LHonestGold$Treasury;", true)
  | 1 => ("HonestGold", "aside", "LHonestGold$Treasury;", true)
  | 2 => ("HonestGold", "images", "[LHonestGold$Treasury;", true)
  | 3 => ("HonestGold", "reader", "LHonestGold$Reader;", true)
  | 4 => ("HonestGold", "ways", "LHonestGold$Ways;", true)
  | 5 => ("HonestGold", "above", "J", false)
  | 6 => ("HonestGold", "below", "J", false)
  | 7 => ("HonestGold", "badCalls", "I", false)
  | 8 => ("HonestGold", "noCalls", "I", false)
  | _ => ("HonestGold", "fullCalls", "I", false)
def tyX11 : Nat → FieldType := fun k => match k with
  | 0 => .object "HonestGold$Treasury"
  | 1 => .object "HonestGold$Treasury"
  | 2 => .array (.object "HonestGold$Treasury")
  | 3 => .object "HonestGold$Reader"
  | 4 => .object "HonestGold$Ways"
  | 5 => .long
  | 6 => .long
  | 7 => .int
  | 8 => .int
  | _ => .int
abbrev wsX110 : List Cond := u_ws RX11 TX11 10
theorem nmX11 : ∀ a, a < 10 → ∀ b, b < 10 → a ≠ b → (TX11 a).2.1 ≠ (TX11 b).2.1 := by decide +kernel
theorem tyX11_ok : ∀ k, k < 10 → parseFieldDescriptor (TX11 k).2.2.1 = some (tyX11 k) := by decide +kernel
abbrev cX11_init : ByteArray := prog_1_method_1_code
def yX11_init : MethodName := ⟨RX11, "<init>", "()V"⟩
abbrev cX11_gold : ByteArray := prog_1_method_2_code
def yX11_gold : MethodName := ⟨RX11, "gold", "()I"⟩
abbrev cX11_one : ByteArray := prog_1_method_3_code
def yX11_one : MethodName := ⟨RX11, "one", "(IIII)I"⟩
abbrev cX11_hands : ByteArray := prog_1_method_4_code
def yX11_hands : MethodName := ⟨RX11, "hands", "(III)I"⟩
abbrev cX11_type : ByteArray := prog_1_method_5_code
def yX11_type : MethodName := ⟨RX11, "type", "(I)I"⟩
abbrev cX11_clear : ByteArray := prog_1_method_6_code
def yX11_clear : MethodName := ⟨RX11, "clear", "()I"⟩
abbrev cX11_read : ByteArray := prog_1_method_7_code
def yX11_read : MethodName := ⟨RX11, "read", "()I"⟩
abbrev cX11_lie : ByteArray := prog_1_method_8_code
def yX11_lie : MethodName := ⟨RX11, "lie", "(II)I"⟩
abbrev cX11_give : ByteArray := prog_1_method_9_code
def yX11_give : MethodName := ⟨RX11, "give", "(III)I"⟩
abbrev cX11_day : ByteArray := prog_1_method_10_code
def yX11_day : MethodName := ⟨RX11, "day", "()I"⟩
abbrev cX11_undo : ByteArray := prog_1_method_11_code
def yX11_undo : MethodName := ⟨RX11, "undo", "()I"⟩
abbrev cX11_of : ByteArray := prog_1_method_12_code
def yX11_of : MethodName := ⟨RX11, "of", "(II)I"⟩
abbrev cX11_weighs : ByteArray := prog_1_method_13_code
def yX11_weighs : MethodName := ⟨RX11, "weighs", "(II)I"⟩
abbrev cX11_all : ByteArray := prog_1_method_14_code
def yX11_all : MethodName := ⟨RX11, "all", "()I"⟩
abbrev cX11_when : ByteArray := prog_1_method_15_code
def yX11_when : MethodName := ⟨RX11, "when", "(II)I"⟩
abbrev cX11_bag : ByteArray := prog_1_method_16_code
def yX11_bag : MethodName := ⟨RX11, "bag", "(IIII)I"⟩
abbrev cX11_debt : ByteArray := prog_1_method_17_code
def yX11_debt : MethodName := ⟨RX11, "debt", "(II)I"⟩
abbrev cX11_hire : ByteArray := prog_1_method_18_code
def yX11_hire : MethodName := ⟨RX11, "hire", "(III)I"⟩
abbrev cX11_shelves : ByteArray := prog_1_method_19_code
def yX11_shelves : MethodName := ⟨RX11, "shelves", "(III)I"⟩
abbrev cX11_note : ByteArray := prog_1_method_20_code
def yX11_note : MethodName := ⟨RX11, "note", "(IIII)I"⟩
abbrev cX11_forget : ByteArray := prog_1_method_21_code
def yX11_forget : MethodName := ⟨RX11, "forget", "()I"⟩
abbrev cX11_is : ByteArray := prog_1_method_22_code
def yX11_is : MethodName := ⟨RX11, "is", "(II)I"⟩
abbrev cX11_next : ByteArray := prog_1_method_23_code
def yX11_next : MethodName := ⟨RX11, "next", "(I)I"⟩
abbrev cX11_two : ByteArray := prog_1_method_24_code
def yX11_two : MethodName := ⟨RX11, "two", "(II)I"⟩
abbrev cX11_winds : ByteArray := prog_1_method_25_code
def yX11_winds : MethodName := ⟨RX11, "winds", "(II)I"⟩
abbrev cX11_years : ByteArray := prog_1_method_26_code
def yX11_years : MethodName := ⟨RX11, "years", "(II)I"⟩
abbrev cX11_part : ByteArray := prog_1_method_27_code
def yX11_part : MethodName := ⟨RX11, "part", "(I)J"⟩
abbrev cX11_image : ByteArray := prog_1_method_28_code
def yX11_image : MethodName := ⟨RX11, "image", "(I)I"⟩
abbrev cX11_from : ByteArray := prog_1_method_29_code
def yX11_from : MethodName := ⟨RX11, "from", "(I)I"⟩
abbrev cX11_status : ByteArray := prog_1_method_30_code
def yX11_status : MethodName := ⟨RX11, "status", "(I)I"⟩
abbrev cX11_count : ByteArray := prog_1_method_31_code
def yX11_count : MethodName := ⟨RX11, "count", "(I)I"⟩
abbrev cX11_digest : ByteArray := prog_1_method_32_code
def yX11_digest : MethodName := ⟨RX11, "digest", "()J"⟩
abbrev cX11_within : ByteArray := prog_1_method_33_code
def yX11_within : MethodName := ⟨RX11, "within", "(III)Z"⟩
abbrev cX11_twoOfThem : ByteArray := prog_1_method_34_code
def yX11_twoOfThem : MethodName := ⟨RX11, "twoOfThem", "(II)Z"⟩
abbrev cX11_refuseBad : ByteArray := prog_1_method_35_code
def yX11_refuseBad : MethodName := ⟨RX11, "refuseBad", "()I"⟩
abbrev cX11_refuseNo : ByteArray := prog_1_method_36_code
def yX11_refuseNo : MethodName := ⟨RX11, "refuseNo", "()I"⟩
abbrev cX11_refuseFull : ByteArray := prog_1_method_37_code
def yX11_refuseFull : MethodName := ⟨RX11, "refuseFull", "()I"⟩
abbrev cX11_counted : ByteArray := prog_1_method_38_code
def yX11_counted : MethodName := ⟨RX11, "counted", "(I)I"⟩
abbrev cX11_isContent : ByteArray := prog_1_method_39_code
def yX11_isContent : MethodName := ⟨RX11, "isContent", "(IZZ)Z"⟩
abbrev cX11_keepFraction : ByteArray := prog_1_method_40_code
def yX11_keepFraction : MethodName := ⟨RX11, "keepFraction", "(JJ)V"⟩
def RX12 : String := "HonestGoldModel"
def TX12 : u_T := fun k => match k with
  | 0 => ("HonestGoldModel", "refused", "[I", true)
  | 1 => ("HonestGoldModel", "many", "I", false)
  | 2 => ("HonestGoldModel", "now", "I", false)
  | 3 => ("HonestGoldModel", "lied", "I", false)
  | 4 => ("HonestGoldModel", "noteMany", "I", false)
  | 5 => ("HonestGoldModel", "kinds", "[I", true)
  | 6 => ("HonestGoldModel", "honesty", "[I", true)
  | 7 => ("HonestGoldModel", "pieces", "[I", true)
  | 8 => ("HonestGoldModel", "pays", "[I", true)
  | 9 => ("HonestGoldModel", "handed", "[I", true)
  | 10 => ("HonestGoldModel", "noteOne", "[I", true)
  | 11 => ("HonestGoldModel", "notePieces", "[I", true)
  | 12 => ("HonestGoldModel", "noteWeight", "[I", true)
  | 13 => ("HonestGoldModel", "noteDay", "[I", true)
  | 14 => ("HonestGoldModel", "text", "[I", true)
  | 15 => ("HonestGoldModel", "typed", "I", false)
  | 16 => ("HonestGoldModel", "readAt", "I", false)
  | 17 => ("HonestGoldModel", "readMany", "I", false)
  | 18 => ("HonestGoldModel", "readLied", "I", false)
  | 19 => ("HonestGoldModel", "readOnes", "[I", true)
  | 20 => ("HonestGoldModel", "readNumber", "I", false)
  | 21 => ("HonestGoldModel", "ahead", "[I", true)
  | 22 => ("HonestGoldModel", "undoMany", "I", false)
  | 23 => ("HonestGoldModel", "aside", "[I", true)
  | 24 => ("HonestGoldModel", "steps", "[I", true)
  | 25 => ("HonestGoldModel", "line", "[I", true)
  | 26 => ("HonestGoldModel", "bags", "[I", true)
  | 27 => ("HonestGoldModel", "bestBags", "[I", true)
  | 28 => ("HonestGoldModel", "above", "J", false)
  | 29 => ("HonestGoldModel", "below", "J", false)
  | 30 => ("HonestGoldModel", "images", "[I", true)
  | 31 => ("HonestGoldModel", "isKept", "[I", true)
  | _ => ("HonestGoldModel", "h0", "J", false)
def tyX12 : Nat → FieldType := fun k => match k with
  | 0 => .array .int
  | 1 => .int
  | 2 => .int
  | 3 => .int
  | 4 => .int
  | 5 => .array .int
  | 6 => .array .int
  | 7 => .array .int
  | 8 => .array .int
  | 9 => .array .int
  | 10 => .array .int
  | 11 => .array .int
  | 12 => .array .int
  | 13 => .array .int
  | 14 => .array .int
  | 15 => .int
  | 16 => .int
  | 17 => .int
  | 18 => .int
  | 19 => .array .int
  | 20 => .int
  | 21 => .array .int
  | 22 => .int
  | 23 => .array .int
  | 24 => .array .int
  | 25 => .array .int
  | 26 => .array .int
  | 27 => .array .int
  | 28 => .long
  | 29 => .long
  | 30 => .array .int
  | 31 => .array .int
  | _ => .long
abbrev wsX120 : List Cond := u_ws RX12 TX12 33
theorem nmX12 : ∀ a, a < 33 → ∀ b, b < 33 → a ≠ b → (TX12 a).2.1 ≠ (TX12 b).2.1 := by decide +kernel
theorem tyX12_ok : ∀ k, k < 33 → parseFieldDescriptor (TX12 k).2.2.1 = some (tyX12 k) := by decide +kernel
abbrev cX12_bad : ByteArray := prog_14_method_1_code
def yX12_bad : MethodName := ⟨RX12, "bad", "()I"⟩
abbrev cX12_ten : ByteArray := prog_14_method_2_code
def yX12_ten : MethodName := ⟨RX12, "ten", "()I"⟩
abbrev cX12_no : ByteArray := prog_14_method_3_code
def yX12_no : MethodName := ⟨RX12, "no", "()I"⟩
abbrev cX12_full : ByteArray := prog_14_method_4_code
def yX12_full : MethodName := ⟨RX12, "full", "()I"⟩
abbrev cX12_in : ByteArray := prog_14_method_5_code
def yX12_in : MethodName := ⟨RX12, "in", "(III)Z"⟩
abbrev cX12_has : ByteArray := prog_14_method_6_code
def yX12_has : MethodName := ⟨RX12, "has", "(II)Z"⟩
abbrev cX12_lesser : ByteArray := prog_14_method_7_code
def yX12_lesser : MethodName := ⟨RX12, "lesser", "(II)I"⟩
abbrev cX12_init : ByteArray := prog_14_method_8_code
def yX12_init : MethodName := ⟨RX12, "<init>", "()V"⟩
abbrev cX12_begin : ByteArray := prog_14_method_9_code
def yX12_begin : MethodName := ⟨RX12, "begin", "()V"⟩
abbrev cX12_isOne : ByteArray := prog_14_method_10_code
def yX12_isOne : MethodName := ⟨RX12, "isOne", "(I)Z"⟩
abbrev cX12_gold : ByteArray := prog_14_method_11_code
def yX12_gold : MethodName := ⟨RX12, "gold", "()I"⟩
abbrev cX12_addOne : ByteArray := prog_14_method_12_code
def yX12_addOne : MethodName := ⟨RX12, "addOne", "(IIII)I"⟩
abbrev cX12_one : ByteArray := prog_14_method_13_code
def yX12_one : MethodName := ⟨RX12, "one", "(IIII)I"⟩
abbrev cX12_hands : ByteArray := prog_14_method_14_code
def yX12_hands : MethodName := ⟨RX12, "hands", "(III)I"⟩
abbrev cX12_type : ByteArray := prog_14_method_15_code
def yX12_type : MethodName := ⟨RX12, "type", "(I)I"⟩
abbrev cX12_clear : ByteArray := prog_14_method_16_code
def yX12_clear : MethodName := ⟨RX12, "clear", "()I"⟩
abbrev cX12_here : ByteArray := prog_14_method_17_code
def yX12_here : MethodName := ⟨RX12, "here", "()I"⟩
abbrev cX12_skip : ByteArray := prog_14_method_18_code
def yX12_skip : MethodName := ⟨RX12, "skip", "()V"⟩
abbrev cX12_isLetter : ByteArray := prog_14_method_19_code
def yX12_isLetter : MethodName := ⟨RX12, "isLetter", "(I)Z"⟩
abbrev cX12_isFigure : ByteArray := prog_14_method_20_code
def yX12_isFigure : MethodName := ⟨RX12, "isFigure", "(I)Z"⟩
abbrev cX12_wordSize : ByteArray := prog_14_method_21_code
def yX12_wordSize : MethodName := ⟨RX12, "wordSize", "()I"⟩
abbrev cX12_letter : ByteArray := prog_14_method_22_code
def yX12_letter : MethodName := ⟨RX12, "letter", "(I)I"⟩
abbrev cX12_spells : ByteArray := prog_14_method_23_code
def yX12_spells : MethodName := ⟨RX12, "spells", "(IIII)Z"⟩
abbrev cX12_wordHere : ByteArray := prog_14_method_24_code
def yX12_wordHere : MethodName := ⟨RX12, "wordHere", "()I"⟩
abbrev cX12_number : ByteArray := prog_14_method_25_code
def yX12_number : MethodName := ⟨RX12, "number", "(II)Z"⟩
abbrev cX12_ends : ByteArray := prog_14_method_26_code
def yX12_ends : MethodName := ⟨RX12, "ends", "()Z"⟩
abbrev cX12_readsOne : ByteArray := prog_14_method_27_code
def yX12_readsOne : MethodName := ⟨RX12, "readsOne", "()Z"⟩
abbrev cX12_readsHands : ByteArray := prog_14_method_28_code
def yX12_readsHands : MethodName := ⟨RX12, "readsHands", "()Z"⟩
abbrev cX12_readsLie : ByteArray := prog_14_method_29_code
def yX12_readsLie : MethodName := ⟨RX12, "readsLie", "()Z"⟩
abbrev cX12_readsItem : ByteArray := prog_14_method_30_code
def yX12_readsItem : MethodName := ⟨RX12, "readsItem", "()Z"⟩
abbrev cX12_readsGold : ByteArray := prog_14_method_31_code
def yX12_readsGold : MethodName := ⟨RX12, "readsGold", "()I"⟩
abbrev cX12_read : ByteArray := prog_14_method_32_code
def yX12_read : MethodName := ⟨RX12, "read", "()I"⟩
abbrev cX12_weightBy : ByteArray := prog_14_method_33_code
def yX12_weightBy : MethodName := ⟨RX12, "weightBy", "(IIII)I"⟩
abbrev cX12_lieBy : ByteArray := prog_14_method_34_code
def yX12_lieBy : MethodName := ⟨RX12, "lieBy", "(II)I"⟩
abbrev cX12_weight : ByteArray := prog_14_method_35_code
def yX12_weight : MethodName := ⟨RX12, "weight", "(II)I"⟩
abbrev cX12_ownWeight : ByteArray := prog_14_method_36_code
def yX12_ownWeight : MethodName := ⟨RX12, "ownWeight", "(I)I"⟩
abbrev cX12_honestBehind : ByteArray := prog_14_method_37_code
def yX12_honestBehind : MethodName := ⟨RX12, "honestBehind", "(II)I"⟩
abbrev cX12_lays : ByteArray := prog_14_method_38_code
def yX12_lays : MethodName := ⟨RX12, "lays", "([II)V"⟩
abbrev cX12_takes : ByteArray := prog_14_method_39_code
def yX12_takes : MethodName := ⟨RX12, "takes", "([II)V"⟩
abbrev cX12_notes : ByteArray := prog_14_method_40_code
def yX12_notes : MethodName := ⟨RX12, "notes", "()V"⟩
abbrev cX12_puts : ByteArray := prog_14_method_41_code
def yX12_puts : MethodName := ⟨RX12, "puts", "()V"⟩
abbrev cX12_back : ByteArray := prog_14_method_42_code
def yX12_back : MethodName := ⟨RX12, "back", "()V"⟩
abbrev cX12_lies : ByteArray := prog_14_method_43_code
def yX12_lies : MethodName := ⟨RX12, "lies", "(II)V"⟩
abbrev cX12_pass : ByteArray := prog_14_method_44_code
def yX12_pass : MethodName := ⟨RX12, "pass", "()V"⟩
abbrev cX12_lie : ByteArray := prog_14_method_45_code
def yX12_lie : MethodName := ⟨RX12, "lie", "(II)I"⟩
abbrev cX12_give : ByteArray := prog_14_method_46_code
def yX12_give : MethodName := ⟨RX12, "give", "(III)I"⟩
abbrev cX12_day : ByteArray := prog_14_method_47_code
def yX12_day : MethodName := ⟨RX12, "day", "()I"⟩
abbrev cX12_undo : ByteArray := prog_14_method_48_code
def yX12_undo : MethodName := ⟨RX12, "undo", "()I"⟩
abbrev cX12_of : ByteArray := prog_14_method_49_code
def yX12_of : MethodName := ⟨RX12, "of", "(II)I"⟩
abbrev cX12_weighs : ByteArray := prog_14_method_50_code
def yX12_weighs : MethodName := ⟨RX12, "weighs", "(II)I"⟩
abbrev cX12_all : ByteArray := prog_14_method_51_code
def yX12_all : MethodName := ⟨RX12, "all", "()I"⟩
abbrev cX12_when : ByteArray := prog_14_method_52_code
def yX12_when : MethodName := ⟨RX12, "when", "(II)I"⟩
abbrev cX12_setSteps : ByteArray := prog_14_method_53_code
def yX12_setSteps : MethodName := ⟨RX12, "setSteps", "(IIII)I"⟩
abbrev cX12_bag : ByteArray := prog_14_method_54_code
def yX12_bag : MethodName := ⟨RX12, "bag", "(IIII)I"⟩
abbrev cX12_debt : ByteArray := prog_14_method_55_code
def yX12_debt : MethodName := ⟨RX12, "debt", "(II)I"⟩
abbrev cX12_hire : ByteArray := prog_14_method_56_code
def yX12_hire : MethodName := ⟨RX12, "hire", "(III)I"⟩
abbrev cX12_nextBags : ByteArray := prog_14_method_57_code
def yX12_nextBags : MethodName := ⟨RX12, "nextBags", "()Z"⟩
abbrev cX12_shelves : ByteArray := prog_14_method_58_code
def yX12_shelves : MethodName := ⟨RX12, "shelves", "(III)I"⟩
abbrev cX12_note : ByteArray := prog_14_method_59_code
def yX12_note : MethodName := ⟨RX12, "note", "(IIII)I"⟩
abbrev cX12_forget : ByteArray := prog_14_method_60_code
def yX12_forget : MethodName := ⟨RX12, "forget", "()I"⟩
abbrev cX12_isSo : ByteArray := prog_14_method_61_code
def yX12_isSo : MethodName := ⟨RX12, "isSo", "(III)Z"⟩
abbrev cX12_kindsOf : ByteArray := prog_14_method_62_code
def yX12_kindsOf : MethodName := ⟨RX12, "kindsOf", "(I)I"⟩
abbrev cX12_is : ByteArray := prog_14_method_63_code
def yX12_is : MethodName := ⟨RX12, "is", "(II)I"⟩
abbrev cX12_alike : ByteArray := prog_14_method_64_code
def yX12_alike : MethodName := ⟨RX12, "alike", "(III)I"⟩
abbrev cX12_next : ByteArray := prog_14_method_65_code
def yX12_next : MethodName := ⟨RX12, "next", "(I)I"⟩
abbrev cX12_gets : ByteArray := prog_14_method_66_code
def yX12_gets : MethodName := ⟨RX12, "gets", "(IZZ)I"⟩
abbrev cX12_two : ByteArray := prog_14_method_67_code
def yX12_two : MethodName := ⟨RX12, "two", "(II)I"⟩
abbrev cX12_lay : ByteArray := prog_14_method_68_code
def yX12_lay : MethodName := ⟨RX12, "lay", "(JJ)V"⟩
abbrev cX12_winds : ByteArray := prog_14_method_69_code
def yX12_winds : MethodName := ⟨RX12, "winds", "(II)I"⟩
abbrev cX12_years : ByteArray := prog_14_method_70_code
def yX12_years : MethodName := ⟨RX12, "years", "(II)I"⟩
abbrev cX12_part : ByteArray := prog_14_method_71_code
def yX12_part : MethodName := ⟨RX12, "part", "(I)J"⟩
abbrev cX12_image : ByteArray := prog_14_method_72_code
def yX12_image : MethodName := ⟨RX12, "image", "(I)I"⟩
abbrev cX12_from : ByteArray := prog_14_method_73_code
def yX12_from : MethodName := ⟨RX12, "from", "(I)I"⟩
abbrev cX12_status : ByteArray := prog_14_method_74_code
def yX12_status : MethodName := ⟨RX12, "status", "(I)I"⟩
abbrev cX12_bits : ByteArray := prog_14_method_75_code
def yX12_bits : MethodName := ⟨RX12, "bits", "(I)I"⟩
abbrev cX12_allPieces : ByteArray := prog_14_method_76_code
def yX12_allPieces : MethodName := ⟨RX12, "allPieces", "()I"⟩
abbrev cX12_countOf : ByteArray := prog_14_method_77_code
def yX12_countOf : MethodName := ⟨RX12, "countOf", "(I)I"⟩
abbrev cX12_count : ByteArray := prog_14_method_78_code
def yX12_count : MethodName := ⟨RX12, "count", "(I)I"⟩
abbrev cX12_mix : ByteArray := prog_14_method_79_code
def yX12_mix : MethodName := ⟨RX12, "mix", "(J)V"⟩
abbrev cX12_digest : ByteArray := prog_14_method_80_code
def yX12_digest : MethodName := ⟨RX12, "digest", "()J"⟩
def RJ6 : String := "java/lang/Integer"
def TJ6 : u_T := fun k => match k with
  | _ => ("", "", "", false)
def tyJ6 : Nat → FieldType := fun k => match k with
  | _ => .int
abbrev wsJ60 : List Cond := u_ws RJ6 TJ6 0
theorem nmJ6 : ∀ a, a < 0 → ∀ b, b < 0 → a ≠ b → (TJ6 a).2.1 ≠ (TJ6 b).2.1 := by decide +kernel
theorem tyJ6_ok : ∀ k, k < 0 → parseFieldDescriptor (TJ6 k).2.2.1 = some (tyJ6 k) := by decide +kernel
abbrev cJ6_bitCount_0f7a4 : ByteArray := prog_15_method_49_code
def yJ6_bitCount_0f7a4 : MethodName := ⟨RJ6, "bitCount", "(I)I"⟩
def RJ9 : String := "java/lang/Math"
def TJ9 : u_T := fun k => match k with
  | _ => ("", "", "", false)
def tyJ9 : Nat → FieldType := fun k => match k with
  | _ => .int
abbrev wsJ90 : List Cond := u_ws RJ9 TJ9 0
theorem nmJ9 : ∀ a, a < 0 → ∀ b, b < 0 → a ≠ b → (TJ9 a).2.1 ≠ (TJ9 b).2.1 := by decide +kernel
theorem tyJ9_ok : ∀ k, k < 0 → parseFieldDescriptor (TJ9 k).2.2.1 = some (tyJ9 k) := by decide +kernel
abbrev cJ9_max_7cf53 : ByteArray := prog_16_method_65_code
def yJ9_max_7cf53 : MethodName := ⟨RJ9, "max", "(II)I"⟩
abbrev cJ9_min_7cf53 : ByteArray := prog_16_method_69_code
def yJ9_min_7cf53 : MethodName := ⟨RJ9, "min", "(II)I"⟩
def RJ0 : String := "java/lang/String"
def TJ0 : u_T := fun k => match k with
  | _ => ("", "", "", false)
def tyJ0 : Nat → FieldType := fun k => match k with
  | _ => .int
abbrev wsJ00 : List Cond := u_ws RJ0 TJ0 0
theorem nmJ0 : ∀ a, a < 0 → ∀ b, b < 0 → a ≠ b → (TJ0 a).2.1 ≠ (TJ0 b).2.1 := by decide +kernel
theorem tyJ0_ok : ∀ k, k < 0 → parseFieldDescriptor (TJ0 k).2.2.1 = some (tyJ0 k) := by decide +kernel
abbrev cJ0_length_8abf5 : ByteArray := prog_17_method_54_code
def yJ0_length_8abf5 : MethodName := ⟨RJ0, "length", "()I"⟩
abbrev cJ0_charAt_5068e : ByteArray := prog_17_method_56_code
def yJ0_charAt_5068e : MethodName := ⟨RJ0, "charAt", "(I)C"⟩
abbrev cJ0_coder_7d493 : ByteArray := prog_17_method_152_code
def yJ0_coder_7d493 : MethodName := ⟨RJ0, "coder", "()B"⟩
abbrev cJ0_isLatin1_aae02 : ByteArray := prog_17_method_154_code
def yJ0_isLatin1_aae02 : MethodName := ⟨RJ0, "isLatin1", "()Z"⟩
abbrev cJ0_checkIndex_df160 : ByteArray := prog_17_method_155_code
def yJ0_checkIndex_df160 : MethodName := ⟨RJ0, "checkIndex", "(II)V"⟩
def RJ1 : String := "java/lang/StringLatin1"
def TJ1 : u_T := fun k => match k with
  | _ => ("", "", "", false)
def tyJ1 : Nat → FieldType := fun k => match k with
  | _ => .int
abbrev wsJ10 : List Cond := u_ws RJ1 TJ1 0
theorem nmJ1 : ∀ a, a < 0 → ∀ b, b < 0 → a ≠ b → (TJ1 a).2.1 ≠ (TJ1 b).2.1 := by decide +kernel
theorem tyJ1_ok : ∀ k, k < 0 → parseFieldDescriptor (TJ1 k).2.2.1 = some (tyJ1 k) := by decide +kernel
abbrev cJ1_charAt_3b067 : ByteArray := prog_18_method_2_code
def yJ1_charAt_3b067 : MethodName := ⟨RJ1, "charAt", "([BI)C"⟩
def RJ2 : String := "java/lang/StringUTF16"
def TJ2 : u_T := fun k => match k with
  | _ => ("", "", "", false)
def tyJ2 : Nat → FieldType := fun k => match k with
  | _ => .int
abbrev wsJ20 : List Cond := u_ws RJ2 TJ2 0
theorem nmJ2 : ∀ a, a < 0 → ∀ b, b < 0 → a ≠ b → (TJ2 a).2.1 ≠ (TJ2 b).2.1 := by decide +kernel
theorem tyJ2_ok : ∀ k, k < 0 → parseFieldDescriptor (TJ2 k).2.2.1 = some (tyJ2 k) := by decide +kernel
abbrev cJ2_getChar_3b067 : ByteArray := prog_19_method_5_code
def yJ2_getChar_3b067 : MethodName := ⟨RJ2, "getChar", "([BI)C"⟩
abbrev cJ2_length_9d52b : ByteArray := prog_19_method_6_code
def yJ2_length_9d52b : MethodName := ⟨RJ2, "length", "([B)I"⟩
abbrev cJ2_charAt_3b067 : ByteArray := prog_19_method_83_code
def yJ2_charAt_3b067 : MethodName := ⟨RJ2, "charAt", "([BI)C"⟩
abbrev cJ2_checkIndex_2214a : ByteArray := prog_19_method_91_code
def yJ2_checkIndex_2214a : MethodName := ⟨RJ2, "checkIndex", "(I[B)V"⟩
def RJ3 : String := "jdk/internal/util/Preconditions"
def TJ3 : u_T := fun k => match k with
  | _ => ("", "", "", false)
def tyJ3 : Nat → FieldType := fun k => match k with
  | _ => .int
abbrev wsJ30 : List Cond := u_ws RJ3 TJ3 0
theorem nmJ3 : ∀ a, a < 0 → ∀ b, b < 0 → a ≠ b → (TJ3 a).2.1 ≠ (TJ3 b).2.1 := by decide +kernel
theorem tyJ3_ok : ∀ k, k < 0 → parseFieldDescriptor (TJ3 k).2.2.1 = some (tyJ3 k) := by decide +kernel
abbrev cJ3_checkIndex_8e157 : ByteArray := prog_20_method_11_code
def yJ3_checkIndex_8e157 : MethodName := ⟨RJ3, "checkIndex", "(IILjava/util/function/BiFunction;)I"⟩
def RL : String := "HonestGoldLaw"
abbrev cL_law : ByteArray := code
def yL_law : MethodName := ⟨RL, "law", "([I)Z"⟩
abbrev vwCl : List vw_C := [(RX0, TX0, 0), (RX1, TX1, 0), (RX2, TX2, 0), (RX3, TX3, 0), (RX4, TX4, 5), (RX5, TX5, 2), (RX6, TX6, 0), (RX7, TX7, 7), (RX8, TX8, 0), (RX9, TX9, 12), (RX10, TX10, 4), (RX11, TX11, 10), (RX12, TX12, 33)]
end
section
/-! THE ABSTRACT WALK. A cell: an int array, an array of references, an object; a heap: what is known of each address. -/
abbrev ae : Type := (Nat × (Nat → Int32)) ⊕ (Nat × Nat × (Nat → Option Nat)) ⊕ (Nat × List Value)
abbrev aI (n : Nat) (f : Nat → Int32) : ae := .inl (n, f)
abbrev aR (t n : Nat) (g : Nat → Option Nat) : ae := .inr (.inl (t, n, g))
abbrev aO (c : Nat) (fs : List Value) : ae := .inr (.inr (c, fs))
abbrev ah : Type := Nat → Option ae
def ah_set (h : ah) (a : Nat) (e : ae) : ah := fun b => if b = a then some e else h b
theorem ah_set_eq (h : ah) (a : Nat) (e : ae) : ah_set h a e a = some e := if_pos rfl
theorem ah_set_ne (h : ah) {a b : Nat} (e : ae) (hb : b ≠ a) : ah_set h a e b = h b := if_neg hb
/-- the machine's own numbers: the classes', the array classes', the first address that is ours, what stays of the rest -/
abbrev aw_E : Type := va_G × (Nat → ClassId) × Nat × (State → Heap → Prop)
/-- a method: its name, bytes, locals, answer -/
abbrev aw_M : Type := MethodName × ByteArray × Nat × Option FieldType
def aw_A (E : aw_E) : Nat → Prop := fun q => E.2.2.1 ≤ q
def aw_at (E : aw_E) (a : Nat) (e : ae) (H : Heap) : Prop := match e with
  | .inl (n, f) => H[a]? = some (vp_cell (E.2.1 0) (n, .inl f))
  | .inr (.inl (t, n, g)) => (t = 1 ∨ t = 2) ∧ H[a]? = some (vp_cell (E.2.1 t) (n, .inr (.inr (.inr (.inr g)))))
  | .inr (.inr o) => va_at E.1 vwCl (a, .inr o) H
def aw_R (E : aw_E) (n : Nat) (h : ah) (H : Heap) : Prop := H.size = n ∧ ∀ (a : Nat) (e : ae), h a = some e → E.2.2.1 ≤ a ∧ aw_at E a e H
abbrev aw_tys (E : aw_E) : List (ClassId × FieldType) := [(E.2.1 0, .int), (E.2.1 1, .object "HonestGold$Plain"), (E.2.1 2, .object "HonestGold$Treasury")]
def aw_K (E : aw_E) (U : State) : Prop := va_K E.1 vwCl (aw_tys E) U
def aw_cl (E : aw_E) : Prop := ∀ (s U : State) (H H1 : Heap), s.WarmedH U.vm → (∀ a : Nat, a < H.size → a < E.2.2.1 → H1[a]? = H[a]?) → E.2.2.2 s H → E.2.2.2 U H1
/-- the words that a call may hand on -/
def aw_T : List Cond := lw_tbl.filter goodWord
theorem aw_mem {w : Cond} (i : Nat) (hi : lw_tbl[i]? = some w) (hg : goodWord w = true) : w ∈ aw_T := List.mem_filter.mpr ⟨List.mem_of_getElem? hi, hg⟩
def aw_rm (d mc ms : Nat) : Room := { frames := d, cells := mc, slots := ms, locals := 34 * d + 10 }
def aw_F (E : aw_E) (mi : aw_M) (p : Program) (s : State) (m : MethodId) (args : Array Value) (meth : Method) (c : Code) : Prop :=
  p.tables.exec = Jvm.exec ∧ c.code = mi.2.1 ∧ c.maxLocals = mi.2.2.1 ∧ meth.sig.returnType = mi.2.2.2 ∧ s.vm.findClass mi.1.cls = some m.cls ∧ (∀ w ∈ aw_T, w.before args s = true) ∧ meth.locks = false ∧ meth.name = mi.1.name ∧ aw_K E s ∧ E.2.2.2 s s.heap ∧ aw_cl E ∧ E.2.2.1 ≤ s.heap.size
abbrev aw_Zt : Type := List Frame → Array Value → State → Nat → Nat → State → Prop
def aw (l : Launch) (E : aw_E) (mi : aw_M) (Z : aw_Zt) (d bc bs pc : Nat) (ls : List (Nat × Value)) (st : List Value) (n : Nat) (h : ah) : Prop :=
  ∀ (p : Program) (e : Env) (s : State) (m : MethodId) (args : Array Value) (below : List Frame) (meth : Method) (c : Code) (H : Heap) (locs : List Loc) (cells slots mc ms : Nat) (ls' : Array Slot),
    aw_F E mi p s m args meth c → cells + bc ≤ mc → slots + bs ≤ ms → aw_R E n h H → va_S (aw_A E) s.heap H locs → lv_has ls' mi.2.2.1 ls →
    W p l e (aw_rm d mc ms) s m args below meth c H locs cells slots (Z below args s mc ms) (F0 m pc ls' st)
/-- what a method's end says -/
abbrev aw_P : Type := Option Value → Nat → ah → Prop
def aw_Qc (E : aw_E) (Q : aw_P) : Array Value → State → Outcome → State → Prop := fun _ st oc t => ∃ (r : Option Value) (n : Nat) (h : ah), oc = .returned r ∧ Q r n h ∧ aw_R E n h t.heap ∧ va_F (aw_A E) st t
def aw_Z (E : aw_E) (Q : aw_P) : aw_Zt := fun below args s mc ms => MQ below (aw_Qc E Q) args s mc ms (aw_A E)
def aw_Pc (E : aw_E) (n : Nat) (h : ah) (U : State) : Prop := aw_R E n h U.heap ∧ aw_K E U ∧ E.2.2.2 U U.heap ∧ aw_cl E ∧ E.2.2.1 ≤ U.heap.size
/-- THE CONTRACT of a method: from these arguments and this heap it returns, and Q holds of the answer and the heap then; d frames at most below it, mc cells of ms slots made -/
def am (l : Launch) (E : aw_E) (mi : aw_M) (d mc ms : Nat) (av : List Value) (n : Nat) (h : ah) (Q : aw_P) : Prop :=
  Met l mi.1 (.code mi.1 mi.2.1 mi.2.2.1 mi.2.2.2 :: aw_T) (aw_rm d mc ms) (va_Pc av (aw_Pc E n h)) (aw_Qc E Q) mc ms (aw_A E)
def aw_lk : List (Nat × Value) → Nat → Option Value
  | [], _ => none
  | q :: t, i => if q.1 = i then some q.2 else aw_lk t i
theorem aw_lk_mem : ∀ {ls : List (Nat × Value)} {i : Nat} {v : Value}, aw_lk ls i = some v → (i, v) ∈ ls
  | [], _, _, h => by cases h
  | q :: t, i, v, h => by
    unfold aw_lk at h
    by_cases hq : q.1 = i
    · rw [if_pos hq] at h
      have h2 : q = (i, v) := Prod.ext hq (Option.some.inj h)
      rw [h2]; exact List.mem_cons_self
    · rw [if_neg hq] at h
      exact List.mem_cons_of_mem _ (aw_lk_mem h)
def aw_st1 (i : Nat) (v : Value) (ls : List (Nat × Value)) : List (Nat × Value) := (i, v) :: ls.filter (fun q => !(q.1 == i) && !(q.1 + 1 == i && q.2.category == 2))
def aw_st2 (i : Nat) (v : Value) (ls : List (Nat × Value)) : List (Nat × Value) := (i, v) :: ls.filter (fun q => !(q.1 == i) && (!(q.1 == i + 1) && !(q.1 + 1 == i && q.2.category == 2)))
def aw_pk (ls : List (Nat × Value)) (ks : List Nat) : List (Nat × Value) := ks.filterMap (fun i => (aw_lk ls i).map (fun v => (i, v)))
theorem aw_pk_mem {ls : List (Nat × Value)} {ks : List Nat} {q : Nat × Value} (h : q ∈ aw_pk ls ks) : q ∈ ls := by
  unfold aw_pk at h
  obtain ⟨i, -, hi⟩ := List.mem_filterMap.mp h
  cases hv : aw_lk ls i with
  | none => rw [hv] at hi; cases hi
  | some v => rw [hv] at hi; cases hi; exact aw_lk_mem hv
theorem aw_cl_of {E : aw_E} (hc : aw_cl E) {s U : State} {H : Heap} {locs : List Loc} (hW : s.WarmedH U.vm) (hS : va_S (aw_A E) s.heap H locs) (h : E.2.2.2 s s.heap) : E.2.2.2 U H :=
  hc s U s.heap H hW (fun a h1 h2 => hS.2.1 a h1 (Nat.not_le.mpr h2)) h
section AW
variable {l : Launch} {E : aw_E} {mi : aw_M} {Z : aw_Zt} {d bc bs pc : Nat} {ls : List (Nat × Value)} {st : List Value} {n : Nat} {h : ah}
theorem aw_loc {ls2 : List (Nat × Value)} (ks : List Nat) (hl : aw_pk ls ks = ls2) (k : aw l E mi Z d bc bs pc ls2 st n h) : aw l E mi Z d bc bs pc ls st n h := by
  intro p e s m args below meth c H locs cells slots mc ms ls' F h1 h2 hR hS hl'
  exact k p e s m args below meth c H locs cells slots mc ms ls' F h1 h2 hR hS ⟨hl'.1, hl'.2.1, fun q hq => hl'.2.2 q (aw_pk_mem (by rw [hl]; exact hq))⟩
theorem aw_bud {bc' bs' : Nat} (k : aw l E mi Z d bc' bs' pc ls st n h) (hc : bc' ≤ bc) (hs : bs' ≤ bs) : aw l E mi Z d bc bs pc ls st n h := by
  intro p e s m args below meth c H locs cells slots mc ms ls' F h1 h2 hR hS hl'
  exact k p e s m args below meth c H locs cells slots mc ms ls' F (by omega) (by omega) hR hS hl'
theorem aw_iconst {z : Int} {v : Int32} (hd : decode mi.2.1 pc = .ok (.iconst z, 1)) (hv : Int32.ofInt z = v) (k : aw l E mi Z d bc bs (pc + 1) ls (.int v :: st) n h) : aw l E mi Z d bc bs pc ls (st) n h := by
  intro p e s m args below meth c H locs cells slots mc ms ls' F h1 h2 hR hS hl
  exact lv_iconst F.1 F.2.1 hd hv (k p e s m args below meth c H locs cells slots mc ms ls' F h1 h2 hR hS hl)
theorem aw_bipush {z : Int} {v : Int32} (hd : decode mi.2.1 pc = .ok (.bipush z, 2)) (hv : (Int8.ofInt z).toInt32 = v) (k : aw l E mi Z d bc bs (pc + 2) ls (.int v :: st) n h) : aw l E mi Z d bc bs pc ls (st) n h := by
  intro p e s m args below meth c H locs cells slots mc ms ls' F h1 h2 hR hS hl
  exact lv_bipush F.1 F.2.1 hd hv (k p e s m args below meth c H locs cells slots mc ms ls' F h1 h2 hR hS hl)
theorem aw_sipush {z : Int} {v : Int32} (hd : decode mi.2.1 pc = .ok (.sipush z, 3)) (hv : (Int16.ofInt z).toInt32 = v) (k : aw l E mi Z d bc bs (pc + 3) ls (.int v :: st) n h) : aw l E mi Z d bc bs pc ls (st) n h := by
  intro p e s m args below meth c H locs cells slots mc ms ls' F h1 h2 hR hS hl
  exact lv_sipush F.1 F.2.1 hd hv (k p e s m args below meth c H locs cells slots mc ms ls' F h1 h2 hR hS hl)
theorem aw_lconst {z : Fin 2} {v : Int64} (hd : decode mi.2.1 pc = .ok (.lconst z, 1)) (hv : Int64.ofNat (z : Nat) = v) (k : aw l E mi Z d bc bs (pc + 1) ls (.long v :: st) n h) : aw l E mi Z d bc bs pc ls (st) n h := by
  intro p e s m args below meth c H locs cells slots mc ms ls' F h1 h2 hR hS hl
  exact lv_lconst F.1 F.2.1 hd hv (k p e s m args below meth c H locs cells slots mc ms ls' F h1 h2 hR hS hl)
theorem aw_iload_n {z : Fin 4} {v : Int32} (hd : decode mi.2.1 pc = .ok (.iload_n z, 1)) (hv : aw_lk ls z.val = some (.int v)) (k : aw l E mi Z d bc bs (pc + 1) ls (.int v :: st) n h) : aw l E mi Z d bc bs pc ls (st) n h := by
  intro p e s m args below meth c H locs cells slots mc ms ls' F h1 h2 hR hS hl
  exact lv_iload_n F.1 F.2.1 hd rfl (hl.2.2 _ (aw_lk_mem hv)) (k p e s m args below meth c H locs cells slots mc ms ls' F h1 h2 hR hS hl)
theorem aw_iload {i : Nat} {v : Int32} (hd : decode mi.2.1 pc = .ok (.iload i, 2)) (hv : aw_lk ls i = some (.int v)) (k : aw l E mi Z d bc bs (pc + 2) ls (.int v :: st) n h) : aw l E mi Z d bc bs pc ls (st) n h := by
  intro p e s m args below meth c H locs cells slots mc ms ls' F h1 h2 hR hS hl
  exact lv_iload F.1 F.2.1 hd (hl.2.2 _ (aw_lk_mem hv)) (k p e s m args below meth c H locs cells slots mc ms ls' F h1 h2 hR hS hl)
theorem aw_lload_n {z : Fin 4} {v : Int64} (hd : decode mi.2.1 pc = .ok (.lload_n z, 1)) (hv : aw_lk ls z.val = some (.long v)) (k : aw l E mi Z d bc bs (pc + 1) ls (.long v :: st) n h) : aw l E mi Z d bc bs pc ls (st) n h := by
  intro p e s m args below meth c H locs cells slots mc ms ls' F h1 h2 hR hS hl
  exact lv_lload_n F.1 F.2.1 hd rfl (hl.2.2 _ (aw_lk_mem hv)) (k p e s m args below meth c H locs cells slots mc ms ls' F h1 h2 hR hS hl)
theorem aw_lload {i : Nat} {v : Int64} (hd : decode mi.2.1 pc = .ok (.lload i, 2)) (hv : aw_lk ls i = some (.long v)) (k : aw l E mi Z d bc bs (pc + 2) ls (.long v :: st) n h) : aw l E mi Z d bc bs pc ls (st) n h := by
  intro p e s m args below meth c H locs cells slots mc ms ls' F h1 h2 hR hS hl
  exact lv_lload F.1 F.2.1 hd (hl.2.2 _ (aw_lk_mem hv)) (k p e s m args below meth c H locs cells slots mc ms ls' F h1 h2 hR hS hl)
theorem aw_aload_n {z : Fin 4} {v : Nat} (hd : decode mi.2.1 pc = .ok (.aload_n z, 1)) (hv : aw_lk ls z.val = some (.ref v)) (k : aw l E mi Z d bc bs (pc + 1) ls (.ref v :: st) n h) : aw l E mi Z d bc bs pc ls (st) n h := by
  intro p e s m args below meth c H locs cells slots mc ms ls' F h1 h2 hR hS hl
  exact lv_aload_n F.1 F.2.1 hd rfl (hl.2.2 _ (aw_lk_mem hv)) (k p e s m args below meth c H locs cells slots mc ms ls' F h1 h2 hR hS hl)
theorem aw_aload {i : Nat} {v : Nat} (hd : decode mi.2.1 pc = .ok (.aload i, 2)) (hv : aw_lk ls i = some (.ref v)) (k : aw l E mi Z d bc bs (pc + 2) ls (.ref v :: st) n h) : aw l E mi Z d bc bs pc ls (st) n h := by
  intro p e s m args below meth c H locs cells slots mc ms ls' F h1 h2 hR hS hl
  exact lv_aload F.1 F.2.1 hd (hl.2.2 _ (aw_lk_mem hv)) (k p e s m args below meth c H locs cells slots mc ms ls' F h1 h2 hR hS hl)
theorem aw_aload_nN {z : Fin 4} (hd : decode mi.2.1 pc = .ok (.aload_n z, 1)) (hv : aw_lk ls z.val = some .null) (k : aw l E mi Z d bc bs (pc + 1) ls (.null :: st) n h) : aw l E mi Z d bc bs pc ls (st) n h := by
  intro p e s m args below meth c H locs cells slots mc ms ls' F h1 h2 hR hS hl
  exact lv_aload_nN F.1 F.2.1 hd rfl (hl.2.2 _ (aw_lk_mem hv)) (k p e s m args below meth c H locs cells slots mc ms ls' F h1 h2 hR hS hl)
theorem aw_istore_n {z : Fin 4} {v : Int32} (hd : decode mi.2.1 pc = .ok (.istore_n z, 1)) (hn : z.val < mi.2.2.1) (k : aw l E mi Z d bc bs (pc + 1) (aw_st1 z.val (.int v) ls) st n h) : aw l E mi Z d bc bs pc ls (.int v :: st) n h := by
  intro p e s m args below meth c H locs cells slots mc ms ls' F h1 h2 hR hS hl
  exact lv_istore_n F.1 F.2.1 hd rfl hl hn rfl (fun ls2 hl2 => k p e s m args below meth c H locs cells slots mc ms ls2 F h1 h2 hR hS hl2)
theorem aw_istore {i : Nat} {v : Int32} (hd : decode mi.2.1 pc = .ok (.istore i, 2)) (hn : i < mi.2.2.1) (k : aw l E mi Z d bc bs (pc + 2) (aw_st1 i (.int v) ls) st n h) : aw l E mi Z d bc bs pc ls (.int v :: st) n h := by
  intro p e s m args below meth c H locs cells slots mc ms ls' F h1 h2 hR hS hl
  exact lv_istore F.1 F.2.1 hd hl hn rfl (fun ls2 hl2 => k p e s m args below meth c H locs cells slots mc ms ls2 F h1 h2 hR hS hl2)
theorem aw_lstore_n {z : Fin 4} {v : Int64} (hd : decode mi.2.1 pc = .ok (.lstore_n z, 1)) (hn : z.val + 1 < mi.2.2.1) (k : aw l E mi Z d bc bs (pc + 1) (aw_st2 z.val (.long v) ls) st n h) : aw l E mi Z d bc bs pc ls (.long v :: st) n h := by
  intro p e s m args below meth c H locs cells slots mc ms ls' F h1 h2 hR hS hl
  exact lv_lstore_n F.1 F.2.1 hd rfl hl hn rfl (fun ls2 hl2 => k p e s m args below meth c H locs cells slots mc ms ls2 F h1 h2 hR hS hl2)
theorem aw_lstore {i : Nat} {v : Int64} (hd : decode mi.2.1 pc = .ok (.lstore i, 2)) (hn : i + 1 < mi.2.2.1) (k : aw l E mi Z d bc bs (pc + 2) (aw_st2 i (.long v) ls) st n h) : aw l E mi Z d bc bs pc ls (.long v :: st) n h := by
  intro p e s m args below meth c H locs cells slots mc ms ls' F h1 h2 hR hS hl
  exact lv_lstore F.1 F.2.1 hd hl hn rfl (fun ls2 hl2 => k p e s m args below meth c H locs cells slots mc ms ls2 F h1 h2 hR hS hl2)
theorem aw_astore_n {z : Fin 4} {v : Nat} (hd : decode mi.2.1 pc = .ok (.astore_n z, 1)) (hn : z.val < mi.2.2.1) (k : aw l E mi Z d bc bs (pc + 1) (aw_st1 z.val (.ref v) ls) st n h) : aw l E mi Z d bc bs pc ls (.ref v :: st) n h := by
  intro p e s m args below meth c H locs cells slots mc ms ls' F h1 h2 hR hS hl
  exact lv_astore_n F.1 F.2.1 hd rfl hl hn rfl (fun ls2 hl2 => k p e s m args below meth c H locs cells slots mc ms ls2 F h1 h2 hR hS hl2)
theorem aw_astore {i : Nat} {v : Nat} (hd : decode mi.2.1 pc = .ok (.astore i, 2)) (hn : i < mi.2.2.1) (k : aw l E mi Z d bc bs (pc + 2) (aw_st1 i (.ref v) ls) st n h) : aw l E mi Z d bc bs pc ls (.ref v :: st) n h := by
  intro p e s m args below meth c H locs cells slots mc ms ls' F h1 h2 hR hS hl
  exact lv_astore F.1 F.2.1 hd hl hn rfl (fun ls2 hl2 => k p e s m args below meth c H locs cells slots mc ms ls2 F h1 h2 hR hS hl2)
theorem aw_iinc {i : Nat} {z : Int} {x v : Int32} (hd : decode mi.2.1 pc = .ok (.iinc i z, 3)) (hv : aw_lk ls i = some (.int x)) (hx : x + Int32.ofInt z = v) (hn : i < mi.2.2.1) (k : aw l E mi Z d bc bs (pc + 3) (aw_st1 i (.int v) ls) st n h) : aw l E mi Z d bc bs pc ls st n h := by
  intro p e s m args below meth c H locs cells slots mc ms ls' F h1 h2 hR hS hl
  obtain ⟨j, hj⟩ := List.mem_iff_getElem?.mp (aw_lk_mem hv)
  exact lv_iinc F.1 F.2.1 hd hl hj hx hn rfl (fun ls2 hl2 => k p e s m args below meth c H locs cells slots mc ms ls2 F h1 h2 hR hS hl2)
theorem aw_iadd {x y : Int32} (hd : decode mi.2.1 pc = .ok (.iadd, 1))  (k : aw l E mi Z d bc bs (pc + 1) ls (.int (x + y) :: st) n h) : aw l E mi Z d bc bs pc ls (.int y :: .int x :: st) n h := by
  intro p e s m args below meth c H locs cells slots mc ms ls' F h1 h2 hR hS hl
  exact lv_iadd F.1 F.2.1 hd  (k p e s m args below meth c H locs cells slots mc ms ls' F h1 h2 hR hS hl)
theorem aw_isub {x y : Int32} (hd : decode mi.2.1 pc = .ok (.isub, 1))  (k : aw l E mi Z d bc bs (pc + 1) ls (.int (x - y) :: st) n h) : aw l E mi Z d bc bs pc ls (.int y :: .int x :: st) n h := by
  intro p e s m args below meth c H locs cells slots mc ms ls' F h1 h2 hR hS hl
  exact lv_isub F.1 F.2.1 hd  (k p e s m args below meth c H locs cells slots mc ms ls' F h1 h2 hR hS hl)
theorem aw_imul {x y : Int32} (hd : decode mi.2.1 pc = .ok (.imul, 1))  (k : aw l E mi Z d bc bs (pc + 1) ls (.int (x * y) :: st) n h) : aw l E mi Z d bc bs pc ls (.int y :: .int x :: st) n h := by
  intro p e s m args below meth c H locs cells slots mc ms ls' F h1 h2 hR hS hl
  exact lv_imul F.1 F.2.1 hd  (k p e s m args below meth c H locs cells slots mc ms ls' F h1 h2 hR hS hl)
theorem aw_iand {x y : Int32} (hd : decode mi.2.1 pc = .ok (.iand, 1))  (k : aw l E mi Z d bc bs (pc + 1) ls (.int (x &&& y) :: st) n h) : aw l E mi Z d bc bs pc ls (.int y :: .int x :: st) n h := by
  intro p e s m args below meth c H locs cells slots mc ms ls' F h1 h2 hR hS hl
  exact lv_iand F.1 F.2.1 hd  (k p e s m args below meth c H locs cells slots mc ms ls' F h1 h2 hR hS hl)
theorem aw_ior {x y : Int32} (hd : decode mi.2.1 pc = .ok (.ior, 1))  (k : aw l E mi Z d bc bs (pc + 1) ls (.int (x ||| y) :: st) n h) : aw l E mi Z d bc bs pc ls (.int y :: .int x :: st) n h := by
  intro p e s m args below meth c H locs cells slots mc ms ls' F h1 h2 hR hS hl
  exact lv_ior F.1 F.2.1 hd  (k p e s m args below meth c H locs cells slots mc ms ls' F h1 h2 hR hS hl)
theorem aw_ixor {x y : Int32} (hd : decode mi.2.1 pc = .ok (.ixor, 1))  (k : aw l E mi Z d bc bs (pc + 1) ls (.int (x ^^^ y) :: st) n h) : aw l E mi Z d bc bs pc ls (.int y :: .int x :: st) n h := by
  intro p e s m args below meth c H locs cells slots mc ms ls' F h1 h2 hR hS hl
  exact lv_ixor F.1 F.2.1 hd  (k p e s m args below meth c H locs cells slots mc ms ls' F h1 h2 hR hS hl)
theorem aw_idiv {x y : Int32} (hd : decode mi.2.1 pc = .ok (.idiv, 1)) (hne : ¬ y = 0) (k : aw l E mi Z d bc bs (pc + 1) ls (.int (x / y) :: st) n h) : aw l E mi Z d bc bs pc ls (.int y :: .int x :: st) n h := by
  intro p e s m args below meth c H locs cells slots mc ms ls' F h1 h2 hR hS hl
  exact lv_idiv F.1 F.2.1 hd hne (k p e s m args below meth c H locs cells slots mc ms ls' F h1 h2 hR hS hl)
theorem aw_irem {x y : Int32} (hd : decode mi.2.1 pc = .ok (.irem, 1)) (hne : ¬ y = 0) (k : aw l E mi Z d bc bs (pc + 1) ls (.int (x - x / y * y) :: st) n h) : aw l E mi Z d bc bs pc ls (.int y :: .int x :: st) n h := by
  intro p e s m args below meth c H locs cells slots mc ms ls' F h1 h2 hR hS hl
  exact lv_irem F.1 F.2.1 hd hne (k p e s m args below meth c H locs cells slots mc ms ls' F h1 h2 hR hS hl)
theorem aw_ladd {x y : Int64} (hd : decode mi.2.1 pc = .ok (.ladd, 1))  (k : aw l E mi Z d bc bs (pc + 1) ls (.long (x + y) :: st) n h) : aw l E mi Z d bc bs pc ls (.long y :: .long x :: st) n h := by
  intro p e s m args below meth c H locs cells slots mc ms ls' F h1 h2 hR hS hl
  exact lv_ladd F.1 F.2.1 hd  (k p e s m args below meth c H locs cells slots mc ms ls' F h1 h2 hR hS hl)
theorem aw_lsub {x y : Int64} (hd : decode mi.2.1 pc = .ok (.lsub, 1))  (k : aw l E mi Z d bc bs (pc + 1) ls (.long (x - y) :: st) n h) : aw l E mi Z d bc bs pc ls (.long y :: .long x :: st) n h := by
  intro p e s m args below meth c H locs cells slots mc ms ls' F h1 h2 hR hS hl
  exact lv_lsub F.1 F.2.1 hd  (k p e s m args below meth c H locs cells slots mc ms ls' F h1 h2 hR hS hl)
theorem aw_lmul {x y : Int64} (hd : decode mi.2.1 pc = .ok (.lmul, 1))  (k : aw l E mi Z d bc bs (pc + 1) ls (.long (x * y) :: st) n h) : aw l E mi Z d bc bs pc ls (.long y :: .long x :: st) n h := by
  intro p e s m args below meth c H locs cells slots mc ms ls' F h1 h2 hR hS hl
  exact lv_lmul F.1 F.2.1 hd  (k p e s m args below meth c H locs cells slots mc ms ls' F h1 h2 hR hS hl)
theorem aw_ldiv {x y : Int64} (hd : decode mi.2.1 pc = .ok (.ldiv, 1)) (hne : ¬ y = 0) (k : aw l E mi Z d bc bs (pc + 1) ls (.long (x / y) :: st) n h) : aw l E mi Z d bc bs pc ls (.long y :: .long x :: st) n h := by
  intro p e s m args below meth c H locs cells slots mc ms ls' F h1 h2 hR hS hl
  exact lv_ldiv F.1 F.2.1 hd hne (k p e s m args below meth c H locs cells slots mc ms ls' F h1 h2 hR hS hl)
theorem aw_lrem {x y : Int64} (hd : decode mi.2.1 pc = .ok (.lrem, 1)) (hne : ¬ y = 0) (k : aw l E mi Z d bc bs (pc + 1) ls (.long (x - x / y * y) :: st) n h) : aw l E mi Z d bc bs pc ls (.long y :: .long x :: st) n h := by
  intro p e s m args below meth c H locs cells slots mc ms ls' F h1 h2 hR hS hl
  exact lv_lrem F.1 F.2.1 hd hne (k p e s m args below meth c H locs cells slots mc ms ls' F h1 h2 hR hS hl)
theorem aw_ishl {x y : Int32} (hd : decode mi.2.1 pc = .ok (.ishl, 1))  (k : aw l E mi Z d bc bs (pc + 1) ls (.int (x <<< (y &&& 31)) :: st) n h) : aw l E mi Z d bc bs pc ls (.int y :: .int x :: st) n h := by
  intro p e s m args below meth c H locs cells slots mc ms ls' F h1 h2 hR hS hl
  exact lv_ishl F.1 F.2.1 hd  (k p e s m args below meth c H locs cells slots mc ms ls' F h1 h2 hR hS hl)
theorem aw_ishr {x y : Int32} (hd : decode mi.2.1 pc = .ok (.ishr, 1))  (k : aw l E mi Z d bc bs (pc + 1) ls (.int (x >>> (y &&& 31)) :: st) n h) : aw l E mi Z d bc bs pc ls (.int y :: .int x :: st) n h := by
  intro p e s m args below meth c H locs cells slots mc ms ls' F h1 h2 hR hS hl
  exact lv_ishr F.1 F.2.1 hd  (k p e s m args below meth c H locs cells slots mc ms ls' F h1 h2 hR hS hl)
theorem aw_iushr {x y v : Int32} (hd : decode mi.2.1 pc = .ok (.iushr, 1)) (hv : (x.toUInt32 >>> (y.toUInt32 &&& Int32.toUInt32 31)).toInt32 = v) (k : aw l E mi Z d bc bs (pc + 1) ls (.int v :: st) n h) : aw l E mi Z d bc bs pc ls (.int y :: .int x :: st) n h := by
  intro p e s m args below meth c H locs cells slots mc ms ls' F h1 h2 hR hS hl
  exact lv_iushr F.1 F.2.1 hd hv (k p e s m args below meth c H locs cells slots mc ms ls' F h1 h2 hR hS hl)
theorem aw_ineg {x : Int32} (hd : decode mi.2.1 pc = .ok (.ineg, 1))  (k : aw l E mi Z d bc bs (pc + 1) ls (.int (-x) :: st) n h) : aw l E mi Z d bc bs pc ls (.int x :: st) n h := by
  intro p e s m args below meth c H locs cells slots mc ms ls' F h1 h2 hR hS hl
  exact lv_ineg F.1 F.2.1 hd  (k p e s m args below meth c H locs cells slots mc ms ls' F h1 h2 hR hS hl)
theorem aw_i2l {x : Int32} {v : Int64} (hd : decode mi.2.1 pc = .ok (.i2l, 1)) (hv : x.toInt64 = v) (k : aw l E mi Z d bc bs (pc + 1) ls (.long v :: st) n h) : aw l E mi Z d bc bs pc ls (.int x :: st) n h := by
  intro p e s m args below meth c H locs cells slots mc ms ls' F h1 h2 hR hS hl
  exact lv_i2l F.1 F.2.1 hd hv (k p e s m args below meth c H locs cells slots mc ms ls' F h1 h2 hR hS hl)
theorem aw_l2i {x : Int64} {v : Int32} (hd : decode mi.2.1 pc = .ok (.l2i, 1)) (hv : x.toInt32 = v) (k : aw l E mi Z d bc bs (pc + 1) ls (.int v :: st) n h) : aw l E mi Z d bc bs pc ls (.long x :: st) n h := by
  intro p e s m args below meth c H locs cells slots mc ms ls' F h1 h2 hR hS hl
  exact lv_l2i F.1 F.2.1 hd hv (k p e s m args below meth c H locs cells slots mc ms ls' F h1 h2 hR hS hl)
theorem aw_i2c {x v : Int32} (hd : decode mi.2.1 pc = .ok (.i2c, 1)) (hv : (x.toUInt32 % 65536).toInt32 = v) (k : aw l E mi Z d bc bs (pc + 1) ls (.int v :: st) n h) : aw l E mi Z d bc bs pc ls (.int x :: st) n h := by
  intro p e s m args below meth c H locs cells slots mc ms ls' F h1 h2 hR hS hl
  exact lv_i2c F.1 F.2.1 hd hv (k p e s m args below meth c H locs cells slots mc ms ls' F h1 h2 hR hS hl)
theorem aw_lcmp {x y : Int64} (hd : decode mi.2.1 pc = .ok (.lcmp, 1))  (k : aw l E mi Z d bc bs (pc + 1) ls (.int (lg_cmp x y) :: st) n h) : aw l E mi Z d bc bs pc ls (.long y :: .long x :: st) n h := by
  intro p e s m args below meth c H locs cells slots mc ms ls' F h1 h2 hR hS hl
  exact W.lcmp F.1 F.2.1 hd  (k p e s m args below meth c H locs cells slots mc ms ls' F h1 h2 hR hS hl)
theorem aw_dup {va : Value} (hd : decode mi.2.1 pc = .ok (.dup, 1)) (hva : va.category = 1) (k : aw l E mi Z d bc bs (pc + 1) ls (va :: va :: st) n h) : aw l E mi Z d bc bs pc ls (va :: st) n h := by
  intro p e s m args below meth c H locs cells slots mc ms ls' F h1 h2 hR hS hl
  exact lv_dup F.1 F.2.1 hd hva (k p e s m args below meth c H locs cells slots mc ms ls' F h1 h2 hR hS hl)
theorem aw_pop {va : Value} (hd : decode mi.2.1 pc = .ok (.pop, 1)) (hva : va.category = 1) (k : aw l E mi Z d bc bs (pc + 1) ls (st) n h) : aw l E mi Z d bc bs pc ls (va :: st) n h := by
  intro p e s m args below meth c H locs cells slots mc ms ls' F h1 h2 hR hS hl
  exact lv_pop F.1 F.2.1 hd hva (k p e s m args below meth c H locs cells slots mc ms ls' F h1 h2 hR hS hl)
theorem aw_dup2 {va vb : Value} (hd : decode mi.2.1 pc = .ok (.dup2, 1)) (hva : va.category = 1) (hvb : vb.category = 1) (k : aw l E mi Z d bc bs (pc + 1) ls (va :: vb :: va :: vb :: st) n h) : aw l E mi Z d bc bs pc ls (va :: vb :: st) n h := by
  intro p e s m args below meth c H locs cells slots mc ms ls' F h1 h2 hR hS hl
  exact lv_dup2_11 F.1 F.2.1 hd hva hvb (k p e s m args below meth c H locs cells slots mc ms ls' F h1 h2 hR hS hl)
theorem aw_dup_x1 {va vb : Value} (hd : decode mi.2.1 pc = .ok (.dup_x1, 1)) (hva : va.category = 1) (hvb : vb.category = 1) (k : aw l E mi Z d bc bs (pc + 1) ls (va :: vb :: va :: st) n h) : aw l E mi Z d bc bs pc ls (va :: vb :: st) n h := by
  intro p e s m args below meth c H locs cells slots mc ms ls' F h1 h2 hR hS hl
  exact lv_dup_x1 F.1 F.2.1 hd hva hvb (k p e s m args below meth c H locs cells slots mc ms ls' F h1 h2 hR hS hl)
theorem aw_if_eq {x : Int32} {off : Int} {tgt : Nat} (hd : decode mi.2.1 pc = .ok (.ifCond .eq off, 3)) (ht : (pc : Int) + off = (tgt : Int)) (kt : x = 0 → aw l E mi Z d bc bs tgt ls st n h) (kf : ¬ x = 0 → aw l E mi Z d bc bs (pc + 3) ls st n h) : aw l E mi Z d bc bs pc ls (.int x :: st) n h := by
  intro p e s m args below meth c H locs cells slots mc ms ls' F h1 h2 hR hS hl
  exact lv_if_eq F.1 F.2.1 hd ht (fun cq => kt cq p e s m args below meth c H locs cells slots mc ms ls' F h1 h2 hR hS hl) (fun cq => kf cq p e s m args below meth c H locs cells slots mc ms ls' F h1 h2 hR hS hl)
theorem aw_icmp_eq {x y : Int32} {off : Int} {tgt : Nat} (hd : decode mi.2.1 pc = .ok (.if_icmp .eq off, 3)) (ht : (pc : Int) + off = (tgt : Int)) (kt : x = y → aw l E mi Z d bc bs tgt ls st n h) (kf : ¬ x = y → aw l E mi Z d bc bs (pc + 3) ls st n h) : aw l E mi Z d bc bs pc ls (.int y :: .int x :: st) n h := by
  intro p e s m args below meth c H locs cells slots mc ms ls' F h1 h2 hR hS hl
  exact lv_icmp_eq F.1 F.2.1 hd ht (fun cq => kt cq p e s m args below meth c H locs cells slots mc ms ls' F h1 h2 hR hS hl) (fun cq => kf cq p e s m args below meth c H locs cells slots mc ms ls' F h1 h2 hR hS hl)
theorem aw_if_ne {x : Int32} {off : Int} {tgt : Nat} (hd : decode mi.2.1 pc = .ok (.ifCond .ne off, 3)) (ht : (pc : Int) + off = (tgt : Int)) (kt : ¬ x = 0 → aw l E mi Z d bc bs tgt ls st n h) (kf : x = 0 → aw l E mi Z d bc bs (pc + 3) ls st n h) : aw l E mi Z d bc bs pc ls (.int x :: st) n h := by
  intro p e s m args below meth c H locs cells slots mc ms ls' F h1 h2 hR hS hl
  exact lv_if_ne F.1 F.2.1 hd ht (fun cq => kt cq p e s m args below meth c H locs cells slots mc ms ls' F h1 h2 hR hS hl) (fun cq => kf cq p e s m args below meth c H locs cells slots mc ms ls' F h1 h2 hR hS hl)
theorem aw_icmp_ne {x y : Int32} {off : Int} {tgt : Nat} (hd : decode mi.2.1 pc = .ok (.if_icmp .ne off, 3)) (ht : (pc : Int) + off = (tgt : Int)) (kt : ¬ x = y → aw l E mi Z d bc bs tgt ls st n h) (kf : x = y → aw l E mi Z d bc bs (pc + 3) ls st n h) : aw l E mi Z d bc bs pc ls (.int y :: .int x :: st) n h := by
  intro p e s m args below meth c H locs cells slots mc ms ls' F h1 h2 hR hS hl
  exact lv_icmp_ne F.1 F.2.1 hd ht (fun cq => kt cq p e s m args below meth c H locs cells slots mc ms ls' F h1 h2 hR hS hl) (fun cq => kf cq p e s m args below meth c H locs cells slots mc ms ls' F h1 h2 hR hS hl)
theorem aw_if_lt {x : Int32} {off : Int} {tgt : Nat} (hd : decode mi.2.1 pc = .ok (.ifCond .lt off, 3)) (ht : (pc : Int) + off = (tgt : Int)) (kt : x < 0 → aw l E mi Z d bc bs tgt ls st n h) (kf : ¬ x < 0 → aw l E mi Z d bc bs (pc + 3) ls st n h) : aw l E mi Z d bc bs pc ls (.int x :: st) n h := by
  intro p e s m args below meth c H locs cells slots mc ms ls' F h1 h2 hR hS hl
  exact lv_if_lt F.1 F.2.1 hd ht (fun cq => kt cq p e s m args below meth c H locs cells slots mc ms ls' F h1 h2 hR hS hl) (fun cq => kf cq p e s m args below meth c H locs cells slots mc ms ls' F h1 h2 hR hS hl)
theorem aw_icmp_lt {x y : Int32} {off : Int} {tgt : Nat} (hd : decode mi.2.1 pc = .ok (.if_icmp .lt off, 3)) (ht : (pc : Int) + off = (tgt : Int)) (kt : x < y → aw l E mi Z d bc bs tgt ls st n h) (kf : ¬ x < y → aw l E mi Z d bc bs (pc + 3) ls st n h) : aw l E mi Z d bc bs pc ls (.int y :: .int x :: st) n h := by
  intro p e s m args below meth c H locs cells slots mc ms ls' F h1 h2 hR hS hl
  exact lv_icmp_lt F.1 F.2.1 hd ht (fun cq => kt cq p e s m args below meth c H locs cells slots mc ms ls' F h1 h2 hR hS hl) (fun cq => kf cq p e s m args below meth c H locs cells slots mc ms ls' F h1 h2 hR hS hl)
theorem aw_if_ge {x : Int32} {off : Int} {tgt : Nat} (hd : decode mi.2.1 pc = .ok (.ifCond .ge off, 3)) (ht : (pc : Int) + off = (tgt : Int)) (kt : 0 ≤ x → aw l E mi Z d bc bs tgt ls st n h) (kf : ¬ 0 ≤ x → aw l E mi Z d bc bs (pc + 3) ls st n h) : aw l E mi Z d bc bs pc ls (.int x :: st) n h := by
  intro p e s m args below meth c H locs cells slots mc ms ls' F h1 h2 hR hS hl
  exact lv_if_ge F.1 F.2.1 hd ht (fun cq => kt cq p e s m args below meth c H locs cells slots mc ms ls' F h1 h2 hR hS hl) (fun cq => kf cq p e s m args below meth c H locs cells slots mc ms ls' F h1 h2 hR hS hl)
theorem aw_icmp_ge {x y : Int32} {off : Int} {tgt : Nat} (hd : decode mi.2.1 pc = .ok (.if_icmp .ge off, 3)) (ht : (pc : Int) + off = (tgt : Int)) (kt : y ≤ x → aw l E mi Z d bc bs tgt ls st n h) (kf : ¬ y ≤ x → aw l E mi Z d bc bs (pc + 3) ls st n h) : aw l E mi Z d bc bs pc ls (.int y :: .int x :: st) n h := by
  intro p e s m args below meth c H locs cells slots mc ms ls' F h1 h2 hR hS hl
  exact lv_icmp_ge F.1 F.2.1 hd ht (fun cq => kt cq p e s m args below meth c H locs cells slots mc ms ls' F h1 h2 hR hS hl) (fun cq => kf cq p e s m args below meth c H locs cells slots mc ms ls' F h1 h2 hR hS hl)
theorem aw_if_gt {x : Int32} {off : Int} {tgt : Nat} (hd : decode mi.2.1 pc = .ok (.ifCond .gt off, 3)) (ht : (pc : Int) + off = (tgt : Int)) (kt : 0 < x → aw l E mi Z d bc bs tgt ls st n h) (kf : ¬ 0 < x → aw l E mi Z d bc bs (pc + 3) ls st n h) : aw l E mi Z d bc bs pc ls (.int x :: st) n h := by
  intro p e s m args below meth c H locs cells slots mc ms ls' F h1 h2 hR hS hl
  exact lv_if_gt F.1 F.2.1 hd ht (fun cq => kt cq p e s m args below meth c H locs cells slots mc ms ls' F h1 h2 hR hS hl) (fun cq => kf cq p e s m args below meth c H locs cells slots mc ms ls' F h1 h2 hR hS hl)
theorem aw_icmp_gt {x y : Int32} {off : Int} {tgt : Nat} (hd : decode mi.2.1 pc = .ok (.if_icmp .gt off, 3)) (ht : (pc : Int) + off = (tgt : Int)) (kt : y < x → aw l E mi Z d bc bs tgt ls st n h) (kf : ¬ y < x → aw l E mi Z d bc bs (pc + 3) ls st n h) : aw l E mi Z d bc bs pc ls (.int y :: .int x :: st) n h := by
  intro p e s m args below meth c H locs cells slots mc ms ls' F h1 h2 hR hS hl
  exact lv_icmp_gt F.1 F.2.1 hd ht (fun cq => kt cq p e s m args below meth c H locs cells slots mc ms ls' F h1 h2 hR hS hl) (fun cq => kf cq p e s m args below meth c H locs cells slots mc ms ls' F h1 h2 hR hS hl)
theorem aw_if_le {x : Int32} {off : Int} {tgt : Nat} (hd : decode mi.2.1 pc = .ok (.ifCond .le off, 3)) (ht : (pc : Int) + off = (tgt : Int)) (kt : x ≤ 0 → aw l E mi Z d bc bs tgt ls st n h) (kf : ¬ x ≤ 0 → aw l E mi Z d bc bs (pc + 3) ls st n h) : aw l E mi Z d bc bs pc ls (.int x :: st) n h := by
  intro p e s m args below meth c H locs cells slots mc ms ls' F h1 h2 hR hS hl
  exact lv_if_le F.1 F.2.1 hd ht (fun cq => kt cq p e s m args below meth c H locs cells slots mc ms ls' F h1 h2 hR hS hl) (fun cq => kf cq p e s m args below meth c H locs cells slots mc ms ls' F h1 h2 hR hS hl)
theorem aw_icmp_le {x y : Int32} {off : Int} {tgt : Nat} (hd : decode mi.2.1 pc = .ok (.if_icmp .le off, 3)) (ht : (pc : Int) + off = (tgt : Int)) (kt : x ≤ y → aw l E mi Z d bc bs tgt ls st n h) (kf : ¬ x ≤ y → aw l E mi Z d bc bs (pc + 3) ls st n h) : aw l E mi Z d bc bs pc ls (.int y :: .int x :: st) n h := by
  intro p e s m args below meth c H locs cells slots mc ms ls' F h1 h2 hR hS hl
  exact lv_icmp_le F.1 F.2.1 hd ht (fun cq => kt cq p e s m args below meth c H locs cells slots mc ms ls' F h1 h2 hR hS hl) (fun cq => kf cq p e s m args below meth c H locs cells slots mc ms ls' F h1 h2 hR hS hl)
theorem aw_goto {off : Int} {tgt : Nat} (hd : decode mi.2.1 pc = .ok (.goto off, 3)) (ht : (pc : Int) + off = (tgt : Int)) (k : aw l E mi Z d bc bs tgt ls st n h) : aw l E mi Z d bc bs pc ls st n h := by
  intro p e s m args below meth c H locs cells slots mc ms ls' F h1 h2 hR hS hl
  exact lv_goto F.1 F.2.1 hd ht (k p e s m args below meth c H locs cells slots mc ms ls' F h1 h2 hR hS hl)
theorem aw_ifnonnull {x : Nat} {off : Int} {tgt : Nat} (hd : decode mi.2.1 pc = .ok (.ifnonnull off, 3)) (ht : (pc : Int) + off = (tgt : Int)) (k : aw l E mi Z d bc bs tgt ls st n h) : aw l E mi Z d bc bs pc ls (.ref x :: st) n h := by
  intro p e s m args below meth c H locs cells slots mc ms ls' F h1 h2 hR hS hl
  exact lv_ifnonnull F.1 F.2.1 hd ht (k p e s m args below meth c H locs cells slots mc ms ls' F h1 h2 hR hS hl)
theorem aw_ifnonnullN {off : Int} (hd : decode mi.2.1 pc = .ok (.ifnonnull off, 3)) (k : aw l E mi Z d bc bs (pc + 3) ls st n h) : aw l E mi Z d bc bs pc ls (.null :: st) n h := by
  intro p e s m args below meth c H locs cells slots mc ms ls' F h1 h2 hR hS hl
  exact lv_ifnonnullN F.1 F.2.1 hd (k p e s m args below meth c H locs cells slots mc ms ls' F h1 h2 hR hS hl)
theorem aw_tableOut {dflt lo hi : Int} {offs : Array Int} {len : Nat} {x : Int32} {tgt : Nat} (hd : decode mi.2.1 pc = .ok (.tableswitch dflt lo hi offs, len)) (hx : x.toInt < lo ∨ hi < x.toInt) (ht : (pc : Int) + dflt = (tgt : Int)) (k : aw l E mi Z d bc bs tgt ls st n h) : aw l E mi Z d bc bs pc ls (.int x :: st) n h := by
  intro p e s m args below meth c H locs cells slots mc ms ls' F h1 h2 hR hS hl
  exact lv_tableOut F.1 F.2.1 hd hx ht (k p e s m args below meth c H locs cells slots mc ms ls' F h1 h2 hR hS hl)
theorem aw_tableIn {dflt lo hi : Int} {offs : Array Int} {len : Nat} {x : Int32} {off : Int} {tgt : Nat} (hd : decode mi.2.1 pc = .ok (.tableswitch dflt lo hi offs, len)) (hx1 : ¬ x.toInt < lo) (hx2 : ¬ hi < x.toInt) (ho : offs[(x.toInt - lo).toNat]? = some off) (ht : (pc : Int) + off = (tgt : Int)) (k : aw l E mi Z d bc bs tgt ls st n h) : aw l E mi Z d bc bs pc ls (.int x :: st) n h := by
  intro p e s m args below meth c H locs cells slots mc ms ls' F h1 h2 hR hS hl
  exact lv_tableIn F.1 F.2.1 hd hx1 hx2 ho ht (k p e s m args below meth c H locs cells slots mc ms ls' F h1 h2 hR hS hl)
theorem aw_lookup {dflt : Int} {ps : Array (Int × Int)} {len : Nat} {x : Int32} {off : Int} {tgt : Nat} (hd : decode mi.2.1 pc = .ok (.lookupswitch dflt ps, len)) (hp : (ps.toList.zip (ps.toList.drop 1)).all (fun (a, next) => a.1 < next.1) = true) (ho : Op.lookupswitch.offset ps.toList dflt x.toInt = off) (ht : (pc : Int) + off = (tgt : Int)) (k : aw l E mi Z d bc bs tgt ls st n h) : aw l E mi Z d bc bs pc ls (.int x :: st) n h := by
  intro p e s m args below meth c H locs cells slots mc ms ls' F h1 h2 hR hS hl
  exact lv_lookup F.1 F.2.1 hd hp ho ht (k p e s m args below meth c H locs cells slots mc ms ls' F h1 h2 hR hS hl)
theorem aw_ldc {i : Nat} {v : Int32} (hd : decode mi.2.1 pc = .ok (.ldc i, 2)) (hc : Cond.constant mi.1.cls i v ∈ aw_T) (k : aw l E mi Z d bc bs (pc + 2) ls (.int v :: st) n h) : aw l E mi Z d bc bs pc ls st n h := by
  intro p e s m args below meth c H locs cells slots mc ms ls' F h1 h2 hR hS hl
  exact lv_ldc F.1 F.2.1 F.2.2.2.2.1 (F.2.2.2.2.2.1 _ hc) hd (k p e s m args below meth c H locs cells slots mc ms ls' F h1 h2 hR hS hl)
theorem aw_ldcw {i : Nat} {v : Int32} (hd : decode mi.2.1 pc = .ok (.ldc_w i, 3)) (hc : Cond.constant mi.1.cls i v ∈ aw_T) (k : aw l E mi Z d bc bs (pc + 3) ls (.int v :: st) n h) : aw l E mi Z d bc bs pc ls st n h := by
  intro p e s m args below meth c H locs cells slots mc ms ls' F h1 h2 hR hS hl
  exact lv_ldcw F.1 F.2.1 F.2.2.2.2.1 (F.2.2.2.2.2.1 _ hc) hd (k p e s m args below meth c H locs cells slots mc ms ls' F h1 h2 hR hS hl)
theorem aw_ldc2 {i : Nat} {v : Int64} (hd : decode mi.2.1 pc = .ok (.ldc2_w i, 3)) (hc : Cond.constantLong mi.1.cls i v ∈ aw_T) (k : aw l E mi Z d bc bs (pc + 3) ls (.long v :: st) n h) : aw l E mi Z d bc bs pc ls st n h := by
  intro p e s m args below meth c H locs cells slots mc ms ls' F h1 h2 hR hS hl
  exact lv_ldc2 F.1 F.2.1 F.2.2.2.2.1 (F.2.2.2.2.2.1 _ hc) hd (k p e s m args below meth c H locs cells slots mc ms ls' F h1 h2 hR hS hl)
end AW
end
section
/-! ROWS OF THE ABSTRACT WALK that touch the heap, calls, ends. -/
theorem aw_goodT {w : Cond} (h : w ∈ aw_T) : goodWord w = true := (List.mem_filter.mp h).2
theorem aw_goodIn {w : Cond} (h : w ∈ aw_T) : GoodIn aw_T (w :: aw_T) := by
  intro v hv
  have hm : v ∈ aw_T := by
    rcases List.mem_cons.mp hv with e | e
    · rw [e]; exact h
    · exact e
  exact ⟨hm, good_of_word (aw_goodT hm)⟩
theorem aw_P1 {D : va_G} {cl : List vw_C} {q : Nat × va_E} {H : Heap} (h : va_at D cl q H) : va_P D cl [q] H := by
  intro k q' hq
  match k, hq with
  | 0, hq => cases hq; exact h
  | k + 1, hq => simp at hq
theorem aw_at_kept {E : aw_E} {a : Nat} {e : ae} {H H1 : Heap} (h : aw_at E a e H) (hq : H1[a]? = H[a]?) : aw_at E a e H1 := by
  obtain ⟨n, f⟩ | ⟨t, n, g⟩ | o := e
  · show H1[a]? = _
    rw [hq]; exact h
  · exact ⟨h.1, by rw [hq]; exact h.2⟩
  · exact va_at.kept (D := E.1) (cl := vwCl) (q := (a, .inr o)) h hq
theorem aw_O {E : aw_E} {n a ci : Nat} {fs : List Value} {h : ah} {H : Heap} (hR : aw_R E n h H) (hh : h a = some (aO ci fs)) : va_P E.1 vwCl [(a, .inr (ci, fs))] H := aw_P1 (q := (a, .inr (ci, fs))) (hR.2 a _ hh).2
theorem aw_at_lt {E : aw_E} {a : Nat} {e : ae} {H : Heap} (h : aw_at E a e H) : a < H.size := by
  obtain ⟨n, f⟩ | ⟨t, n, g⟩ | o := e
  · exact (Array.getElem?_eq_some_iff.mp (show H[a]? = some _ from h)).1
  · exact (Array.getElem?_eq_some_iff.mp h.2).1
  · exact va_at.lt (q := (a, .inr o)) h
theorem aw_R_set {E : aw_E} {n a : Nat} {h : ah} {e : ae} {H H1 : Heap} (hR : aw_R E n h H) (ha : E.2.2.1 ≤ a) (hz : H1.size = H.size) (ho : ∀ q : Nat, q ≠ a → H1[q]? = H[q]?) (hat : aw_at E a e H1) : aw_R E n (ah_set h a e) H1 := by
  refine ⟨hz.trans hR.1, fun b e' hb => ?_⟩
  by_cases hq : b = a
  · subst hq
    rw [ah_set_eq] at hb
    cases hb
    exact ⟨ha, hat⟩
  · rw [ah_set_ne h e hq] at hb
    exact ⟨(hR.2 b e' hb).1, aw_at_kept (hR.2 b e' hb).2 (ho b hq)⟩
theorem aw_R_new {E : aw_E} {n : Nat} {h : ah} {e : ae} {H H1 : Heap} (hR : aw_R E n h H) (hE : E.2.2.1 ≤ H.size) (hz : H1.size = H.size + 1) (ho : ∀ q : Nat, q < H.size → H1[q]? = H[q]?) (hat : aw_at E n e H1) : aw_R E (n + 1) (ah_set h n e) H1 := by
  refine ⟨by rw [hz, hR.1], fun b e' hb => ?_⟩
  by_cases hq : b = n
  · subst hq
    rw [ah_set_eq] at hb
    cases hb
    exact ⟨by rw [← hR.1]; exact hE, hat⟩
  · rw [ah_set_ne h e hq] at hb
    exact ⟨(hR.2 b e' hb).1, aw_at_kept (hR.2 b e' hb).2 (ho b (aw_at_lt (hR.2 b e' hb).2))⟩
/-- the field that entry idx of own's pool names is number k of class ci -/
def aw_fl (own : String) (idx ci k : Nat) : Prop := ∃ (C : String) (T : u_T) (N : Nat), vwCl[ci]? = some (C, T, N) ∧ k < N ∧ (∀ w ∈ u_ws C T N, w ∈ aw_T) ∧ Cond.fieldLink own idx (T k).1 (T k).2.1 (T k).2.2.1 ∈ aw_T
/-- it may be stored to, with values of type ty; fin: it is final (of own, stored in its constructor) -/
def aw_fp (own : String) (idx ci k : Nat) (fin : Bool) (ty : FieldType) : Prop := ∃ (C : String) (T : u_T) (N : Nat) (ty0 : Nat → FieldType), vwCl[ci]? = some (C, T, N) ∧ k < N ∧ (∀ w ∈ u_ws C T N, w ∈ aw_T) ∧ Cond.fieldLink own idx (T k).1 (T k).2.1 (T k).2.2.1 ∈ aw_T ∧ (T k).2.2.2 = fin ∧ parseFieldDescriptor (T k).2.2.1 = some ty ∧ (∀ k, k < N → parseFieldDescriptor (T k).2.2.1 = some (ty0 k)) ∧ (∀ a, a < N → ∀ b, b < N → a ≠ b → (T a).2.1 ≠ (T b).2.1) ∧ (fin = true → (T k).1 = own)
def aw_nw (own : String) (idx ci : Nat) (fs : List Value) (N : Nat) : Prop := ∃ (C : String) (T : u_T) (ty0 : Nat → FieldType), vwCl[ci]? = some (C, T, N) ∧ (∀ w ∈ u_ws C T N, w ∈ aw_T) ∧ (∀ k, k < N → parseFieldDescriptor (T k).2.2.1 = some (ty0 k)) ∧ Cond.classLink own idx C ∈ aw_T ∧ Cond.instantiable C N ∈ aw_T ∧ Cond.initialized C ∈ aw_T ∧ (∀ j, j < N → defaultValue (ty0 j) = vp_V fs j)
def aw_cm (yi : aw_M) (np : Nat) : Prop := Cond.code yi.1 yi.2.1 yi.2.2.1 yi.2.2.2 ∈ aw_T ∧ Cond.initialized yi.1.cls ∈ aw_T ∧ (yi.1.cls ≠ "java/lang/invoke/MethodHandle" ∧ yi.1.cls ≠ "java/lang/invoke/VarHandle" ∧ (parseMethodDescriptor yi.1.desc).map (fun d => d.parameters.length) = some np) ∧ yi.2.2.1 ≤ 15
def aw_cV (own : String) (idx ci : Nat) (yi : aw_M) : Prop := ∃ r : vw_C, vwCl[ci]? = some r ∧ Cond.methodLink own idx yi.1 ∈ aw_T ∧ Cond.instanceMethod yi.1 ∈ aw_T ∧ Cond.selects r.1 yi.1 yi.1 ∈ aw_T
def aw_cS (own : String) (idx : Nat) (yi : aw_M) : Prop := Cond.methodLink own idx yi.1 ∈ aw_T ∧ Cond.static yi.1 ∈ aw_T
def aw_cI (own : String) (idx : Nat) (yi : aw_M) : Prop := Cond.methodLink own idx yi.1 ∈ aw_T ∧ Cond.instanceMethod yi.1 ∈ aw_T ∧ yi.1.name = "<init>" ∧ yi.2.2.2 = none
def aw_cO (own : String) (idx ci : Nat) (x : MethodName) (yi : aw_M) : Prop := ∃ (r : vw_C) (b0 : ByteArray) (m0 : Nat) (r0 : Option FieldType), vwCl[ci]? = some r ∧ Cond.methodLink own idx x ∈ aw_T ∧ Cond.sameMethod x.cls x.cls x.name x.desc ∈ aw_T ∧ Cond.instanceMethod x ∈ aw_T ∧ Cond.selects r.1 x yi.1 ∈ aw_T ∧ Cond.instanceMethod yi.1 ∈ aw_T ∧ Cond.code x b0 m0 r0 ∈ aw_T ∧ x.name = yi.1.name ∧ x.desc = yi.1.desc ∧ x.cls ≠ "java/lang/invoke/MethodHandle" ∧ x.cls ≠ "java/lang/invoke/VarHandle"
def aw_cU (own : String) (idx : Nat) (yi : aw_M) : Prop := Cond.methodLink own idx yi.1 ∈ aw_T ∧ Cond.sameMethod yi.1.cls yi.1.cls yi.1.name yi.1.desc ∈ aw_T ∧ Cond.superclass own yi.1.cls ∈ aw_T ∧ Cond.instanceMethod yi.1 ∈ aw_T ∧ yi.1.name ≠ "<init>"
section AWH
variable {l : Launch} {E : aw_E} {mi : aw_M} {Z : aw_Zt} {d bc bs pc : Nat} {ls : List (Nat × Value)} {st : List Value} {n : Nat} {h : ah}
theorem aw_get {i ci k a : Nat} {fs : List Value} {v : Value} (hd : decode mi.2.1 pc = .ok (.getfield i, 3)) (hf : aw_fl mi.1.cls i ci k) (hh : h a = some (aO ci fs)) (hv : fs[k]? = some v) (kk : aw l E mi Z d bc bs (pc + 3) ls (v :: st) n h) : aw l E mi Z d bc bs pc ls (.ref a :: st) n h := by
  intro p e s m args below meth c H locs cells slots mc ms ls' F h1 h2 hR hS hl
  obtain ⟨C, T, N, hc, hk, hin, hlk⟩ := hf
  exact va_get (D := E.1) (cl := vwCl) (ws := [(a, .inr (ci, fs))]) F.1 F.2.1 F.2.2.2.2.2.1 hin F.2.2.2.2.1 F.2.2.2.2.2.2.2.2.1 (aw_P1 (hR.2 a _ hh).2) 0 rfl hc k hk (F.2.2.2.2.2.1 _ hlk) (fun _ x => x) hv hd (kk p e s m args below meth c H locs cells slots mc ms ls' F h1 h2 hR hS hl)
theorem aw_put {i ci k a : Nat} {fs : List Value} {v : Value} {ty : FieldType} (hd : decode mi.2.1 pc = .ok (.putfield i, 3)) (hf : aw_fp mi.1.cls i ci k false ty) (hh : h a = some (aO ci fs)) (hl0 : k < fs.length) (hn : narrow ty v = v) (hfit : fits ty v = true) (kk : aw l E mi Z d bc bs (pc + 3) ls st n (ah_set h a (aO ci (fs.set k v)))) : aw l E mi Z d bc bs pc ls (v :: .ref a :: st) n h := by
  intro p e s m args below meth c H locs cells slots mc ms ls' F h1 h2 hR hS hl
  obtain ⟨C, T, N, ty0, hc, hk, hin, hlk, hfin, hpd, hty, hnm, -⟩ := hf
  have hts := F.2.2.2.2.2.1
  have hown := F.2.2.2.2.1
  have hK : va_K E.1 vwCl (aw_tys E) s := F.2.2.2.2.2.2.2.2.1
  have hap := va_apart (own := mi.1.cls) hts hin ty0 hty hnm hK hc
  obtain ⟨hba, hat⟩ := hR.2 a _ hh
  obtain ⟨r, g1, cell, q1, q2, q3, q4⟩ := hat
  have hr : r = (C, T, N) := Option.some.inj (g1.symm.trans hc)
  subst hr
  obtain ⟨hSl, hfc, kC, hkC, hkind⟩ := hK.1 ci _ hc
  obtain ⟨cf, kf, fi, f, hi, hsl⟩ := hSl k hk
  have hlay := hts _ (hin _ (u_in_lay hk))
  unfold u_lay at hlay
  rw [if_neg (by rw [hfin]; decide)] at hlay
  have hst := (u_facts hfc hkC (u_lays hts hin hk) hi).1
  have h6 := u_store hfc hkC hkind hlay hi hpd hn hfit
  refine W.putK F.1 F.2.1 (f := f) ⟨hown, hts _ hlk, ⟨_, _, _, hi⟩, hst⟩ (by rw [q2]; exact h6) q1 q3 (by rw [hsl]; exact k2_hasslot (q4 k hk)) rfl rfl hd fun H' e1 e2 e3 => ?_
  rw [hsl] at e1 ⊢
  exact kk p e s m args below meth c H' _ cells slots mc ms ls' F h1 h2 (aw_R_set hR hba e2 e3 ⟨_, hc, t_OB.to (V := updV (vp_V fs) k v) ⟨_, e1, q2, q3, t_set q4 hap hk v⟩ (fun j _ => vp_updV_set hl0 v j)⟩) (hS.put e2 e3 hba) hl
theorem aw_putF {i ci k a : Nat} {fs : List Value} {v : Value} {ty : FieldType} (hd : decode mi.2.1 pc = .ok (.putfield i, 3)) (hf : aw_fp mi.1.cls i ci k true ty) (hini : mi.1.name = "<init>") (hh : h a = some (aO ci fs)) (hl0 : k < fs.length) (hn : narrow ty v = v) (hfit : fits ty v = true) (kk : aw l E mi Z d bc bs (pc + 3) ls st n (ah_set h a (aO ci (fs.set k v)))) : aw l E mi Z d bc bs pc ls (v :: .ref a :: st) n h := by
  intro p e s m args below meth c H locs cells slots mc ms ls' F h1 h2 hR hS hl
  obtain ⟨C, T, N, ty0, hc, hk, hin, hlk, hfin, hpd, hty, hnm, hde⟩ := hf
  have hdecl := hde rfl
  have hts := F.2.2.2.2.2.1
  have hown := F.2.2.2.2.1
  have hK : va_K E.1 vwCl (aw_tys E) s := F.2.2.2.2.2.2.2.2.1
  have hap := va_apart (own := mi.1.cls) hts hin ty0 hty hnm hK hc
  obtain ⟨hba, hat⟩ := hR.2 a _ hh
  obtain ⟨r, g1, cell, q1, q2, q3, q4⟩ := hat
  have hr : r = (C, T, N) := Option.some.inj (g1.symm.trans hc)
  subst hr
  obtain ⟨hSl, hfc, kC, hkC, hkind⟩ := hK.1 ci _ hc
  obtain ⟨cf, kf, fi, f, hi, hsl⟩ := hSl k hk
  have hlay := hts _ (hin _ (u_in_lay hk))
  unfold u_lay at hlay
  rw [if_pos hfin] at hlay
  have hst := (u_facts hfc hkC (u_lays hts hin hk) hi).1
  have hcf : m.cls = cf := by
    obtain ⟨_, _, c', _, _, _, -, -, hf', -, -, -, hown2, -⟩ := Cond.laysFinal_spec hlay
    have e1 : c' = cf := by have := hi.symm.trans hf'; simp at this; exact this.1.symm
    rw [hdecl] at hown2
    rw [← e1]; exact Option.some.inj (hown.symm.trans hown2)
  have h6 := u_fits hfc hkC hkind (Or.inr hlay) hi hpd hn hfit
  refine W.putFinK F.1 F.2.1 hown (hts _ hlk) hi hst hcf (F.2.2.2.2.2.2.2.1.trans hini) (by rw [q2]; exact h6) q1 q3 (by rw [hsl]; exact k2_hasslot (q4 k hk)) rfl rfl hd fun H' e1 e2 e3 => ?_
  rw [hsl] at e1 ⊢
  exact kk p e s m args below meth c H' _ cells slots mc ms ls' F h1 h2 (aw_R_set hR hba e2 e3 ⟨_, hc, t_OB.to (V := updV (vp_V fs) k v) ⟨_, e1, q2, q3, t_set q4 hap hk v⟩ (fun j _ => vp_updV_set hl0 v j)⟩) (hS.put e2 e3 hba) hl
theorem aw_iald {a N : Nat} {f : Nat → Int32} {i : Int32} (hd : decode mi.2.1 pc = .ok (.iaload, 1)) (hh : h a = some (aI N f)) (hin : vp_in i N) (kk : aw l E mi Z d bc bs (pc + 1) ls (.int (f i.toNatClampNeg) :: st) n h) : aw l E mi Z d bc bs pc ls (.int i :: .ref a :: st) n h := by
  intro p e s m args below meth c H locs cells slots mc ms ls' F h1 h2 hR hS hl
  exact va_iald (D := E.1) (cl := vwCl) (ws := [(a, .inl (E.2.1 0, N, .inl f))]) F.1 F.2.1 F.2.2.2.2.2.2.2.2.1 (aw_P1 (hR.2 a _ hh).2) 0 0 rfl rfl hin hd (kk p e s m args below meth c H locs cells slots mc ms ls' F h1 h2 hR hS hl)
theorem aw_iast {a N : Nat} {f : Nat → Int32} {i x : Int32} (hd : decode mi.2.1 pc = .ok (.iastore, 1)) (hh : h a = some (aI N f)) (hin : vp_in i N) (kk : aw l E mi Z d bc bs (pc + 1) ls st n (ah_set h a (aI N (upd f i.toNatClampNeg x)))) : aw l E mi Z d bc bs pc ls (.int x :: .int i :: .ref a :: st) n h := by
  intro p e s m args below meth c H locs cells slots mc ms ls' F h1 h2 hR hS hl
  obtain ⟨hba, hat⟩ := hR.2 a _ hh
  have hK : va_K E.1 vwCl (aw_tys E) s := F.2.2.2.2.2.2.2.2.1
  refine W.iast F.1 F.2.1 (show H[a]? = some _ from hat) ((hK.2 0 _ rfl).1 N (fun j => .int (f j))) (fun q => by cases q) (by show ¬ (i < 0 ∨ (arrV _ _ _).slots.size ≤ _); rw [arrV_size]; exact hin) rfl rfl hd fun H1 e1 z oq => ?_
  refine kk p e s m args below meth c H1 _ cells slots mc ms ls' F h1 h2 (aw_R_set hR hba z oq ?_) (hS.put z oq hba) hl
  show H1[a]? = some (vp_cell _ _)
  rw [e1]
  rw [vp_cell_i, vp_cell_i, arrV_store]
  congr 2
  funext q
  by_cases hq : q = i.toNatClampNeg
  · subst hq
    simp [updV, upd]
  · simp [updV, upd, hq]
theorem aw_alenI {a N : Nat} {f : Nat → Int32} {v : Int32} (hd : decode mi.2.1 pc = .ok (.arraylength, 1)) (hh : h a = some (aI N f)) (hv : Int32.ofNat N = v) (kk : aw l E mi Z d bc bs (pc + 1) ls (.int v :: st) n h) : aw l E mi Z d bc bs pc ls (.ref a :: st) n h := by
  intro p e s m args below meth c H locs cells slots mc ms ls' F h1 h2 hR hS hl
  exact va_alen (D := E.1) (cl := vwCl) (ws := [(a, .inl (E.2.1 0, N, .inl f))]) F.1 F.2.1 F.2.2.2.2.2.2.2.2.1 (aw_P1 (hR.2 a _ hh).2) 0 0 rfl rfl hv hd (kk p e s m args below meth c H locs cells slots mc ms ls' F h1 h2 hR hS hl)
theorem aw_alenR {a t N : Nat} {g : Nat → Option Nat} {v : Int32} (hd : decode mi.2.1 pc = .ok (.arraylength, 1)) (hh : h a = some (aR t N g)) (hv : Int32.ofNat N = v) (kk : aw l E mi Z d bc bs (pc + 1) ls (.int v :: st) n h) : aw l E mi Z d bc bs pc ls (.ref a :: st) n h := by
  intro p e s m args below meth c H locs cells slots mc ms ls' F h1 h2 hR hS hl
  obtain ⟨ht, hat⟩ := (hR.2 a _ hh).2
  have kw := kk p e s m args below meth c H locs cells slots mc ms ls' F h1 h2 hR hS hl
  rcases ht with rfl | rfl
  · exact va_alen (D := E.1) (cl := vwCl) (ws := [(a, .inl (E.2.1 1, N, .inr (.inr (.inr (.inr g)))))]) F.1 F.2.1 F.2.2.2.2.2.2.2.2.1 (aw_P1 hat) 0 1 rfl rfl hv hd kw
  · exact va_alen (D := E.1) (cl := vwCl) (ws := [(a, .inl (E.2.1 2, N, .inr (.inr (.inr (.inr g)))))]) F.1 F.2.1 F.2.2.2.2.2.2.2.2.1 (aw_P1 hat) 0 2 rfl rfl hv hd kw
theorem aw_aald {a t N : Nat} {g : Nat → Option Nat} {i : Int32} (hd : decode mi.2.1 pc = .ok (.aaload, 1)) (hh : h a = some (aR t N g)) (hin : vp_in i N) (kk : aw l E mi Z d bc bs (pc + 1) ls (va_rf (g i.toNatClampNeg) :: st) n h) : aw l E mi Z d bc bs pc ls (.int i :: .ref a :: st) n h := by
  intro p e s m args below meth c H locs cells slots mc ms ls' F h1 h2 hR hS hl
  obtain ⟨ht, hat⟩ := (hR.2 a _ hh).2
  have kw := kk p e s m args below meth c H locs cells slots mc ms ls' F h1 h2 hR hS hl
  rcases ht with rfl | rfl
  · exact va_aldq (D := E.1) (cl := vwCl) (ws := [(a, .inl (E.2.1 1, N, .inr (.inr (.inr (.inr g)))))]) F.1 F.2.1 F.2.2.2.2.2.2.2.2.1 (aw_P1 hat) 0 1 rfl rfl hin hd kw
  · exact va_aldq (D := E.1) (cl := vwCl) (ws := [(a, .inl (E.2.1 2, N, .inr (.inr (.inr (.inr g)))))]) F.1 F.2.1 F.2.2.2.2.2.2.2.2.1 (aw_P1 hat) 0 2 rfl rfl hin hd kw
/-- an object of class ci may lie in rows of kind t -/
def aw_ok (E : aw_E) (t ci : Nat) : Prop := ∃ r : vw_C, vwCl[ci]? = some r ∧ (r.1 = (if t = 1 then "HonestGold$Plain" else "HonestGold$Treasury") ∨ ∀ (U : State) (H : Heap), E.2.2.2 U H → ∃ cD cT : ClassId, U.vm.findClass r.1 = some cD ∧ U.vm.findClass (if t = 1 then "HonestGold$Plain" else "HonestGold$Treasury") = some cT ∧ U.vm.assignable cD cT = true)
theorem aw_aast {a t N v ci : Nat} {g : Nat → Option Nat} {fs : List Value} {i : Int32} (hd : decode mi.2.1 pc = .ok (.aastore, 1)) (hh : h a = some (aR t N g)) (hin : vp_in i N) (hv : h v = some (aO ci fs)) (hok : aw_ok E t ci) (kk : aw l E mi Z d bc bs (pc + 1) ls st n (ah_set h a (aR t N (va_up g i.toNatClampNeg (some v))))) : aw l E mi Z d bc bs pc ls (.ref v :: .int i :: .ref a :: st) n h := by
  intro p e s m args below meth c H locs cells slots mc ms ls' F h1 h2 hR hS hl
  obtain ⟨hba, ht, hat⟩ := hR.2 a _ hh
  have hK : va_K E.1 vwCl (aw_tys E) s := F.2.2.2.2.2.2.2.2.1
  have hts := F.2.2.2.2.2.1
  obtain ⟨r, hc, hok⟩ := hok
  have hlt : i.toNatClampNeg < N := Nat.not_le.mp fun q => hin (Or.inr q)
  have h0 : ¬ i < 0 := fun q => hin (Or.inl q)
  obtain ⟨cellV, g1, g3, gf⟩ := va_recv hK (aw_O hR hv) hc (q0 := 0) rfl
  obtain ⟨kC, hkC, -⟩ := Vm.findClass_spec gf
  have hRA : va_RA s (E.2.1 t) (.object (if t = 1 then "HonestGold$Plain" else "HonestGold$Treasury")) := by
    rcases ht with rfl | rfl
    · exact (hK.2 1 _ rfl).2
    · exact (hK.2 2 _ rfl).2
  obtain ⟨kA, comp, k1, k2, k3, -⟩ := hRA
  obtain ⟨kE, hkE, -⟩ := Vm.findClass_spec k3
  have hasg : s.vm.assignable cellV.cls comp = true := by
    rcases hok with he | hcs
    · rw [he] at gf
      cases gf.symm.trans k3
      exact va_asg _ _
    · obtain ⟨cD, cT, w1, w2, w3⟩ := hcs s s.heap F.2.2.2.2.2.2.2.2.2.1
      cases gf.symm.trans w1
      cases k3.symm.trans w2
      exact w3
  refine W.aast F.1 F.2.1 (show H[a]? = some _ from hat) (fun q h => by cases h) (fun h => by cases h) k1 k2 rfl hkE ⟨h0, by show _ < (arrV _ _ _).slots.size; rw [arrV_size]; exact hlt⟩ g1 (fun q h => by rw [h] at g3; cases g3) hkC hasg rfl rfl hd fun H1 e1 z oq => ?_
  refine kk p e s m args below meth c H1 _ cells slots mc ms ls' F h1 h2 (aw_R_set hR hba z oq ⟨ht, ?_⟩) (hS.put z oq hba) hl
  rw [e1]
  rw [vp_cell_q, vp_cell_q, arrV_store]
  congr 2
  funext q
  by_cases hq : q = i.toNatClampNeg
  · subst hq
    simp [updV, va_up, va_rf]
  · simp [updV, va_up, hq]
theorem aw_S_new {E : aw_E} {H0 H H1 : Heap} {locs : List Loc} (hS : va_S (aw_A E) H0 H locs) (z1 : H1.size = H.size + 1) (o1 : ∀ q : Nat, q < H.size → H1[q]? = H[q]?) : va_S (aw_A E) H0 H1 locs :=
  ⟨Nat.le_trans hS.1 (by omega), fun x h1 h2 => (o1 x (Nat.lt_of_lt_of_le h1 hS.1)).trans (hS.2.1 x h1 h2), hS.2.2⟩
theorem aw_newI {z : Int32} {N bc' bs' : Nat} (hd : decode mi.2.1 pc = .ok (.newarray .int, 2)) (hw : Cond.arrayClass .int ∈ aw_T) (hz : ¬ z < 0) (hN : z.toNatClampNeg = N) (hb : N ≤ 1000) (hbc : 1 + bc' ≤ bc) (hbs : N + bs' ≤ bs) (kk : aw l E mi Z d bc' bs' (pc + 2) ls (.ref n :: st) (n + 1) (ah_set h n (aI N (fun _ => 0)))) : aw l E mi Z d bc bs pc ls (.int z :: st) n h := by
  intro p e s m args below meth c H locs cells slots mc ms ls' F h1 h2 hR hS hl
  have hK : va_K E.1 vwCl (aw_tys E) s := F.2.2.2.2.2.2.2.2.1
  have hts := F.2.2.2.2.2.1
  refine va_newaK (atype := .int) F.1 F.2.1 (hts _ hw) rfl hd rfl hz hN (by show N * 4 ≤ _; omega) (by show cells + 1 ≤ mc; omega) (by show slots + N ≤ ms; omega) hR.1 fun H1 cA e1 z1 o1 hAr hNm => ?_
  have hcy : s.vm.findClass ("[" ++ FieldType.int.toString) = some (E.2.1 0) := (hK.2 0 _ rfl).2
  have hcA : cA = E.2.1 0 := Option.some.inj (hNm.symm.trans hcy)
  subst hcA
  have z1' : H1.size = H.size + 1 := by rw [z1, hR.1]
  have o1' : ∀ q : Nat, q < H.size → H1[q]? = H[q]? := fun q hq => o1 q (by rw [← hR.1]; exact hq)
  exact kk p e s m args below meth c H1 locs (cells + 1) (slots + N) mc ms ls' F (by omega) (by omega) (aw_R_new hR (Nat.le_trans F.2.2.2.2.2.2.2.2.2.2.2 hS.1) z1' o1' e1) (aw_S_new hS z1' o1') hl
theorem aw_newR {z : Int32} {i t N bc' bs' : Nat} {C : String} (hd : decode mi.2.1 pc = .ok (.anewarray i, 3)) (ht : t = 1 ∨ t = 2) (hC : C = (if t = 1 then "HonestGold$Plain" else "HonestGold$Treasury")) (hcl : Cond.classLink mi.1.cls i C ∈ aw_T) (hw : ∀ (U : State) (H : Heap), E.2.2.2 U H → va_AO C U) (hz : ¬ z < 0) (hN : z.toNatClampNeg = N) (hb : N ≤ 1000) (hbc : 1 + bc' ≤ bc) (hbs : N + bs' ≤ bs) (kk : aw l E mi Z d bc' bs' (pc + 3) ls (.ref n :: st) (n + 1) (ah_set h n (aR t N (fun _ => none)))) : aw l E mi Z d bc bs pc ls (.int z :: st) n h := by
  intro p e s m args below meth c H locs cells slots mc ms ls' F h1 h2 hR hS hl
  have hK : va_K E.1 vwCl (aw_tys E) s := F.2.2.2.2.2.2.2.2.1
  have hts := F.2.2.2.2.2.1
  subst hN
  refine W.anew F.1 F.2.1 F.2.2.2.2.1 (hts _ hcl) (va_AO.use (hw s s.heap F.2.2.2.2.2.2.2.2.2.1)) rfl hd rfl hz (by omega) (by show cells + 1 ≤ mc; omega) (by show slots + z.toNatClampNeg ≤ ms; omega) fun cA kA comp f1 f2 f3 f4 => ?_
  have hcA : cA = E.2.1 t := by
    subst hC
    rcases ht with rfl | rfl
    · obtain ⟨_, _, -, -, -, k4⟩ := (hK.2 1 _ rfl).2
      exact Option.some.inj (f1.symm.trans k4)
    · obtain ⟨_, _, -, -, -, k4⟩ := (hK.2 2 _ rfl).2
      exact Option.some.inj (f1.symm.trans k4)
  subst hcA
  generalize hH1 : H.push ({ cls := E.2.1 t, slots := Array.replicate z.toNatClampNeg .null, vm := .none } : Cell) = H1
  have z1 : H1.size = H.size + 1 := by rw [← hH1, Array.size_push]
  have e1 : H1[H.size]? = some (arrV (E.2.1 t) z.toNatClampNeg (fun _ => .null)) := by rw [← hH1, Array.getElem?_push_size, ← arrV_new]
  have o1 : ∀ q : Nat, q < H.size → H1[q]? = H[q]? := fun q hq => by rw [← hH1, Array.getElem?_push, if_neg (Nat.ne_of_lt hq)]
  have kw := kk p e s m args below meth c H1 locs (cells + 1) (slots + z.toNatClampNeg) mc ms ls' F (by omega) (by omega) (aw_R_new hR (Nat.le_trans F.2.2.2.2.2.2.2.2.2.2.2 hS.1) z1 o1 (e := aR t z.toNatClampNeg (fun _ => none)) ⟨ht, by rw [← hR.1]; exact e1⟩) (aw_S_new hS z1 o1) hl
  rw [← hR.1] at kw
  exact kw
theorem aw_new {i ci N bc' bs' : Nat} {fs : List Value} (hd : decode mi.2.1 pc = .ok (.new i, 3)) (hw : aw_nw mi.1.cls i ci fs N) (hbc : 1 + bc' ≤ bc) (hbs : N + bs' ≤ bs) (kk : aw l E mi Z d bc' bs' (pc + 3) ls (.ref n :: st) (n + 1) (ah_set h n (aO ci fs))) : aw l E mi Z d bc bs pc ls st n h := by
  intro p e s m args below meth c H locs cells slots mc ms ls' F h1 h2 hR hS hl
  have hK : va_K E.1 vwCl (aw_tys E) s := F.2.2.2.2.2.2.2.2.1
  have hts := F.2.2.2.2.2.1
  obtain ⟨C, T, ty0, hc, hin, hty, w1, w2, w3, hfs⟩ := hw
  have hKn := hK.1 ci _ hc
  refine W.newcK F.1 F.2.1 F.2.2.2.2.1 (hts _ w1) (hts _ w2) (hts _ w3) rfl hd (by show cells + 1 ≤ mc; omega) (by show slots + N ≤ ms; omega) hKn.2.1 hR.1 fun H1 kC hkC e1 z1 o1 => ?_
  have z1' : H1.size = H.size + 1 := by rw [z1, hR.1]
  have o1' : ∀ q : Nat, q < H.size → H1[q]? = H[q]? := fun q hq => o1 q (by rw [← hR.1]; exact hq)
  exact kk p e s m args below meth c H1 locs (cells + 1) (slots + N) mc ms ls' F (by omega) (by omega) (aw_R_new hR (Nat.le_trans F.2.2.2.2.2.2.2.2.2.2.2 hS.1) z1' o1' (e := aO ci fs) ⟨_, hc, (u_born ty0 hts hin hKn hkC e1 hty).to hfs⟩) (aw_S_new hS z1' o1') hl
theorem aw_objInit {i a : Nat} (hd : decode mi.2.1 pc = .ok (.invokespecial i, 3)) (hw : Cond.methodLink mi.1.cls i objectInit ∈ aw_T) (hw2 : Cond.instanceMethod objectInit ∈ aw_T) (hw3 : Cond.code objectInit ⟨#[0xb1]⟩ 1 none ∈ aw_T) (hst : (st.map fun v => v.category).sum ≤ 8) (kk : aw l E mi Z (d + 1) bc bs (pc + 3) ls st n h) : aw l E mi Z (d + 1) bc bs pc ls (.ref a :: st) n h := by
  intro p e s m args below meth c H locs cells slots mc ms ls' F h1 h2 hR hS hl
  have hts := F.2.2.2.2.2.1
  refine W.objInit F.1 F.2.1 F.2.2.2.2.1 (hts _ hw) (hts _ hw2) (hts _ hw3) rfl (by rw [F.2.2.1]; exact hl.1) rfl hd (by show 1 ≤ d + 1; omega) ?_ ?_
  · have := lv_room (m := m) (pc := pc) (ls := ls') (rest := st) (st := st) hst
    show 2 * 0 + (st.map fun v => v.category).sum + 12 ≤ 34 * (d + 1) + 10
    omega
  · exact kk p e s m args below meth c H locs cells slots mc ms ls' F h1 h2 hR hS hl
/-- behind a call -/
theorem aw_back {p : Program} {e : Env} {s : State} {m : MethodId} {args : Array Value} {below : List Frame} {meth : Method} {c : Code} {H : Heap} {locs : List Loc} {cells slots mc ms mc' ms' bc' bs' : Nat} {ls' : Array Slot} {st0 rest : List Value} {a : Array Value} {Q' : aw_P}
    (hr : va_Run p l e (aw_rm d mc ms) s m args below meth c H locs cells slots mc' ms' (F0 m pc ls' st0) rest (aw_Qc E Q' a) (aw_A E)) (F : aw_F E mi p s m args meth c) (h1 : cells + bc ≤ mc) (h2 : slots + bs ≤ ms) (hS : va_S (aw_A E) s.heap H locs) (hl : lv_has ls' mi.2.2.1 ls) (hbc : mc' + bc' ≤ bc) (hbs : ms' + bs' ≤ bs)
    (kk : ∀ (r : Option Value) (n' : Nat) (h' : ah), Q' r n' h' → aw l E mi Z d bc' bs' (pc + 3) ls (r.toList ++ rest) n' h') : W p l e (aw_rm d mc ms) s m args below meth c H locs cells slots (Z below args s mc ms) (F0 m pc ls' st0) := by
  intro T hT X
  obtain ⟨v, st₀, t, T', L, h0, X', hL, e1, e2, ⟨r, n', h', hv, hQ, hR', hF⟩, step⟩ := hr T hT X
  cases hv
  obtain ⟨t2, a1, b1⟩ := kk v n' h' hQ p e s m args below meth c T'.heap (locs ++ L) (cells + mc') (slots + ms') mc ms ls' F (by omega) (by omega) (by rw [e1]; exact hR')
    ⟨Nat.le_trans hS.1 (by rw [e1, ← h0]; exact hF.1), fun q g1 g2 => by
      rw [e1, hF.2 q (by rw [h0]; exact Nat.lt_of_lt_of_le g1 hS.1) g2, h0]
      exact hS.2.1 q g1 g2, fun q hq => by
      rcases List.mem_append.mp hq with g | g
      · exact hS.2.2 q g
      · exact hL q g⟩ hl T' rfl X'
  exact ⟨t2, step t2 a1, b1⟩
theorem aw_pre {p : Program} {s : State} {m : MethodId} {args : Array Value} {meth : Method} {c : Code} {H : Heap} {locs : List Loc} (F : aw_F E mi p s m args meth c) (hR : aw_R E n h H) (hS : va_S (aw_A E) s.heap H locs) (av : List Value) : PreS s H (va_Pc av (aw_Pc E n h)) av := by
  refine ⟨fun a U g mk q => ?_, fun U hU hW => ?_⟩
  · obtain ⟨q0, q1, q2, q3, q4, q5⟩ := q
    exact ⟨q0, q1, va_K.moved (u := U) (U := U.calling g mk a) (Vm.Alike.refl U.vm) q2, q4 U (U.calling g mk a) U.heap U.heap (State.WarmedH.refl U) (fun _ _ _ => rfl) q3, q4, q5⟩
  · refine ⟨rfl, by rw [hU]; exact hR, va_K.moved hW.alike F.2.2.2.2.2.2.2.2.1, ?_, F.2.2.2.2.2.2.2.2.2.2.1, by rw [hU]; exact Nat.le_trans F.2.2.2.2.2.2.2.2.2.2.2 hS.1⟩
    rw [hU]
    exact aw_cl_of F.2.2.2.2.2.2.2.2.2.2.1 hW hS F.2.2.2.2.2.2.2.2.2.1
theorem aw_callB {p : Program} {s : State} {m : MethodId} {args : Array Value} {meth : Method} {c : Code} {i np mc ms mc' ms' : Nat} {yi : aw_M} (F : aw_F E mi p s m args meth c) (hm : aw_cm yi np) (hl : Cond.methodLink mi.1.cls i yi.1 ∈ aw_T) : CallB (aw_rm (d + 1) mc ms) s args mi.1.cls i yi.1 yi.2.1 yi.2.2.1 yi.2.2.2 (.code yi.1 yi.2.1 yi.2.2.1 yi.2.2.2 :: aw_T) (aw_rm d mc' ms') mc' ms' np :=
  callB_of np F.2.2.2.2.2.1 (aw_goodIn hm.1) rfl rfl rfl (F.2.2.2.2.2.1 _ hm.2.1) (F.2.2.2.2.2.1 _ hl) hm.2.2.1 ⟨Nat.le_refl _, by have := hm.2.2.2; show 8 + (yi.2.2.1 + 11) + (34 * d + 10) ≤ 34 * (d + 1) + 10; omega⟩
theorem aw_callV {i ci b np mc' ms' bc' bs' : Nat} {yi : aw_M} {fs As rest : List Value} {Q' : aw_P} (hd : decode mi.2.1 pc = .ok (.invokevirtual i, 3)) (hm : aw_cm yi np) (hc : aw_cV mi.1.cls i ci yi) (hh : h b = some (aO ci fs)) (hst : st = As.reverse ++ .ref b :: rest) (hnp : As.length = np) (hrs : (rest.map fun v => v.category).sum ≤ 8) (hM : am l E yi d mc' ms' (.ref b :: As) n h Q') (hbc : mc' + bc' ≤ bc) (hbs : ms' + bs' ≤ bs)
    (kk : ∀ (r : Option Value) (n' : Nat) (h' : ah), Q' r n' h' → aw l E mi Z (d + 1) bc' bs' (pc + 3) ls (r.toList ++ rest) n' h') : aw l E mi Z (d + 1) bc bs pc ls st n h := by
  intro p e s m args below meth c H locs cells slots mc ms ls' F h1 h2 hR hS hl
  obtain ⟨r, hcr, w1, w2, w3⟩ := hc
  have hts := F.2.2.2.2.2.1
  have hP := aw_pre F hR hS (.ref b :: As)
  exact aw_back (va_runV (C := r.1) ⟨F.1, F.2.1, F.2.2.1, F.2.2.2.2.1, hts⟩ hM ⟨aw_callB F hm w1, hts _ w2, hts _ w3⟩ ⟨hP.1, va_recv F.2.2.2.2.2.2.2.2.1 (aw_O hR hh) hcr (q0 := 0) rfl, hP.2⟩ rfl hnp hl.1 hst (lv_room hrs) hd ⟨by show cells + mc' ≤ mc; omega, by show slots + ms' ≤ ms; omega⟩) F h1 h2 hS hl hbc hbs kk
theorem aw_callS {i np mc' ms' bc' bs' : Nat} {yi : aw_M} {As rest : List Value} {Q' : aw_P} (hd : decode mi.2.1 pc = .ok (.invokestatic i, 3)) (hm : aw_cm yi np) (hc : aw_cS mi.1.cls i yi) (hst : st = As.reverse ++ rest) (hnp : As.length = np) (hrs : (rest.map fun v => v.category).sum ≤ 8) (hM : am l E yi d mc' ms' As n h Q') (hbc : mc' + bc' ≤ bc) (hbs : ms' + bs' ≤ bs)
    (kk : ∀ (r : Option Value) (n' : Nat) (h' : ah), Q' r n' h' → aw l E mi Z (d + 1) bc' bs' (pc + 3) ls (r.toList ++ rest) n' h') : aw l E mi Z (d + 1) bc bs pc ls st n h := by
  intro p e s m args below meth c H locs cells slots mc ms ls' F h1 h2 hR hS hl
  have hts := F.2.2.2.2.2.1
  exact aw_back (va_runS ⟨F.1, F.2.1, F.2.2.1, F.2.2.2.2.1, hts⟩ hM ⟨aw_callB F hm hc.1, hts _ hc.2⟩ (aw_pre F hR hS As) rfl hnp hl.1 hst (lv_room hrs) hd ⟨by show cells + mc' ≤ mc; omega, by show slots + ms' ≤ ms; omega⟩) F h1 h2 hS hl hbc hbs kk
theorem aw_callI {i b np mc' ms' bc' bs' : Nat} {yi : aw_M} {As rest : List Value} {Q' : aw_P} (hd : decode mi.2.1 pc = .ok (.invokespecial i, 3)) (hm : aw_cm yi np) (hc : aw_cI mi.1.cls i yi) (hst : st = As.reverse ++ .ref b :: rest) (hnp : As.length = np) (hrs : (rest.map fun v => v.category).sum ≤ 8) (hM : am l E yi d mc' ms' (.ref b :: As) n h Q') (hbc : mc' + bc' ≤ bc) (hbs : ms' + bs' ≤ bs)
    (kk : ∀ (r : Option Value) (n' : Nat) (h' : ah), Q' r n' h' → aw l E mi Z (d + 1) bc' bs' (pc + 3) ls (r.toList ++ rest) n' h') : aw l E mi Z (d + 1) bc bs pc ls st n h := by
  intro p e s m args below meth c H locs cells slots mc ms ls' F h1 h2 hR hS hl
  have hts := F.2.2.2.2.2.1
  obtain ⟨w1, w2, w3, w4⟩ := hc
  have hB := aw_callB (d := d) (mc := mc) (ms := ms) (mc' := mc') (ms' := ms') F hm w1
  unfold am at hM
  rw [w4] at hB hM
  exact aw_back (va_runI (bytes := yi.2.1) (maxL := yi.2.2.1) ⟨F.1, F.2.1, F.2.2.1, F.2.2.2.2.1, hts⟩ hM ⟨hB, w3, hts _ w2⟩ (aw_pre F hR hS (.ref b :: As)) rfl hnp hl.1 hst (lv_room hrs) hd ⟨by show cells + mc' ≤ mc; omega, by show slots + ms' ≤ ms; omega⟩) F h1 h2 hS hl hbc hbs kk
theorem aw_callO {i ci b np mc' ms' bc' bs' : Nat} {x : MethodName} {yi : aw_M} {fs As rest : List Value} {Q' : aw_P} (hd : decode mi.2.1 pc = .ok (.invokevirtual i, 3)) (hm : aw_cm yi np) (hc : aw_cO mi.1.cls i ci x yi) (hh : h b = some (aO ci fs)) (hst : st = As.reverse ++ .ref b :: rest) (hnp : As.length = np) (hrs : (rest.map fun v => v.category).sum ≤ 8) (hM : am l E yi d mc' ms' (.ref b :: As) n h Q') (hbc : mc' + bc' ≤ bc) (hbs : ms' + bs' ≤ bs)
    (kk : ∀ (r : Option Value) (n' : Nat) (h' : ah), Q' r n' h' → aw l E mi Z (d + 1) bc' bs' (pc + 3) ls (r.toList ++ rest) n' h') : aw l E mi Z (d + 1) bc bs pc ls st n h := by
  intro p e s m args below meth c H locs cells slots mc ms ls' F h1 h2 hR hS hl
  obtain ⟨r, b0, m0, r0, hcr, w1, w2, w3, w4, w5, w6, en, ed, x1, x2⟩ := hc
  have hts := F.2.2.2.2.2.1
  have hP := aw_pre F hR hS (.ref b :: As)
  have hCU : va_CU (aw_rm (d + 1) mc ms) s args mi.1.cls r.1 x.cls i x yi.1 yi.2.1 yi.2.2.1 yi.2.2.2 (.code yi.1 yi.2.1 yi.2.2.1 yi.2.2.2 :: aw_T) (aw_rm d mc' ms') mc' ms' np :=
    va_cwO np hts (fun w hw => by
      have hm' : w ∈ aw_T := by
        simp only [va_wsO, List.cons_append, List.nil_append, List.mem_cons] at hw
        rcases hw with e | e | e | e | e | e | e | e
        · rw [e]; exact w1
        · rw [e]; exact w2
        · rw [e]; exact w3
        · rw [e]; exact w4
        · rw [e]; exact w5
        · rw [e]; exact hm.2.1
        · rw [e]; exact hm.1
        · exact e
      exact ⟨hm', good_of_word (aw_goodT hm')⟩) rfl rfl rfl w6 ⟨x1, x2, by rw [ed]; exact hm.2.2.1.2.2⟩ ⟨Nat.le_refl _, by have := hm.2.2.2; show 8 + (yi.2.2.1 + 11) + (34 * d + 10) ≤ 34 * (d + 1) + 10; omega⟩
  exact aw_back (va_runU (C := r.1) ⟨F.1, F.2.1, F.2.2.1, F.2.2.2.2.1, hts⟩ hM hCU ⟨hP.1, va_recv F.2.2.2.2.2.2.2.2.1 (aw_O hR hh) hcr (q0 := 0) rfl, hP.2⟩ rfl hnp hl.1 hst (lv_room hrs) hd ⟨by show cells + mc' ≤ mc; omega, by show slots + ms' ≤ ms; omega⟩) F h1 h2 hS hl hbc hbs kk
theorem aw_callU {i ci b np mc' ms' bc' bs' : Nat} {yi : aw_M} {fs As rest : List Value} {Q' : aw_P} (hd : decode mi.2.1 pc = .ok (.invokespecial i, 3)) (hm : aw_cm yi np) (hc : aw_cU mi.1.cls i yi) {r : vw_C} (hcr : vwCl[ci]? = some r) (hh : h b = some (aO ci fs)) (hst : st = As.reverse ++ .ref b :: rest) (hnp : As.length = np) (hrs : (rest.map fun v => v.category).sum ≤ 8) (hM : am l E yi d mc' ms' (.ref b :: As) n h Q') (hbc : mc' + bc' ≤ bc) (hbs : ms' + bs' ≤ bs)
    (kk : ∀ (r : Option Value) (n' : Nat) (h' : ah), Q' r n' h' → aw l E mi Z (d + 1) bc' bs' (pc + 3) ls (r.toList ++ rest) n' h') : aw l E mi Z (d + 1) bc bs pc ls st n h := by
  intro p e s m args below meth c H locs cells slots mc ms ls' F h1 h2 hR hS hl
  obtain ⟨w1, w2, w3, w4, w5⟩ := hc
  have hts := F.2.2.2.2.2.1
  have hP := aw_pre F hR hS (.ref b :: As)
  have hB := aw_callB (d := d) (mc := mc) (ms := ms) (mc' := mc') (ms' := ms') F hm w1
  have hK : va_K E.1 vwCl (aw_tys E) s := F.2.2.2.2.2.2.2.2.1
  obtain ⟨b1, b2, b3, b4, b5, b6, b7, b8, b9, b10, b11⟩ := hB
  exact aw_back (va_runSU (C := r.1) (hK.1 ci r hcr).2 ⟨F.1, F.2.1, F.2.2.1, F.2.2.2.2.1, hts⟩ hM ⟨⟨b1, b2, b3, b4, b5, b6⟩, hts _ w1, hts _ w2, hts _ w3, hts _ w4, b8, b7, w5, b10⟩ ⟨hP.1, va_recv F.2.2.2.2.2.2.2.2.1 (aw_O hR hh) hcr (q0 := 0) rfl, hP.2⟩ rfl hnp hl.1 hst (lv_room hrs) hd ⟨by show cells + mc' ≤ mc; omega, by show slots + ms' ≤ ms; omega⟩) F h1 h2 hS hl hbc hbs kk
end AWH
section AWE
variable {l : Launch} {E : aw_E} {mi : aw_M} {Q : aw_P} {d bc bs pc : Nat} {ls : List (Nat × Value)} {n : Nat} {h : ah}
theorem aw_zret {v : Int32} {ty : FieldType} (hd : decode mi.2.1 pc = .ok (.ireturn, 1)) (hr : mi.2.2.2 = some ty) (hn : narrow ty (.int v) = .int v) (hq : Q (some (.int v)) n h) : aw l E mi (aw_Z E Q) d bc bs pc ls [.int v] n h := by
  intro p e s m args below meth c H locs cells slots mc ms ls' F h1 h2 hR hS hl
  refine W.widen (k := mc) (n := ms) (by omega) (by omega) ?_
  exact W.zret (hlocks := F.2.2.2.2.2.2.1) F.1 F.2.1 (F.2.2.2.1.trans hr) hn (fun t ht hW => ⟨_, n, h, rfl, hq, by rw [ht]; exact hR, hS.F ht⟩) hS.2.2 hd
theorem aw_iret {v : Int32} (hd : decode mi.2.1 pc = .ok (.ireturn, 1)) (hr : mi.2.2.2 = some .int) (hq : Q (some (.int v)) n h) : aw l E mi (aw_Z E Q) d bc bs pc ls [.int v] n h := aw_zret hd hr rfl hq
theorem aw_lret {v : Int64} (hd : decode mi.2.1 pc = .ok (.lreturn, 1)) (hr : mi.2.2.2 = some .long) (hq : Q (some (.long v)) n h) : aw l E mi (aw_Z E Q) d bc bs pc ls [.long v] n h := by
  intro p e s m args below meth c H locs cells slots mc ms ls' F h1 h2 hR hS hl
  refine W.widen (k := mc) (n := ms) (by omega) (by omega) ?_
  exact W.lret (hlocks := F.2.2.2.2.2.2.1) F.1 F.2.1 (F.2.2.2.1.trans hr) (fun t ht hW => ⟨_, n, h, rfl, hq, by rw [ht]; exact hR, hS.F ht⟩) hS.2.2 hd
theorem aw_aret {v : Nat} {C : String} (hd : decode mi.2.1 pc = .ok (.areturn, 1)) (hr : mi.2.2.2 = some (.object C)) (hq : Q (some (.ref v)) n h) : aw l E mi (aw_Z E Q) d bc bs pc ls [.ref v] n h := by
  intro p e s m args below meth c H locs cells slots mc ms ls' F h1 h2 hR hS hl
  refine W.widen (k := mc) (n := ms) (by omega) (by omega) ?_
  exact W.aret (hlocks := F.2.2.2.2.2.2.1) F.1 F.2.1 (F.2.2.2.1.trans hr) (Or.inl ⟨_, rfl⟩) (Or.inr ⟨_, rfl⟩) (fun t ht hW => ⟨_, n, h, rfl, hq, by rw [ht]; exact hR, hS.F ht⟩) hS.2.2 hd
theorem aw_vret (hd : decode mi.2.1 pc = .ok (.return_, 1)) (hr : mi.2.2.2 = none) (hq : Q none n h) : aw l E mi (aw_Z E Q) d bc bs pc ls [] n h := by
  intro p e s m args below meth c H locs cells slots mc ms ls' F h1 h2 hR hS hl
  refine W.widen (k := mc) (n := ms) (by omega) (by omega) ?_
  exact W.vret (hlocks := F.2.2.2.2.2.2.1) F.1 F.2.1 (F.2.2.2.1.trans hr) (fun t ht hW => ⟨_, n, h, rfl, hq, by rw [ht]; exact hR, hS.F ht⟩) hS.2.2 hd
/-- A CONTRACT out of a walk of the body -/
theorem am_of {mc ms : Nat} {av : List Value} (hy : plainName mi.1.cls = true) (hN : (lg_sl av).length ≤ mi.2.2.1) (k : aw l E mi (aw_Z E Q) d mc ms 0 (lv_args 0 av) [] n h) : am l E mi d mc ms av n h Q := by
  refine Met.ofW (cc := mi.2.1) (maxL := mi.2.2.1) (ret := mi.2.2.2) hy rfl ?_
  intro p e s m args below meth c s₁ B hml hv
  obtain ⟨rfl, hR, hK, hV, hcl, hba⟩ := hv
  have hts := atoms_spec (ws := .code mi.1 mi.2.1 mi.2.2.1 mi.2.2.2 :: aw_T) B.pre
  have hown : s.vm.findClass mi.1.cls = some m.cls := findClass_of_methodNamed B.named
  rw [lg_entry_eq]
  exact k p e s m av.toArray below meth c s.heap [] 0 0 mc ms _ ⟨B.exec, B.bytes, hml, B.returns, hown, fun w hw => hts w (List.mem_cons_of_mem _ hw), B.notSynchronized, (name_of_methodNamed B.named B.method).1, hK, hV, hcl, hba⟩ (by omega) (by omega) hR va_S.rf (lv_entry av hN)
end AWE
end
section
/-! THE METHODS AND LINKS of the claim, by their places in the tables. -/
theorem aw_sub {ws : List Cond} (ps : List Nat) (hp : ws = ps.filterMap (fun i => lw_tbl[i]?)) (hg : ws.all goodWord = true) : ∀ w ∈ ws, w ∈ aw_T := by
  intro w hw
  have h1 := List.all_eq_true.mp hg w hw
  rw [hp] at hw
  obtain ⟨i, -, hi⟩ := List.mem_filterMap.mp hw
  exact aw_mem i hi h1
theorem inX0 : ∀ w ∈ u_ws RX0 TX0 0, w ∈ aw_T := aw_sub [] (by decide +kernel) (by decide +kernel)
theorem inX1 : ∀ w ∈ u_ws RX1 TX1 0, w ∈ aw_T := aw_sub [] (by decide +kernel) (by decide +kernel)
theorem inX2 : ∀ w ∈ u_ws RX2 TX2 0, w ∈ aw_T := aw_sub [] (by decide +kernel) (by decide +kernel)
theorem inX3 : ∀ w ∈ u_ws RX3 TX3 0, w ∈ aw_T := aw_sub [] (by decide +kernel) (by decide +kernel)
theorem inX4 : ∀ w ∈ u_ws RX4 TX4 5, w ∈ aw_T := aw_sub [163, 165, 167, 169, 171] (by decide +kernel) (by decide +kernel)
theorem inX5 : ∀ w ∈ u_ws RX5 TX5 2, w ∈ aw_T := aw_sub [183, 185] (by decide +kernel) (by decide +kernel)
theorem inX6 : ∀ w ∈ u_ws RX6 TX6 0, w ∈ aw_T := aw_sub [] (by decide +kernel) (by decide +kernel)
theorem inX7 : ∀ w ∈ u_ws RX7 TX7 7, w ∈ aw_T := aw_sub [239, 241, 243, 245, 247, 249, 251] (by decide +kernel) (by decide +kernel)
theorem inX8 : ∀ w ∈ u_ws RX8 TX8 0, w ∈ aw_T := aw_sub [] (by decide +kernel) (by decide +kernel)
theorem inX9 : ∀ w ∈ u_ws RX9 TX9 12, w ∈ aw_T := aw_sub [200, 202, 204, 206, 208, 210, 212, 214, 216, 218, 220, 222] (by decide +kernel) (by decide +kernel)
theorem inX10 : ∀ w ∈ u_ws RX10 TX10 4, w ∈ aw_T := aw_sub [264, 266, 268, 270] (by decide +kernel) (by decide +kernel)
theorem inX11 : ∀ w ∈ u_ws RX11 TX11 10, w ∈ aw_T := aw_sub [283, 285, 287, 289, 291, 293, 295, 297, 299, 301] (by decide +kernel) (by decide +kernel)
theorem inX12 : ∀ w ∈ u_ws RX12 TX12 33, w ∈ aw_T := aw_sub [1003, 1005, 1007, 1009, 1011, 1013, 1015, 1017, 1019, 1021, 1023, 1025, 1027, 1029, 1031, 1033, 1035, 1037, 1039, 1041, 1043, 1045, 1047, 1049, 1051, 1053, 1055, 1057, 1059, 1061, 1063, 1065, 1067] (by decide +kernel) (by decide +kernel)
abbrev mX0_init : aw_M := (yX0_init, cX0_init, 1, none)
theorem cmX0_init : aw_cm mX0_init 0 := ⟨aw_mem 149 (by decide +kernel) (by decide +kernel), aw_mem 83 (by decide +kernel) (by decide +kernel), ⟨(by decide +kernel), (by decide +kernel), (by decide +kernel)⟩, by decide⟩
abbrev mX0_weight : aw_M := (yX0_weight, cX0_weight, 4, (some .int))
theorem cmX0_weight : aw_cm mX0_weight 3 := ⟨aw_mem 670 (by decide +kernel) (by decide +kernel), aw_mem 83 (by decide +kernel) (by decide +kernel), ⟨(by decide +kernel), (by decide +kernel), (by decide +kernel)⟩, by decide⟩
abbrev mX1_init : aw_M := (yX1_init, cX1_init, 1, none)
theorem cmX1_init : aw_cm mX1_init 0 := ⟨aw_mem 121 (by decide +kernel) (by decide +kernel), aw_mem 79 (by decide +kernel) (by decide +kernel), ⟨(by decide +kernel), (by decide +kernel), (by decide +kernel)⟩, by decide⟩
abbrev mX1_weight : aw_M := (yX1_weight, cX1_weight, 4, (some .int))
theorem cmX1_weight : aw_cm mX1_weight 3 := ⟨aw_mem 678 (by decide +kernel) (by decide +kernel), aw_mem 79 (by decide +kernel) (by decide +kernel), ⟨(by decide +kernel), (by decide +kernel), (by decide +kernel)⟩, by decide⟩
abbrev mX1_loss : aw_M := (yX1_loss, cX1_loss, 2, (some .int))
theorem cmX1_loss : aw_cm mX1_loss 1 := ⟨aw_mem 530 (by decide +kernel) (by decide +kernel), aw_mem 79 (by decide +kernel) (by decide +kernel), ⟨(by decide +kernel), (by decide +kernel), (by decide +kernel)⟩, by decide⟩
abbrev mX2_init : aw_M := (yX2_init, cX2_init, 1, none)
theorem cmX2_init : aw_cm mX2_init 0 := ⟨aw_mem 128 (by decide +kernel) (by decide +kernel), aw_mem 80 (by decide +kernel) (by decide +kernel), ⟨(by decide +kernel), (by decide +kernel), (by decide +kernel)⟩, by decide⟩
abbrev mX2_weight : aw_M := (yX2_weight, cX2_weight, 4, (some .int))
theorem cmX2_weight : aw_cm mX2_weight 3 := ⟨aw_mem 681 (by decide +kernel) (by decide +kernel), aw_mem 80 (by decide +kernel) (by decide +kernel), ⟨(by decide +kernel), (by decide +kernel), (by decide +kernel)⟩, by decide⟩
abbrev mX2_loss : aw_M := (yX2_loss, cX2_loss, 2, (some .int))
theorem cmX2_loss : aw_cm mX2_loss 1 := ⟨aw_mem 534 (by decide +kernel) (by decide +kernel), aw_mem 80 (by decide +kernel) (by decide +kernel), ⟨(by decide +kernel), (by decide +kernel), (by decide +kernel)⟩, by decide⟩
abbrev mX3_init : aw_M := (yX3_init, cX3_init, 1, none)
theorem cmX3_init : aw_cm mX3_init 0 := ⟨aw_mem 142 (by decide +kernel) (by decide +kernel), aw_mem 82 (by decide +kernel) (by decide +kernel), ⟨(by decide +kernel), (by decide +kernel), (by decide +kernel)⟩, by decide⟩
abbrev mX3_weight : aw_M := (yX3_weight, cX3_weight, 4, (some .int))
theorem cmX3_weight : aw_cm mX3_weight 3 := ⟨aw_mem 685 (by decide +kernel) (by decide +kernel), aw_mem 82 (by decide +kernel) (by decide +kernel), ⟨(by decide +kernel), (by decide +kernel), (by decide +kernel)⟩, by decide⟩
abbrev mX4_init : aw_M := (yX4_init, cX4_init, 1, none)
theorem cmX4_init : aw_cm mX4_init 0 := ⟨aw_mem 156 (by decide +kernel) (by decide +kernel), aw_mem 84 (by decide +kernel) (by decide +kernel), ⟨(by decide +kernel), (by decide +kernel), (by decide +kernel)⟩, by decide⟩
abbrev mX4_size : aw_M := (yX4_size, cX4_size, 1, (some .int))
theorem cmX4_size : aw_cm mX4_size 0 := ⟨aw_mem 836 (by decide +kernel) (by decide +kernel), aw_mem 84 (by decide +kernel) (by decide +kernel), ⟨(by decide +kernel), (by decide +kernel), (by decide +kernel)⟩, by decide⟩
abbrev mX4_drop : aw_M := (yX4_drop, cX4_drop, 1, none)
theorem cmX4_drop : aw_cm mX4_drop 0 := ⟨aw_mem 319 (by decide +kernel) (by decide +kernel), aw_mem 84 (by decide +kernel) (by decide +kernel), ⟨(by decide +kernel), (by decide +kernel), (by decide +kernel)⟩, by decide⟩
abbrev mX4_add : aw_M := (yX4_add, cX4_add, 5, (some .int))
theorem cmX4_add : aw_cm mX4_add 4 := ⟨aw_mem 840 (by decide +kernel) (by decide +kernel), aw_mem 84 (by decide +kernel) (by decide +kernel), ⟨(by decide +kernel), (by decide +kernel), (by decide +kernel)⟩, by decide⟩
abbrev mX4_copyFrom : aw_M := (yX4_copyFrom, cX4_copyFrom, 3, none)
theorem cmX4_copyFrom : aw_cm mX4_copyFrom 1 := ⟨aw_mem 553 (by decide +kernel) (by decide +kernel), aw_mem 84 (by decide +kernel) (by decide +kernel), ⟨(by decide +kernel), (by decide +kernel), (by decide +kernel)⟩, by decide⟩
abbrev mX4_kindsThatFit : aw_M := (yX4_kindsThatFit, cX4_kindsThatFit, 5, (some .int))
theorem cmX4_kindsThatFit : aw_cm mX4_kindsThatFit 2 := ⟨aw_mem 853 (by decide +kernel) (by decide +kernel), aw_mem 84 (by decide +kernel) (by decide +kernel), ⟨(by decide +kernel), (by decide +kernel), (by decide +kernel)⟩, by decide⟩
abbrev mX4_honestiesThatFit : aw_M := (yX4_honestiesThatFit, cX4_honestiesThatFit, 5, (some .int))
theorem cmX4_honestiesThatFit : aw_cm mX4_honestiesThatFit 2 := ⟨aw_mem 863 (by decide +kernel) (by decide +kernel), aw_mem 84 (by decide +kernel) (by decide +kernel), ⟨(by decide +kernel), (by decide +kernel), (by decide +kernel)⟩, by decide⟩
abbrev mX4_bestWeighing : aw_M := (yX4_bestWeighing, cX4_bestWeighing, 7, (some .int))
theorem cmX4_bestWeighing : aw_cm mX4_bestWeighing 3 := ⟨aw_mem 871 (by decide +kernel) (by decide +kernel), aw_mem 84 (by decide +kernel) (by decide +kernel), ⟨(by decide +kernel), (by decide +kernel), (by decide +kernel)⟩, by decide⟩
abbrev mX4_mixInto : aw_M := (yX4_mixInto, cX4_mixInto, 6, (some .long))
theorem cmX4_mixInto : aw_cm mX4_mixInto 1 := ⟨aw_mem 958 (by decide +kernel) (by decide +kernel), aw_mem 84 (by decide +kernel) (by decide +kernel), ⟨(by decide +kernel), (by decide +kernel), (by decide +kernel)⟩, by decide⟩
abbrev mX4_allFit : aw_M := (yX4_allFit, cX4_allFit, 6, (some .boolean))
theorem cmX4_allFit : aw_cm mX4_allFit 4 := ⟨aw_mem 858 (by decide +kernel) (by decide +kernel), aw_mem 84 (by decide +kernel) (by decide +kernel), ⟨(by decide +kernel), (by decide +kernel), (by decide +kernel)⟩, by decide⟩
abbrev mX4_mostAlike : aw_M := (yX4_mostAlike, cX4_mostAlike, 9, (some .int))
theorem cmX4_mostAlike : aw_cm mX4_mostAlike 4 := ⟨aw_mem 874 (by decide +kernel) (by decide +kernel), aw_mem 84 (by decide +kernel) (by decide +kernel), ⟨(by decide +kernel), (by decide +kernel), (by decide +kernel)⟩, by decide⟩
abbrev mX5_init : aw_M := (yX5_init, cX5_init, 1, none)
theorem cmX5_init : aw_cm mX5_init 0 := ⟨aw_mem 179 (by decide +kernel) (by decide +kernel), aw_mem 85 (by decide +kernel) (by decide +kernel), ⟨(by decide +kernel), (by decide +kernel), (by decide +kernel)⟩, by decide⟩
abbrev mX5_size : aw_M := (yX5_size, cX5_size, 1, (some .int))
theorem cmX5_size : aw_cm mX5_size 0 := ⟨aw_mem 631 (by decide +kernel) (by decide +kernel), aw_mem 85 (by decide +kernel) (by decide +kernel), ⟨(by decide +kernel), (by decide +kernel), (by decide +kernel)⟩, by decide⟩
abbrev mX5_drop : aw_M := (yX5_drop, cX5_drop, 1, none)
theorem cmX5_drop : aw_cm mX5_drop 0 := ⟨aw_mem 323 (by decide +kernel) (by decide +kernel), aw_mem 85 (by decide +kernel) (by decide +kernel), ⟨(by decide +kernel), (by decide +kernel), (by decide +kernel)⟩, by decide⟩
abbrev mX5_dropLast : aw_M := (yX5_dropLast, cX5_dropLast, 1, none)
theorem cmX5_dropLast : aw_cm mX5_dropLast 0 := ⟨aw_mem 643 (by decide +kernel) (by decide +kernel), aw_mem 85 (by decide +kernel) (by decide +kernel), ⟨(by decide +kernel), (by decide +kernel), (by decide +kernel)⟩, by decide⟩
abbrev mX5_open : aw_M := (yX5_open, cX5_open, 2, none)
theorem cmX5_open : aw_cm mX5_open 0 := ⟨aw_mem 570 (by decide +kernel) (by decide +kernel), aw_mem 85 (by decide +kernel) (by decide +kernel), ⟨(by decide +kernel), (by decide +kernel), (by decide +kernel)⟩, by decide⟩
abbrev mX5_put : aw_M := (yX5_put, cX5_put, 4, none)
theorem cmX5_put : aw_cm mX5_put 2 := ⟨aw_mem 574 (by decide +kernel) (by decide +kernel), aw_mem 85 (by decide +kernel) (by decide +kernel), ⟨(by decide +kernel), (by decide +kernel), (by decide +kernel)⟩, by decide⟩
abbrev mX5_last : aw_M := (yX5_last, cX5_last, 3, (some .int))
theorem cmX5_last : aw_cm mX5_last 1 := ⟨aw_mem 639 (by decide +kernel) (by decide +kernel), aw_mem 85 (by decide +kernel) (by decide +kernel), ⟨(by decide +kernel), (by decide +kernel), (by decide +kernel)⟩, by decide⟩
abbrev mX5_copyFrom : aw_M := (yX5_copyFrom, cX5_copyFrom, 3, none)
theorem cmX5_copyFrom : aw_cm mX5_copyFrom 1 := ⟨aw_mem 557 (by decide +kernel) (by decide +kernel), aw_mem 85 (by decide +kernel) (by decide +kernel), ⟨(by decide +kernel), (by decide +kernel), (by decide +kernel)⟩, by decide⟩
abbrev mX5_placeOf : aw_M := (yX5_placeOf, cX5_placeOf, 2, (some .int))
theorem cmX5_placeOf : aw_cm mX5_placeOf 1 := ⟨aw_mem 578 (by decide +kernel) (by decide +kernel), aw_mem 85 (by decide +kernel) (by decide +kernel), ⟨(by decide +kernel), (by decide +kernel), (by decide +kernel)⟩, by decide⟩
abbrev mX6_init : aw_M := (yX6_init, cX6_init, 1, none)
theorem cmX6_init : aw_cm mX6_init 0 := ⟨aw_mem 113 (by decide +kernel) (by decide +kernel), aw_mem 78 (by decide +kernel) (by decide +kernel), ⟨(by decide +kernel), (by decide +kernel), (by decide +kernel)⟩, by decide⟩
abbrev mX6_weight : aw_M := (yX6_weight, cX6_weight, 4, (some .int))
theorem cmX6_weight : aw_cm mX6_weight 3 := ⟨aw_mem 688 (by decide +kernel) (by decide +kernel), aw_mem 78 (by decide +kernel) (by decide +kernel), ⟨(by decide +kernel), (by decide +kernel), (by decide +kernel)⟩, by decide⟩
abbrev mX6_loss : aw_M := (yX6_loss, cX6_loss, 2, (some .int))
theorem cmX6_loss : aw_cm mX6_loss 1 := ⟨aw_mem 538 (by decide +kernel) (by decide +kernel), aw_mem 78 (by decide +kernel) (by decide +kernel), ⟨(by decide +kernel), (by decide +kernel), (by decide +kernel)⟩, by decide⟩
abbrev mX7_init : aw_M := (yX7_init, cX7_init, 1, none)
theorem cmX7_init : aw_cm mX7_init 0 := ⟨aw_mem 230 (by decide +kernel) (by decide +kernel), aw_mem 86 (by decide +kernel) (by decide +kernel), ⟨(by decide +kernel), (by decide +kernel), (by decide +kernel)⟩, by decide⟩
abbrev mX7_length : aw_M := (yX7_length, cX7_length, 1, (some .int))
theorem cmX7_length : aw_cm mX7_length 0 := ⟨aw_mem 375 (by decide +kernel) (by decide +kernel), aw_mem 86 (by decide +kernel) (by decide +kernel), ⟨(by decide +kernel), (by decide +kernel), (by decide +kernel)⟩, by decide⟩
abbrev mX7_drop : aw_M := (yX7_drop, cX7_drop, 1, none)
theorem cmX7_drop : aw_cm mX7_drop 0 := ⟨aw_mem 387 (by decide +kernel) (by decide +kernel), aw_mem 86 (by decide +kernel) (by decide +kernel), ⟨(by decide +kernel), (by decide +kernel), (by decide +kernel)⟩, by decide⟩
abbrev mX7_append : aw_M := (yX7_append, cX7_append, 2, (some .int))
theorem cmX7_append : aw_cm mX7_append 1 := ⟨aw_mem 379 (by decide +kernel) (by decide +kernel), aw_mem 86 (by decide +kernel) (by decide +kernel), ⟨(by decide +kernel), (by decide +kernel), (by decide +kernel)⟩, by decide⟩
abbrev mX7_faultAt : aw_M := (yX7_faultAt, cX7_faultAt, 1, (some .int))
theorem cmX7_faultAt : aw_cm mX7_faultAt 0 := ⟨aw_mem 545 (by decide +kernel) (by decide +kernel), aw_mem 86 (by decide +kernel) (by decide +kernel), ⟨(by decide +kernel), (by decide +kernel), (by decide +kernel)⟩, by decide⟩
abbrev mX7_readInto : aw_M := (yX7_readInto, cX7_readInto, 4, (some .int))
theorem cmX7_readInto : aw_cm mX7_readInto 1 := ⟨aw_mem 395 (by decide +kernel) (by decide +kernel), aw_mem 86 (by decide +kernel) (by decide +kernel), ⟨(by decide +kernel), (by decide +kernel), (by decide +kernel)⟩, by decide⟩
abbrev mX7_takeGold : aw_M := (yX7_takeGold, cX7_takeGold, 1, none)
theorem cmX7_takeGold : aw_cm mX7_takeGold 0 := ⟨aw_mem 416 (by decide +kernel) (by decide +kernel), aw_mem 86 (by decide +kernel) (by decide +kernel), ⟨(by decide +kernel), (by decide +kernel), (by decide +kernel)⟩, by decide⟩
abbrev mX7_takeOne : aw_M := (yX7_takeOne, cX7_takeOne, 6, none)
theorem cmX7_takeOne : aw_cm mX7_takeOne 1 := ⟨aw_mem 483 (by decide +kernel) (by decide +kernel), aw_mem 86 (by decide +kernel) (by decide +kernel), ⟨(by decide +kernel), (by decide +kernel), (by decide +kernel)⟩, by decide⟩
abbrev mX7_takeHands : aw_M := (yX7_takeHands, cX7_takeHands, 6, none)
theorem cmX7_takeHands : aw_cm mX7_takeHands 1 := ⟨aw_mem 493 (by decide +kernel) (by decide +kernel), aw_mem 86 (by decide +kernel) (by decide +kernel), ⟨(by decide +kernel), (by decide +kernel), (by decide +kernel)⟩, by decide⟩
abbrev mX7_takeLie : aw_M := (yX7_takeLie, cX7_takeLie, 4, none)
theorem cmX7_takeLie : aw_cm mX7_takeLie 1 := ⟨aw_mem 499 (by decide +kernel) (by decide +kernel), aw_mem 86 (by decide +kernel) (by decide +kernel), ⟨(by decide +kernel), (by decide +kernel), (by decide +kernel)⟩, by decide⟩
abbrev mX7_takeNumber : aw_M := (yX7_takeNumber, cX7_takeNumber, 4, (some .int))
theorem cmX7_takeNumber : aw_cm mX7_takeNumber 2 := ⟨aw_mem 487 (by decide +kernel) (by decide +kernel), aw_mem 86 (by decide +kernel) (by decide +kernel), ⟨(by decide +kernel), (by decide +kernel), (by decide +kernel)⟩, by decide⟩
abbrev mX7_takeStop : aw_M := (yX7_takeStop, cX7_takeStop, 1, none)
theorem cmX7_takeStop : aw_cm mX7_takeStop 0 := ⟨aw_mem 477 (by decide +kernel) (by decide +kernel), aw_mem 86 (by decide +kernel) (by decide +kernel), ⟨(by decide +kernel), (by decide +kernel), (by decide +kernel)⟩, by decide⟩
abbrev mX7_failHere : aw_M := (yX7_failHere, cX7_failHere, 1, none)
theorem cmX7_failHere : aw_cm mX7_failHere 0 := ⟨aw_mem 473 (by decide +kernel) (by decide +kernel), aw_mem 86 (by decide +kernel) (by decide +kernel), ⟨(by decide +kernel), (by decide +kernel), (by decide +kernel)⟩, by decide⟩
abbrev mX7_isWord : aw_M := (yX7_isWord, cX7_isWord, 3, (some .boolean))
theorem cmX7_isWord : aw_cm mX7_isWord 1 := ⟨aw_mem 421 (by decide +kernel) (by decide +kernel), aw_mem 86 (by decide +kernel) (by decide +kernel), ⟨(by decide +kernel), (by decide +kernel), (by decide +kernel)⟩, by decide⟩
abbrev mX7_step : aw_M := (yX7_step, cX7_step, 2, none)
theorem cmX7_step : aw_cm mX7_step 0 := ⟨aw_mem 400 (by decide +kernel) (by decide +kernel), aw_mem 86 (by decide +kernel) (by decide +kernel), ⟨(by decide +kernel), (by decide +kernel), (by decide +kernel)⟩, by decide⟩
abbrev mX7_runEnd : aw_M := (yX7_runEnd, cX7_runEnd, 5, (some .int))
theorem cmX7_runEnd : aw_cm mX7_runEnd 3 := ⟨aw_mem 404 (by decide +kernel) (by decide +kernel), aw_mem 86 (by decide +kernel) (by decide +kernel), ⟨(by decide +kernel), (by decide +kernel), (by decide +kernel)⟩, by decide⟩
abbrev mX7_numberBetween : aw_M := (yX7_numberBetween, cX7_numberBetween, 4, (some .int))
theorem cmX7_numberBetween : aw_cm mX7_numberBetween 2 := ⟨aw_mem 412 (by decide +kernel) (by decide +kernel), aw_mem 86 (by decide +kernel) (by decide +kernel), ⟨(by decide +kernel), (by decide +kernel), (by decide +kernel)⟩, by decide⟩
abbrev mX7_byteAt : aw_M := (yX7_byteAt, cX7_byteAt, 2, (some .int))
theorem cmX7_byteAt : aw_cm mX7_byteAt 1 := ⟨aw_mem 408 (by decide +kernel) (by decide +kernel), aw_mem 86 (by decide +kernel) (by decide +kernel), ⟨(by decide +kernel), (by decide +kernel), (by decide +kernel)⟩, by decide⟩
abbrev mX8_init : aw_M := (yX8_init, cX8_init, 1, none)
theorem cmX8_init : aw_cm mX8_init 0 := ⟨aw_mem 135 (by decide +kernel) (by decide +kernel), aw_mem 81 (by decide +kernel) (by decide +kernel), ⟨(by decide +kernel), (by decide +kernel), (by decide +kernel)⟩, by decide⟩
abbrev mX8_weight : aw_M := (yX8_weight, cX8_weight, 4, (some .int))
theorem cmX8_weight : aw_cm mX8_weight 3 := ⟨aw_mem 673 (by decide +kernel) (by decide +kernel), aw_mem 81 (by decide +kernel) (by decide +kernel), ⟨(by decide +kernel), (by decide +kernel), (by decide +kernel)⟩, by decide⟩
abbrev mX8_loss : aw_M := (yX8_loss, cX8_loss, 2, (some .int))
theorem cmX8_loss : aw_cm mX8_loss 1 := ⟨aw_mem 526 (by decide +kernel) (by decide +kernel), aw_mem 81 (by decide +kernel) (by decide +kernel), ⟨(by decide +kernel), (by decide +kernel), (by decide +kernel)⟩, by decide⟩
abbrev mX9_init : aw_M := (yX9_init, cX9_init, 1, none)
theorem cmX9_init : aw_cm mX9_init 0 := ⟨aw_mem 107 (by decide +kernel) (by decide +kernel), aw_mem 77 (by decide +kernel) (by decide +kernel), ⟨(by decide +kernel), (by decide +kernel), (by decide +kernel)⟩, by decide⟩
abbrev mX9_empty : aw_M := (yX9_empty, cX9_empty, 1, none)
theorem cmX9_empty : aw_cm mX9_empty 0 := ⟨aw_mem 315 (by decide +kernel) (by decide +kernel), aw_mem 77 (by decide +kernel) (by decide +kernel), ⟨(by decide +kernel), (by decide +kernel), (by decide +kernel)⟩, by decide⟩
abbrev mX9_copyFrom : aw_M := (yX9_copyFrom, cX9_copyFrom, 3, none)
theorem cmX9_copyFrom : aw_cm mX9_copyFrom 1 := ⟨aw_mem 549 (by decide +kernel) (by decide +kernel), aw_mem 77 (by decide +kernel) (by decide +kernel), ⟨(by decide +kernel), (by decide +kernel), (by decide +kernel)⟩, by decide⟩
abbrev mX9_people : aw_M := (yX9_people, cX9_people, 1, (some .int))
theorem cmX9_people : aw_cm mX9_people 0 := ⟨aw_mem 311 (by decide +kernel) (by decide +kernel), aw_mem 77 (by decide +kernel) (by decide +kernel), ⟨(by decide +kernel), (by decide +kernel), (by decide +kernel)⟩, by decide⟩
abbrev mX9_isThere : aw_M := (yX9_isThere, cX9_isThere, 2, (some .boolean))
theorem cmX9_isThere : aw_cm mX9_isThere 1 := ⟨aw_mem 358 (by decide +kernel) (by decide +kernel), aw_mem 77 (by decide +kernel) (by decide +kernel), ⟨(by decide +kernel), (by decide +kernel), (by decide +kernel)⟩, by decide⟩
abbrev mX9_kindOf : aw_M := (yX9_kindOf, cX9_kindOf, 2, (some .int))
theorem cmX9_kindOf : aw_cm mX9_kindOf 1 := ⟨aw_mem 515 (by decide +kernel) (by decide +kernel), aw_mem 77 (by decide +kernel) (by decide +kernel), ⟨(by decide +kernel), (by decide +kernel), (by decide +kernel)⟩, by decide⟩
abbrev mX9_honestyOf : aw_M := (yX9_honestyOf, cX9_honestyOf, 2, (some .int))
theorem cmX9_honestyOf : aw_cm mX9_honestyOf 1 := ⟨aw_mem 511 (by decide +kernel) (by decide +kernel), aw_mem 77 (by decide +kernel) (by decide +kernel), ⟨(by decide +kernel), (by decide +kernel), (by decide +kernel)⟩, by decide⟩
abbrev mX9_piecesOf : aw_M := (yX9_piecesOf, cX9_piecesOf, 2, (some .int))
theorem cmX9_piecesOf : aw_cm mX9_piecesOf 1 := ⟨aw_mem 588 (by decide +kernel) (by decide +kernel), aw_mem 77 (by decide +kernel) (by decide +kernel), ⟨(by decide +kernel), (by decide +kernel), (by decide +kernel)⟩, by decide⟩
abbrev mX9_payOf : aw_M := (yX9_payOf, cX9_payOf, 2, (some .int))
theorem cmX9_payOf : aw_cm mX9_payOf 1 := ⟨aw_mem 653 (by decide +kernel) (by decide +kernel), aw_mem 77 (by decide +kernel) (by decide +kernel), ⟨(by decide +kernel), (by decide +kernel), (by decide +kernel)⟩, by decide⟩
abbrev mX9_handsOf : aw_M := (yX9_handsOf, cX9_handsOf, 2, (some .int))
theorem cmX9_handsOf : aw_cm mX9_handsOf 1 := ⟨aw_mem 362 (by decide +kernel) (by decide +kernel), aw_mem 77 (by decide +kernel) (by decide +kernel), ⟨(by decide +kernel), (by decide +kernel), (by decide +kernel)⟩, by decide⟩
abbrev mX9_liedOf : aw_M := (yX9_liedOf, cX9_liedOf, 2, (some .int))
theorem cmX9_liedOf : aw_cm mX9_liedOf 1 := ⟨aw_mem 612 (by decide +kernel) (by decide +kernel), aw_mem 77 (by decide +kernel) (by decide +kernel), ⟨(by decide +kernel), (by decide +kernel), (by decide +kernel)⟩, by decide⟩
abbrev mX9_today : aw_M := (yX9_today, cX9_today, 1, (some .int))
theorem cmX9_today : aw_cm mX9_today 0 := ⟨aw_mem 619 (by decide +kernel) (by decide +kernel), aw_mem 77 (by decide +kernel) (by decide +kernel), ⟨(by decide +kernel), (by decide +kernel), (by decide +kernel)⟩, by decide⟩
abbrev mX9_liars : aw_M := (yX9_liars, cX9_liars, 1, (some .int))
theorem cmX9_liars : aw_cm mX9_liars 0 := ⟨aw_mem 940 (by decide +kernel) (by decide +kernel), aw_mem 77 (by decide +kernel) (by decide +kernel), ⟨(by decide +kernel), (by decide +kernel), (by decide +kernel)⟩, by decide⟩
abbrev mX9_notes : aw_M := (yX9_notes, cX9_notes, 1, (some (.object "HonestGold$Notes")))
theorem cmX9_notes : aw_cm mX9_notes 0 := ⟨aw_mem 832 (by decide +kernel) (by decide +kernel), aw_mem 77 (by decide +kernel) (by decide +kernel), ⟨(by decide +kernel), (by decide +kernel), (by decide +kernel)⟩, by decide⟩
abbrev mX9_allPieces : aw_M := (yX9_allPieces, cX9_allPieces, 3, (some .int))
theorem cmX9_allPieces : aw_cm mX9_allPieces 0 := ⟨aw_mem 936 (by decide +kernel) (by decide +kernel), aw_mem 77 (by decide +kernel) (by decide +kernel), ⟨(by decide +kernel), (by decide +kernel), (by decide +kernel)⟩, by decide⟩
abbrev mX9_join : aw_M := (yX9_join, cX9_join, 6, (some .int))
theorem cmX9_join : aw_cm mX9_join 4 := ⟨aw_mem 346 (by decide +kernel) (by decide +kernel), aw_mem 77 (by decide +kernel) (by decide +kernel), ⟨(by decide +kernel), (by decide +kernel), (by decide +kernel)⟩, by decide⟩
abbrev mX9_tellHands : aw_M := (yX9_tellHands, cX9_tellHands, 3, none)
theorem cmX9_tellHands : aw_cm mX9_tellHands 2 := ⟨aw_mem 367 (by decide +kernel) (by decide +kernel), aw_mem 77 (by decide +kernel) (by decide +kernel), ⟨(by decide +kernel), (by decide +kernel), (by decide +kernel)⟩, by decide⟩
abbrev mX9_tellLie : aw_M := (yX9_tellLie, cX9_tellLie, 3, none)
theorem cmX9_tellLie : aw_cm mX9_tellLie 2 := ⟨aw_mem 503 (by decide +kernel) (by decide +kernel), aw_mem 77 (by decide +kernel) (by decide +kernel), ⟨(by decide +kernel), (by decide +kernel), (by decide +kernel)⟩, by decide⟩
abbrev mX9_handOn : aw_M := (yX9_handOn, cX9_handOn, 4, none)
theorem cmX9_handOn : aw_cm mX9_handOn 3 := ⟨aw_mem 596 (by decide +kernel) (by decide +kernel), aw_mem 77 (by decide +kernel) (by decide +kernel), ⟨(by decide +kernel), (by decide +kernel), (by decide +kernel)⟩, by decide⟩
abbrev mX9_passDay : aw_M := (yX9_passDay, cX9_passDay, 2, none)
theorem cmX9_passDay : aw_cm mX9_passDay 0 := ⟨aw_mem 604 (by decide +kernel) (by decide +kernel), aw_mem 77 (by decide +kernel) (by decide +kernel), ⟨(by decide +kernel), (by decide +kernel), (by decide +kernel)⟩, by decide⟩
abbrev mX9_steps : aw_M := (yX9_steps, cX9_steps, 1, (some .int))
theorem cmX9_steps : aw_cm mX9_steps 0 := ⟨aw_mem 627 (by decide +kernel) (by decide +kernel), aw_mem 77 (by decide +kernel) (by decide +kernel), ⟨(by decide +kernel), (by decide +kernel), (by decide +kernel)⟩, by decide⟩
abbrev mX9_forgetSteps : aw_M := (yX9_forgetSteps, cX9_forgetSteps, 1, none)
theorem cmX9_forgetSteps : aw_cm mX9_forgetSteps 0 := ⟨aw_mem 342 (by decide +kernel) (by decide +kernel), aw_mem 77 (by decide +kernel) (by decide +kernel), ⟨(by decide +kernel), (by decide +kernel), (by decide +kernel)⟩, by decide⟩
abbrev mX9_keepStep : aw_M := (yX9_keepStep, cX9_keepStep, 2, none)
theorem cmX9_keepStep : aw_cm mX9_keepStep 0 := ⟨aw_mem 566 (by decide +kernel) (by decide +kernel), aw_mem 77 (by decide +kernel) (by decide +kernel), ⟨(by decide +kernel), (by decide +kernel), (by decide +kernel)⟩, by decide⟩
abbrev mX9_stepBack : aw_M := (yX9_stepBack, cX9_stepBack, 2, none)
theorem cmX9_stepBack : aw_cm mX9_stepBack 0 := ⟨aw_mem 635 (by decide +kernel) (by decide +kernel), aw_mem 77 (by decide +kernel) (by decide +kernel), ⟨(by decide +kernel), (by decide +kernel), (by decide +kernel)⟩, by decide⟩
abbrev mX9_weightBy : aw_M := (yX9_weightBy, cX9_weightBy, 5, (some .int))
theorem cmX9_weightBy : aw_cm mX9_weightBy 4 := ⟨aw_mem 714 (by decide +kernel) (by decide +kernel), aw_mem 77 (by decide +kernel) (by decide +kernel), ⟨(by decide +kernel), (by decide +kernel), (by decide +kernel)⟩, by decide⟩
abbrev mX9_weightWith : aw_M := (yX9_weightWith, cX9_weightWith, 3, (some .int))
theorem cmX9_weightWith : aw_cm mX9_weightWith 2 := ⟨aw_mem 663 (by decide +kernel) (by decide +kernel), aw_mem 77 (by decide +kernel) (by decide +kernel), ⟨(by decide +kernel), (by decide +kernel), (by decide +kernel)⟩, by decide⟩
abbrev mX9_ownWeight : aw_M := (yX9_ownWeight, cX9_ownWeight, 2, (some .int))
theorem cmX9_ownWeight : aw_cm mX9_ownWeight 1 := ⟨aw_mem 658 (by decide +kernel) (by decide +kernel), aw_mem 77 (by decide +kernel) (by decide +kernel), ⟨(by decide +kernel), (by decide +kernel), (by decide +kernel)⟩, by decide⟩
abbrev mX9_allWeight : aw_M := (yX9_allWeight, cX9_allWeight, 3, (some .int))
theorem cmX9_allWeight : aw_cm mX9_allWeight 0 := ⟨aw_mem 701 (by decide +kernel) (by decide +kernel), aw_mem 77 (by decide +kernel) (by decide +kernel), ⟨(by decide +kernel), (by decide +kernel), (by decide +kernel)⟩, by decide⟩
abbrev mX9_daysUntil : aw_M := (yX9_daysUntil, cX9_daysUntil, 4, (some .int))
theorem cmX9_daysUntil : aw_cm mX9_daysUntil 2 := ⟨aw_mem 710 (by decide +kernel) (by decide +kernel), aw_mem 77 (by decide +kernel) (by decide +kernel), ⟨(by decide +kernel), (by decide +kernel), (by decide +kernel)⟩, by decide⟩
abbrev mX9_fewestPieces : aw_M := (yX9_fewestPieces, cX9_fewestPieces, 4, (some .int))
theorem cmX9_fewestPieces : aw_cm mX9_fewestPieces 2 := ⟨aw_mem 762 (by decide +kernel) (by decide +kernel), aw_mem 77 (by decide +kernel) (by decide +kernel), ⟨(by decide +kernel), (by decide +kernel), (by decide +kernel)⟩, by decide⟩
abbrev mX9_truthWorth : aw_M := (yX9_truthWorth, cX9_truthWorth, 3, (some .int))
theorem cmX9_truthWorth : aw_cm mX9_truthWorth 1 := ⟨aw_mem 884 (by decide +kernel) (by decide +kernel), aw_mem 77 (by decide +kernel) (by decide +kernel), ⟨(by decide +kernel), (by decide +kernel), (by decide +kernel)⟩, by decide⟩
abbrev mX9_mixInto : aw_M := (yX9_mixInto, cX9_mixInto, 6, (some .long))
theorem cmX9_mixInto : aw_cm mX9_mixInto 1 := ⟨aw_mem 951 (by decide +kernel) (by decide +kernel), aw_mem 77 (by decide +kernel) (by decide +kernel), ⟨(by decide +kernel), (by decide +kernel), (by decide +kernel)⟩, by decide⟩
abbrev mX9_kindNumbered : aw_M := (yX9_kindNumbered, cX9_kindNumbered, 2, (some (.object "HonestGold$Plain")))
theorem cmX9_kindNumbered : aw_cm mX9_kindNumbered 1 := ⟨aw_mem 519 (by decide +kernel) (by decide +kernel), aw_mem 77 (by decide +kernel) (by decide +kernel), ⟨(by decide +kernel), (by decide +kernel), (by decide +kernel)⟩, by decide⟩
abbrev mX9_honestyBehindLie : aw_M := (yX9_honestyBehindLie, cX9_honestyBehindLie, 3, (some .int))
theorem cmX9_honestyBehindLie : aw_cm mX9_honestyBehindLie 2 := ⟨aw_mem 507 (by decide +kernel) (by decide +kernel), aw_mem 77 (by decide +kernel) (by decide +kernel), ⟨(by decide +kernel), (by decide +kernel), (by decide +kernel)⟩, by decide⟩
abbrev mX9_honestyAfter : aw_M := (yX9_honestyAfter, cX9_honestyAfter, 4, (some .int))
theorem cmX9_honestyAfter : aw_cm mX9_honestyAfter 2 := ⟨aw_mem 608 (by decide +kernel) (by decide +kernel), aw_mem 77 (by decide +kernel) (by decide +kernel), ⟨(by decide +kernel), (by decide +kernel), (by decide +kernel)⟩, by decide⟩
abbrev mX10_init : aw_M := (yX10_init, cX10_init, 1, none)
theorem cmX10_init : aw_cm mX10_init 0 := ⟨aw_mem 258 (by decide +kernel) (by decide +kernel), aw_mem 87 (by decide +kernel) (by decide +kernel), ⟨(by decide +kernel), (by decide +kernel), (by decide +kernel)⟩, by decide⟩
abbrev mX10_carry : aw_M := (yX10_carry, cX10_carry, 8, (some .int))
theorem cmX10_carry : aw_cm mX10_carry 4 := ⟨aw_mem 722 (by decide +kernel) (by decide +kernel), aw_mem 87 (by decide +kernel) (by decide +kernel), ⟨(by decide +kernel), (by decide +kernel), (by decide +kernel)⟩, by decide⟩
abbrev mX10_handAt : aw_M := (yX10_handAt, cX10_handAt, 6, (some .int))
theorem cmX10_handAt : aw_cm mX10_handAt 3 := ⟨aw_mem 750 (by decide +kernel) (by decide +kernel), aw_mem 87 (by decide +kernel) (by decide +kernel), ⟨(by decide +kernel), (by decide +kernel), (by decide +kernel)⟩, by decide⟩
abbrev mX10_nearerHand : aw_M := (yX10_nearerHand, cX10_nearerHand, 4, (some .int))
theorem cmX10_nearerHand : aw_cm mX10_nearerHand 2 := ⟨aw_mem 754 (by decide +kernel) (by decide +kernel), aw_mem 87 (by decide +kernel) (by decide +kernel), ⟨(by decide +kernel), (by decide +kernel), (by decide +kernel)⟩, by decide⟩
abbrev mX10_measure : aw_M := (yX10_measure, cX10_measure, 7, (some .int))
theorem cmX10_measure : aw_cm mX10_measure 4 := ⟨aw_mem 737 (by decide +kernel) (by decide +kernel), aw_mem 87 (by decide +kernel) (by decide +kernel), ⟨(by decide +kernel), (by decide +kernel), (by decide +kernel)⟩, by decide⟩
abbrev mX10_handsToOneAt : aw_M := (yX10_handsToOneAt, cX10_handsToOneAt, 5, (some .boolean))
theorem cmX10_handsToOneAt : aw_cm mX10_handsToOneAt 3 := ⟨aw_mem 741 (by decide +kernel) (by decide +kernel), aw_mem 87 (by decide +kernel) (by decide +kernel), ⟨(by decide +kernel), (by decide +kernel), (by decide +kernel)⟩, by decide⟩
abbrev mX10_weighers : aw_M := (yX10_weighers, cX10_weighers, 6, (some .int))
theorem cmX10_weighers : aw_cm mX10_weighers 3 := ⟨aw_mem 770 (by decide +kernel) (by decide +kernel), aw_mem 87 (by decide +kernel) (by decide +kernel), ⟨(by decide +kernel), (by decide +kernel), (by decide +kernel)⟩, by decide⟩
abbrev mX10_weightTogether : aw_M := (yX10_weightTogether, cX10_weightTogether, 4, (some .int))
theorem cmX10_weightTogether : aw_cm mX10_weightTogether 1 := ⟨aw_mem 778 (by decide +kernel) (by decide +kernel), aw_mem 87 (by decide +kernel) (by decide +kernel), ⟨(by decide +kernel), (by decide +kernel), (by decide +kernel)⟩, by decide⟩
abbrev mX10_payTogether : aw_M := (yX10_payTogether, cX10_payTogether, 4, (some .int))
theorem cmX10_payTogether : aw_cm mX10_payTogether 2 := ⟨aw_mem 773 (by decide +kernel) (by decide +kernel), aw_mem 87 (by decide +kernel) (by decide +kernel), ⟨(by decide +kernel), (by decide +kernel), (by decide +kernel)⟩, by decide⟩
abbrev mX10_shelve : aw_M := (yX10_shelve, cX10_shelve, 9, (some .int))
theorem cmX10_shelve : aw_cm mX10_shelve 3 := ⟨aw_mem 787 (by decide +kernel) (by decide +kernel), aw_mem 87 (by decide +kernel) (by decide +kernel), ⟨(by decide +kernel), (by decide +kernel), (by decide +kernel)⟩, by decide⟩
abbrev mX10_bagOf : aw_M := (yX10_bagOf, cX10_bagOf, 6, (some .int))
theorem cmX10_bagOf : aw_cm mX10_bagOf 2 := ⟨aw_mem 820 (by decide +kernel) (by decide +kernel), aw_mem 87 (by decide +kernel) (by decide +kernel), ⟨(by decide +kernel), (by decide +kernel), (by decide +kernel)⟩, by decide⟩
abbrev mX10_firstBag : aw_M := (yX10_firstBag, cX10_firstBag, 4, (some .int))
theorem cmX10_firstBag : aw_cm mX10_firstBag 2 := ⟨aw_mem 824 (by decide +kernel) (by decide +kernel), aw_mem 87 (by decide +kernel) (by decide +kernel), ⟨(by decide +kernel), (by decide +kernel), (by decide +kernel)⟩, by decide⟩
abbrev mX10_lightestWith : aw_M := (yX10_lightestWith, cX10_lightestWith, 4, (some .int))
theorem cmX10_lightestWith : aw_cm mX10_lightestWith 2 := ⟨aw_mem 796 (by decide +kernel) (by decide +kernel), aw_mem 87 (by decide +kernel) (by decide +kernel), ⟨(by decide +kernel), (by decide +kernel), (by decide +kernel)⟩, by decide⟩
abbrev mX10_weighBags : aw_M := (yX10_weighBags, cX10_weighBags, 6, none)
theorem cmX10_weighBags : aw_cm mX10_weighBags 3 := ⟨aw_mem 791 (by decide +kernel) (by decide +kernel), aw_mem 87 (by decide +kernel) (by decide +kernel), ⟨(by decide +kernel), (by decide +kernel), (by decide +kernel)⟩, by decide⟩
abbrev mX10_bagWeight : aw_M := (yX10_bagWeight, cX10_bagWeight, 4, (some .int))
theorem cmX10_bagWeight : aw_cm mX10_bagWeight 2 := ⟨aw_mem 806 (by decide +kernel) (by decide +kernel), aw_mem 87 (by decide +kernel) (by decide +kernel), ⟨(by decide +kernel), (by decide +kernel), (by decide +kernel)⟩, by decide⟩
abbrev mX10_weighEach : aw_M := (yX10_weighEach, cX10_weighEach, 4, none)
theorem cmX10_weighEach : aw_cm mX10_weighEach 2 := ⟨aw_mem 726 (by decide +kernel) (by decide +kernel), aw_mem 87 (by decide +kernel) (by decide +kernel), ⟨(by decide +kernel), (by decide +kernel), (by decide +kernel)⟩, by decide⟩
abbrev mX10_heftOf : aw_M := (yX10_heftOf, cX10_heftOf, 2, (some .int))
theorem cmX10_heftOf : aw_cm mX10_heftOf 1 := ⟨aw_mem 733 (by decide +kernel) (by decide +kernel), aw_mem 87 (by decide +kernel) (by decide +kernel), ⟨(by decide +kernel), (by decide +kernel), (by decide +kernel)⟩, by decide⟩
abbrev mX10_farOf : aw_M := (yX10_farOf, cX10_farOf, 2, (some .int))
theorem cmX10_farOf : aw_cm mX10_farOf 1 := ⟨aw_mem 746 (by decide +kernel) (by decide +kernel), aw_mem 87 (by decide +kernel) (by decide +kernel), ⟨(by decide +kernel), (by decide +kernel), (by decide +kernel)⟩, by decide⟩
abbrev mX10_lightestOf : aw_M := (yX10_lightestOf, cX10_lightestOf, 2, (some .int))
theorem cmX10_lightestOf : aw_cm mX10_lightestOf 1 := ⟨aw_mem 810 (by decide +kernel) (by decide +kernel), aw_mem 87 (by decide +kernel) (by decide +kernel), ⟨(by decide +kernel), (by decide +kernel), (by decide +kernel)⟩, by decide⟩
abbrev mX10_putLightest : aw_M := (yX10_putLightest, cX10_putLightest, 3, none)
theorem cmX10_putLightest : aw_cm mX10_putLightest 2 := ⟨aw_mem 816 (by decide +kernel) (by decide +kernel), aw_mem 87 (by decide +kernel) (by decide +kernel), ⟨(by decide +kernel), (by decide +kernel), (by decide +kernel)⟩, by decide⟩
abbrev mX11_init : aw_M := (yX11_init, cX11_init, 1, none)
theorem cmX11_init : aw_cm mX11_init 0 := ⟨aw_mem 99 (by decide +kernel) (by decide +kernel), aw_mem 76 (by decide +kernel) (by decide +kernel), ⟨(by decide +kernel), (by decide +kernel), (by decide +kernel)⟩, by decide⟩
abbrev mX11_gold : aw_M := (yX11_gold, cX11_gold, 2, (some .int))
theorem cmX11_gold : aw_cm mX11_gold 0 := ⟨aw_mem 307 (by decide +kernel) (by decide +kernel), aw_mem 76 (by decide +kernel) (by decide +kernel), ⟨(by decide +kernel), (by decide +kernel), (by decide +kernel)⟩, by decide⟩
abbrev mX11_one : aw_M := (yX11_one, cX11_one, 5, (some .int))
theorem cmX11_one : aw_cm mX11_one 4 := ⟨aw_mem 327 (by decide +kernel) (by decide +kernel), aw_mem 76 (by decide +kernel) (by decide +kernel), ⟨(by decide +kernel), (by decide +kernel), (by decide +kernel)⟩, by decide⟩
abbrev mX11_hands : aw_M := (yX11_hands, cX11_hands, 6, (some .int))
theorem cmX11_hands : aw_cm mX11_hands 3 := ⟨aw_mem 350 (by decide +kernel) (by decide +kernel), aw_mem 76 (by decide +kernel) (by decide +kernel), ⟨(by decide +kernel), (by decide +kernel), (by decide +kernel)⟩, by decide⟩
abbrev mX11_type : aw_M := (yX11_type, cX11_type, 2, (some .int))
theorem cmX11_type : aw_cm mX11_type 1 := ⟨aw_mem 371 (by decide +kernel) (by decide +kernel), aw_mem 76 (by decide +kernel) (by decide +kernel), ⟨(by decide +kernel), (by decide +kernel), (by decide +kernel)⟩, by decide⟩
abbrev mX11_clear : aw_M := (yX11_clear, cX11_clear, 2, (some .int))
theorem cmX11_clear : aw_cm mX11_clear 0 := ⟨aw_mem 383 (by decide +kernel) (by decide +kernel), aw_mem 76 (by decide +kernel) (by decide +kernel), ⟨(by decide +kernel), (by decide +kernel), (by decide +kernel)⟩, by decide⟩
abbrev mX11_read : aw_M := (yX11_read, cX11_read, 2, (some .int))
theorem cmX11_read : aw_cm mX11_read 0 := ⟨aw_mem 391 (by decide +kernel) (by decide +kernel), aw_mem 76 (by decide +kernel) (by decide +kernel), ⟨(by decide +kernel), (by decide +kernel), (by decide +kernel)⟩, by decide⟩
abbrev mX11_lie : aw_M := (yX11_lie, cX11_lie, 3, (some .int))
theorem cmX11_lie : aw_cm mX11_lie 2 := ⟨aw_mem 562 (by decide +kernel) (by decide +kernel), aw_mem 76 (by decide +kernel) (by decide +kernel), ⟨(by decide +kernel), (by decide +kernel), (by decide +kernel)⟩, by decide⟩
abbrev mX11_give : aw_M := (yX11_give, cX11_give, 4, (some .int))
theorem cmX11_give : aw_cm mX11_give 3 := ⟨aw_mem 584 (by decide +kernel) (by decide +kernel), aw_mem 76 (by decide +kernel) (by decide +kernel), ⟨(by decide +kernel), (by decide +kernel), (by decide +kernel)⟩, by decide⟩
abbrev mX11_day : aw_M := (yX11_day, cX11_day, 1, (some .int))
theorem cmX11_day : aw_cm mX11_day 0 := ⟨aw_mem 600 (by decide +kernel) (by decide +kernel), aw_mem 76 (by decide +kernel) (by decide +kernel), ⟨(by decide +kernel), (by decide +kernel), (by decide +kernel)⟩, by decide⟩
abbrev mX11_undo : aw_M := (yX11_undo, cX11_undo, 1, (some .int))
theorem cmX11_undo : aw_cm mX11_undo 0 := ⟨aw_mem 623 (by decide +kernel) (by decide +kernel), aw_mem 76 (by decide +kernel) (by decide +kernel), ⟨(by decide +kernel), (by decide +kernel), (by decide +kernel)⟩, by decide⟩
abbrev mX11_of : aw_M := (yX11_of, cX11_of, 3, (some .int))
theorem cmX11_of : aw_cm mX11_of 2 := ⟨aw_mem 648 (by decide +kernel) (by decide +kernel), aw_mem 76 (by decide +kernel) (by decide +kernel), ⟨(by decide +kernel), (by decide +kernel), (by decide +kernel)⟩, by decide⟩
abbrev mX11_weighs : aw_M := (yX11_weighs, cX11_weighs, 3, (some .int))
theorem cmX11_weighs : aw_cm mX11_weighs 2 := ⟨aw_mem 692 (by decide +kernel) (by decide +kernel), aw_mem 76 (by decide +kernel) (by decide +kernel), ⟨(by decide +kernel), (by decide +kernel), (by decide +kernel)⟩, by decide⟩
abbrev mX11_all : aw_M := (yX11_all, cX11_all, 1, (some .int))
theorem cmX11_all : aw_cm mX11_all 0 := ⟨aw_mem 697 (by decide +kernel) (by decide +kernel), aw_mem 76 (by decide +kernel) (by decide +kernel), ⟨(by decide +kernel), (by decide +kernel), (by decide +kernel)⟩, by decide⟩
abbrev mX11_when : aw_M := (yX11_when, cX11_when, 3, (some .int))
theorem cmX11_when : aw_cm mX11_when 2 := ⟨aw_mem 706 (by decide +kernel) (by decide +kernel), aw_mem 76 (by decide +kernel) (by decide +kernel), ⟨(by decide +kernel), (by decide +kernel), (by decide +kernel)⟩, by decide⟩
abbrev mX11_bag : aw_M := (yX11_bag, cX11_bag, 6, (some .int))
theorem cmX11_bag : aw_cm mX11_bag 4 := ⟨aw_mem 718 (by decide +kernel) (by decide +kernel), aw_mem 76 (by decide +kernel) (by decide +kernel), ⟨(by decide +kernel), (by decide +kernel), (by decide +kernel)⟩, by decide⟩
abbrev mX11_debt : aw_M := (yX11_debt, cX11_debt, 3, (some .int))
theorem cmX11_debt : aw_cm mX11_debt 2 := ⟨aw_mem 758 (by decide +kernel) (by decide +kernel), aw_mem 76 (by decide +kernel) (by decide +kernel), ⟨(by decide +kernel), (by decide +kernel), (by decide +kernel)⟩, by decide⟩
abbrev mX11_hire : aw_M := (yX11_hire, cX11_hire, 5, (some .int))
theorem cmX11_hire : aw_cm mX11_hire 3 := ⟨aw_mem 766 (by decide +kernel) (by decide +kernel), aw_mem 76 (by decide +kernel) (by decide +kernel), ⟨(by decide +kernel), (by decide +kernel), (by decide +kernel)⟩, by decide⟩
abbrev mX11_shelves : aw_M := (yX11_shelves, cX11_shelves, 5, (some .int))
theorem cmX11_shelves : aw_cm mX11_shelves 3 := ⟨aw_mem 783 (by decide +kernel) (by decide +kernel), aw_mem 76 (by decide +kernel) (by decide +kernel), ⟨(by decide +kernel), (by decide +kernel), (by decide +kernel)⟩, by decide⟩
abbrev mX11_note : aw_M := (yX11_note, cX11_note, 5, (some .int))
theorem cmX11_note : aw_cm mX11_note 4 := ⟨aw_mem 828 (by decide +kernel) (by decide +kernel), aw_mem 76 (by decide +kernel) (by decide +kernel), ⟨(by decide +kernel), (by decide +kernel), (by decide +kernel)⟩, by decide⟩
abbrev mX11_forget : aw_M := (yX11_forget, cX11_forget, 2, (some .int))
theorem cmX11_forget : aw_cm mX11_forget 0 := ⟨aw_mem 844 (by decide +kernel) (by decide +kernel), aw_mem 76 (by decide +kernel) (by decide +kernel), ⟨(by decide +kernel), (by decide +kernel), (by decide +kernel)⟩, by decide⟩
abbrev mX11_is : aw_M := (yX11_is, cX11_is, 3, (some .int))
theorem cmX11_is : aw_cm mX11_is 2 := ⟨aw_mem 849 (by decide +kernel) (by decide +kernel), aw_mem 76 (by decide +kernel) (by decide +kernel), ⟨(by decide +kernel), (by decide +kernel), (by decide +kernel)⟩, by decide⟩
abbrev mX11_next : aw_M := (yX11_next, cX11_next, 3, (some .int))
theorem cmX11_next : aw_cm mX11_next 1 := ⟨aw_mem 868 (by decide +kernel) (by decide +kernel), aw_mem 76 (by decide +kernel) (by decide +kernel), ⟨(by decide +kernel), (by decide +kernel), (by decide +kernel)⟩, by decide⟩
abbrev mX11_two : aw_M := (yX11_two, cX11_two, 9, (some .int))
theorem cmX11_two : aw_cm mX11_two 2 := ⟨aw_mem 880 (by decide +kernel) (by decide +kernel), aw_mem 76 (by decide +kernel) (by decide +kernel), ⟨(by decide +kernel), (by decide +kernel), (by decide +kernel)⟩, by decide⟩
abbrev mX11_winds : aw_M := (yX11_winds, cX11_winds, 6, (some .int))
theorem cmX11_winds : aw_cm mX11_winds 2 := ⟨aw_mem 891 (by decide +kernel) (by decide +kernel), aw_mem 76 (by decide +kernel) (by decide +kernel), ⟨(by decide +kernel), (by decide +kernel), (by decide +kernel)⟩, by decide⟩
abbrev mX11_years : aw_M := (yX11_years, cX11_years, 8, (some .int))
theorem cmX11_years : aw_cm mX11_years 2 := ⟨aw_mem 900 (by decide +kernel) (by decide +kernel), aw_mem 76 (by decide +kernel) (by decide +kernel), ⟨(by decide +kernel), (by decide +kernel), (by decide +kernel)⟩, by decide⟩
abbrev mX11_part : aw_M := (yX11_part, cX11_part, 2, (some .long))
theorem cmX11_part : aw_cm mX11_part 1 := ⟨aw_mem 912 (by decide +kernel) (by decide +kernel), aw_mem 76 (by decide +kernel) (by decide +kernel), ⟨(by decide +kernel), (by decide +kernel), (by decide +kernel)⟩, by decide⟩
abbrev mX11_image : aw_M := (yX11_image, cX11_image, 2, (some .int))
theorem cmX11_image : aw_cm mX11_image 1 := ⟨aw_mem 916 (by decide +kernel) (by decide +kernel), aw_mem 76 (by decide +kernel) (by decide +kernel), ⟨(by decide +kernel), (by decide +kernel), (by decide +kernel)⟩, by decide⟩
abbrev mX11_from : aw_M := (yX11_from, cX11_from, 2, (some .int))
theorem cmX11_from : aw_cm mX11_from 1 := ⟨aw_mem 920 (by decide +kernel) (by decide +kernel), aw_mem 76 (by decide +kernel) (by decide +kernel), ⟨(by decide +kernel), (by decide +kernel), (by decide +kernel)⟩, by decide⟩
abbrev mX11_status : aw_M := (yX11_status, cX11_status, 2, (some .int))
theorem cmX11_status : aw_cm mX11_status 1 := ⟨aw_mem 924 (by decide +kernel) (by decide +kernel), aw_mem 76 (by decide +kernel) (by decide +kernel), ⟨(by decide +kernel), (by decide +kernel), (by decide +kernel)⟩, by decide⟩
abbrev mX11_count : aw_M := (yX11_count, cX11_count, 2, (some .int))
theorem cmX11_count : aw_cm mX11_count 1 := ⟨aw_mem 928 (by decide +kernel) (by decide +kernel), aw_mem 76 (by decide +kernel) (by decide +kernel), ⟨(by decide +kernel), (by decide +kernel), (by decide +kernel)⟩, by decide⟩
abbrev mX11_digest : aw_M := (yX11_digest, cX11_digest, 4, (some .long))
theorem cmX11_digest : aw_cm mX11_digest 0 := ⟨aw_mem 945 (by decide +kernel) (by decide +kernel), aw_mem 76 (by decide +kernel) (by decide +kernel), ⟨(by decide +kernel), (by decide +kernel), (by decide +kernel)⟩, by decide⟩
abbrev mX11_within : aw_M := (yX11_within, cX11_within, 3, (some .boolean))
theorem cmX11_within : aw_cm mX11_within 3 := ⟨aw_mem 330 (by decide +kernel) (by decide +kernel), aw_mem 76 (by decide +kernel) (by decide +kernel), ⟨(by decide +kernel), (by decide +kernel), (by decide +kernel)⟩, by decide⟩
abbrev mX11_twoOfThem : aw_M := (yX11_twoOfThem, cX11_twoOfThem, 3, (some .boolean))
theorem cmX11_twoOfThem : aw_cm mX11_twoOfThem 2 := ⟨aw_mem 354 (by decide +kernel) (by decide +kernel), aw_mem 76 (by decide +kernel) (by decide +kernel), ⟨(by decide +kernel), (by decide +kernel), (by decide +kernel)⟩, by decide⟩
abbrev mX11_refuseBad : aw_M := (yX11_refuseBad, cX11_refuseBad, 1, (some .int))
theorem cmX11_refuseBad : aw_cm mX11_refuseBad 0 := ⟨aw_mem 334 (by decide +kernel) (by decide +kernel), aw_mem 76 (by decide +kernel) (by decide +kernel), ⟨(by decide +kernel), (by decide +kernel), (by decide +kernel)⟩, by decide⟩
abbrev mX11_refuseNo : aw_M := (yX11_refuseNo, cX11_refuseNo, 1, (some .int))
theorem cmX11_refuseNo : aw_cm mX11_refuseNo 0 := ⟨aw_mem 592 (by decide +kernel) (by decide +kernel), aw_mem 76 (by decide +kernel) (by decide +kernel), ⟨(by decide +kernel), (by decide +kernel), (by decide +kernel)⟩, by decide⟩
abbrev mX11_refuseFull : aw_M := (yX11_refuseFull, cX11_refuseFull, 1, (some .int))
theorem cmX11_refuseFull : aw_cm mX11_refuseFull 0 := ⟨aw_mem 338 (by decide +kernel) (by decide +kernel), aw_mem 76 (by decide +kernel) (by decide +kernel), ⟨(by decide +kernel), (by decide +kernel), (by decide +kernel)⟩, by decide⟩
abbrev mX11_counted : aw_M := (yX11_counted, cX11_counted, 2, (some .int))
theorem cmX11_counted : aw_cm mX11_counted 1 := ⟨aw_mem 932 (by decide +kernel) (by decide +kernel), aw_mem 76 (by decide +kernel) (by decide +kernel), ⟨(by decide +kernel), (by decide +kernel), (by decide +kernel)⟩, by decide⟩
abbrev mX11_isContent : aw_M := (yX11_isContent, cX11_isContent, 4, (some .boolean))
theorem cmX11_isContent : aw_cm mX11_isContent 3 := ⟨aw_mem 887 (by decide +kernel) (by decide +kernel), aw_mem 76 (by decide +kernel) (by decide +kernel), ⟨(by decide +kernel), (by decide +kernel), (by decide +kernel)⟩, by decide⟩
abbrev mX11_keepFraction : aw_M := (yX11_keepFraction, cX11_keepFraction, 12, none)
theorem cmX11_keepFraction : aw_cm mX11_keepFraction 2 := ⟨aw_mem 896 (by decide +kernel) (by decide +kernel), aw_mem 76 (by decide +kernel) (by decide +kernel), ⟨(by decide +kernel), (by decide +kernel), (by decide +kernel)⟩, by decide⟩
abbrev mX12_bad : aw_M := (yX12_bad, cX12_bad, 1, (some .int))
theorem cmX12_bad : aw_cm mX12_bad 0 := ⟨aw_mem 1084 (by decide +kernel) (by decide +kernel), aw_mem 88 (by decide +kernel) (by decide +kernel), ⟨(by decide +kernel), (by decide +kernel), (by decide +kernel)⟩, by decide⟩
abbrev mX12_ten : aw_M := (yX12_ten, cX12_ten, 1, (some .int))
theorem cmX12_ten : aw_cm mX12_ten 0 := ⟨aw_mem 1258 (by decide +kernel) (by decide +kernel), aw_mem 88 (by decide +kernel) (by decide +kernel), ⟨(by decide +kernel), (by decide +kernel), (by decide +kernel)⟩, by decide⟩
abbrev mX12_no : aw_M := (yX12_no, cX12_no, 1, (some .int))
theorem cmX12_no : aw_cm mX12_no 0 := ⟨aw_mem 1204 (by decide +kernel) (by decide +kernel), aw_mem 88 (by decide +kernel) (by decide +kernel), ⟨(by decide +kernel), (by decide +kernel), (by decide +kernel)⟩, by decide⟩
abbrev mX12_full : aw_M := (yX12_full, cX12_full, 1, (some .int))
theorem cmX12_full : aw_cm mX12_full 0 := ⟨aw_mem 1088 (by decide +kernel) (by decide +kernel), aw_mem 88 (by decide +kernel) (by decide +kernel), ⟨(by decide +kernel), (by decide +kernel), (by decide +kernel)⟩, by decide⟩
abbrev mX12_in : aw_M := (yX12_in, cX12_in, 3, (some .boolean))
theorem cmX12_in : aw_cm mX12_in 3 := ⟨aw_mem 1080 (by decide +kernel) (by decide +kernel), aw_mem 88 (by decide +kernel) (by decide +kernel), ⟨(by decide +kernel), (by decide +kernel), (by decide +kernel)⟩, by decide⟩
abbrev mX12_has : aw_M := (yX12_has, cX12_has, 2, (some .boolean))
theorem cmX12_has : aw_cm mX12_has 2 := ⟨aw_mem 1200 (by decide +kernel) (by decide +kernel), aw_mem 88 (by decide +kernel) (by decide +kernel), ⟨(by decide +kernel), (by decide +kernel), (by decide +kernel)⟩, by decide⟩
abbrev mX12_lesser : aw_M := (yX12_lesser, cX12_lesser, 2, (some .int))
theorem cmX12_lesser : aw_cm mX12_lesser 2 := ⟨aw_mem 1215 (by decide +kernel) (by decide +kernel), aw_mem 88 (by decide +kernel) (by decide +kernel), ⟨(by decide +kernel), (by decide +kernel), (by decide +kernel)⟩, by decide⟩
abbrev mX12_init : aw_M := (yX12_init, cX12_init, 1, none)
theorem cmX12_init : aw_cm mX12_init 0 := ⟨aw_mem 964 (by decide +kernel) (by decide +kernel), aw_mem 88 (by decide +kernel) (by decide +kernel), ⟨(by decide +kernel), (by decide +kernel), (by decide +kernel)⟩, by decide⟩
abbrev mX12_begin : aw_M := (yX12_begin, cX12_begin, 1, none)
theorem cmX12_begin : aw_cm mX12_begin 0 := ⟨aw_mem 969 (by decide +kernel) (by decide +kernel), aw_mem 88 (by decide +kernel) (by decide +kernel), ⟨(by decide +kernel), (by decide +kernel), (by decide +kernel)⟩, by decide⟩
abbrev mX12_isOne : aw_M := (yX12_isOne, cX12_isOne, 2, (some .boolean))
theorem cmX12_isOne : aw_cm mX12_isOne 1 := ⟨aw_mem 1100 (by decide +kernel) (by decide +kernel), aw_mem 88 (by decide +kernel) (by decide +kernel), ⟨(by decide +kernel), (by decide +kernel), (by decide +kernel)⟩, by decide⟩
abbrev mX12_gold : aw_M := (yX12_gold, cX12_gold, 2, (some .int))
theorem cmX12_gold : aw_cm mX12_gold 0 := ⟨aw_mem 1073 (by decide +kernel) (by decide +kernel), aw_mem 88 (by decide +kernel) (by decide +kernel), ⟨(by decide +kernel), (by decide +kernel), (by decide +kernel)⟩, by decide⟩
abbrev mX12_addOne : aw_M := (yX12_addOne, cX12_addOne, 5, (some .int))
theorem cmX12_addOne : aw_cm mX12_addOne 4 := ⟨aw_mem 1092 (by decide +kernel) (by decide +kernel), aw_mem 88 (by decide +kernel) (by decide +kernel), ⟨(by decide +kernel), (by decide +kernel), (by decide +kernel)⟩, by decide⟩
abbrev mX12_one : aw_M := (yX12_one, cX12_one, 5, (some .int))
theorem cmX12_one : aw_cm mX12_one 4 := ⟨aw_mem 1077 (by decide +kernel) (by decide +kernel), aw_mem 88 (by decide +kernel) (by decide +kernel), ⟨(by decide +kernel), (by decide +kernel), (by decide +kernel)⟩, by decide⟩
abbrev mX12_hands : aw_M := (yX12_hands, cX12_hands, 5, (some .int))
theorem cmX12_hands : aw_cm mX12_hands 3 := ⟨aw_mem 1096 (by decide +kernel) (by decide +kernel), aw_mem 88 (by decide +kernel) (by decide +kernel), ⟨(by decide +kernel), (by decide +kernel), (by decide +kernel)⟩, by decide⟩
abbrev mX12_type : aw_M := (yX12_type, cX12_type, 2, (some .int))
theorem cmX12_type : aw_cm mX12_type 1 := ⟨aw_mem 1104 (by decide +kernel) (by decide +kernel), aw_mem 88 (by decide +kernel) (by decide +kernel), ⟨(by decide +kernel), (by decide +kernel), (by decide +kernel)⟩, by decide⟩
abbrev mX12_clear : aw_M := (yX12_clear, cX12_clear, 2, (some .int))
theorem cmX12_clear : aw_cm mX12_clear 0 := ⟨aw_mem 1108 (by decide +kernel) (by decide +kernel), aw_mem 88 (by decide +kernel) (by decide +kernel), ⟨(by decide +kernel), (by decide +kernel), (by decide +kernel)⟩, by decide⟩
abbrev mX12_here : aw_M := (yX12_here, cX12_here, 1, (some .int))
theorem cmX12_here : aw_cm mX12_here 0 := ⟨aw_mem 1124 (by decide +kernel) (by decide +kernel), aw_mem 88 (by decide +kernel) (by decide +kernel), ⟨(by decide +kernel), (by decide +kernel), (by decide +kernel)⟩, by decide⟩
abbrev mX12_skip : aw_M := (yX12_skip, cX12_skip, 1, none)
theorem cmX12_skip : aw_cm mX12_skip 0 := ⟨aw_mem 1120 (by decide +kernel) (by decide +kernel), aw_mem 88 (by decide +kernel) (by decide +kernel), ⟨(by decide +kernel), (by decide +kernel), (by decide +kernel)⟩, by decide⟩
abbrev mX12_isLetter : aw_M := (yX12_isLetter, cX12_isLetter, 1, (some .boolean))
theorem cmX12_isLetter : aw_cm mX12_isLetter 1 := ⟨aw_mem 1135 (by decide +kernel) (by decide +kernel), aw_mem 88 (by decide +kernel) (by decide +kernel), ⟨(by decide +kernel), (by decide +kernel), (by decide +kernel)⟩, by decide⟩
abbrev mX12_isFigure : aw_M := (yX12_isFigure, cX12_isFigure, 1, (some .boolean))
theorem cmX12_isFigure : aw_cm mX12_isFigure 1 := ⟨aw_mem 1162 (by decide +kernel) (by decide +kernel), aw_mem 88 (by decide +kernel) (by decide +kernel), ⟨(by decide +kernel), (by decide +kernel), (by decide +kernel)⟩, by decide⟩
abbrev mX12_wordSize : aw_M := (yX12_wordSize, cX12_wordSize, 2, (some .int))
theorem cmX12_wordSize : aw_cm mX12_wordSize 0 := ⟨aw_mem 1132 (by decide +kernel) (by decide +kernel), aw_mem 88 (by decide +kernel) (by decide +kernel), ⟨(by decide +kernel), (by decide +kernel), (by decide +kernel)⟩, by decide⟩
abbrev mX12_letter : aw_M := (yX12_letter, cX12_letter, 2, (some .int))
theorem cmX12_letter : aw_cm mX12_letter 1 := ⟨aw_mem 1143 (by decide +kernel) (by decide +kernel), aw_mem 88 (by decide +kernel) (by decide +kernel), ⟨(by decide +kernel), (by decide +kernel), (by decide +kernel)⟩, by decide⟩
abbrev mX12_spells : aw_M := (yX12_spells, cX12_spells, 5, (some .boolean))
theorem cmX12_spells : aw_cm mX12_spells 4 := ⟨aw_mem 1139 (by decide +kernel) (by decide +kernel), aw_mem 88 (by decide +kernel) (by decide +kernel), ⟨(by decide +kernel), (by decide +kernel), (by decide +kernel)⟩, by decide⟩
abbrev mX12_wordHere : aw_M := (yX12_wordHere, cX12_wordHere, 2, (some .int))
theorem cmX12_wordHere : aw_cm mX12_wordHere 0 := ⟨aw_mem 1128 (by decide +kernel) (by decide +kernel), aw_mem 88 (by decide +kernel) (by decide +kernel), ⟨(by decide +kernel), (by decide +kernel), (by decide +kernel)⟩, by decide⟩
abbrev mX12_number : aw_M := (yX12_number, cX12_number, 5, (some .boolean))
theorem cmX12_number : aw_cm mX12_number 2 := ⟨aw_mem 1159 (by decide +kernel) (by decide +kernel), aw_mem 88 (by decide +kernel) (by decide +kernel), ⟨(by decide +kernel), (by decide +kernel), (by decide +kernel)⟩, by decide⟩
abbrev mX12_ends : aw_M := (yX12_ends, cX12_ends, 1, (some .boolean))
theorem cmX12_ends : aw_cm mX12_ends 0 := ⟨aw_mem 1147 (by decide +kernel) (by decide +kernel), aw_mem 88 (by decide +kernel) (by decide +kernel), ⟨(by decide +kernel), (by decide +kernel), (by decide +kernel)⟩, by decide⟩
abbrev mX12_readsOne : aw_M := (yX12_readsOne, cX12_readsOne, 3, (some .boolean))
theorem cmX12_readsOne : aw_cm mX12_readsOne 0 := ⟨aw_mem 1155 (by decide +kernel) (by decide +kernel), aw_mem 88 (by decide +kernel) (by decide +kernel), ⟨(by decide +kernel), (by decide +kernel), (by decide +kernel)⟩, by decide⟩
abbrev mX12_readsHands : aw_M := (yX12_readsHands, cX12_readsHands, 4, (some .boolean))
theorem cmX12_readsHands : aw_cm mX12_readsHands 0 := ⟨aw_mem 1166 (by decide +kernel) (by decide +kernel), aw_mem 88 (by decide +kernel) (by decide +kernel), ⟨(by decide +kernel), (by decide +kernel), (by decide +kernel)⟩, by decide⟩
abbrev mX12_readsLie : aw_M := (yX12_readsLie, cX12_readsLie, 3, (some .boolean))
theorem cmX12_readsLie : aw_cm mX12_readsLie 0 := ⟨aw_mem 1170 (by decide +kernel) (by decide +kernel), aw_mem 88 (by decide +kernel) (by decide +kernel), ⟨(by decide +kernel), (by decide +kernel), (by decide +kernel)⟩, by decide⟩
abbrev mX12_readsItem : aw_M := (yX12_readsItem, cX12_readsItem, 2, (some .boolean))
theorem cmX12_readsItem : aw_cm mX12_readsItem 0 := ⟨aw_mem 1151 (by decide +kernel) (by decide +kernel), aw_mem 88 (by decide +kernel) (by decide +kernel), ⟨(by decide +kernel), (by decide +kernel), (by decide +kernel)⟩, by decide⟩
abbrev mX12_readsGold : aw_M := (yX12_readsGold, cX12_readsGold, 2, (some .int))
theorem cmX12_readsGold : aw_cm mX12_readsGold 0 := ⟨aw_mem 1116 (by decide +kernel) (by decide +kernel), aw_mem 88 (by decide +kernel) (by decide +kernel), ⟨(by decide +kernel), (by decide +kernel), (by decide +kernel)⟩, by decide⟩
abbrev mX12_read : aw_M := (yX12_read, cX12_read, 3, (some .int))
theorem cmX12_read : aw_cm mX12_read 0 := ⟨aw_mem 1112 (by decide +kernel) (by decide +kernel), aw_mem 88 (by decide +kernel) (by decide +kernel), ⟨(by decide +kernel), (by decide +kernel), (by decide +kernel)⟩, by decide⟩
abbrev mX12_weightBy : aw_M := (yX12_weightBy, cX12_weightBy, 4, (some .int))
theorem cmX12_weightBy : aw_cm mX12_weightBy 4 := ⟨aw_mem 1238 (by decide +kernel) (by decide +kernel), aw_mem 88 (by decide +kernel) (by decide +kernel), ⟨(by decide +kernel), (by decide +kernel), (by decide +kernel)⟩, by decide⟩
abbrev mX12_lieBy : aw_M := (yX12_lieBy, cX12_lieBy, 2, (some .int))
theorem cmX12_lieBy : aw_cm mX12_lieBy 2 := ⟨aw_mem 1173 (by decide +kernel) (by decide +kernel), aw_mem 88 (by decide +kernel) (by decide +kernel), ⟨(by decide +kernel), (by decide +kernel), (by decide +kernel)⟩, by decide⟩
abbrev mX12_weight : aw_M := (yX12_weight, cX12_weight, 3, (some .int))
theorem cmX12_weight : aw_cm mX12_weight 2 := ⟨aw_mem 1235 (by decide +kernel) (by decide +kernel), aw_mem 88 (by decide +kernel) (by decide +kernel), ⟨(by decide +kernel), (by decide +kernel), (by decide +kernel)⟩, by decide⟩
abbrev mX12_ownWeight : aw_M := (yX12_ownWeight, cX12_ownWeight, 2, (some .int))
theorem cmX12_ownWeight : aw_cm mX12_ownWeight 1 := ⟨aw_mem 1231 (by decide +kernel) (by decide +kernel), aw_mem 88 (by decide +kernel) (by decide +kernel), ⟨(by decide +kernel), (by decide +kernel), (by decide +kernel)⟩, by decide⟩
abbrev mX12_honestBehind : aw_M := (yX12_honestBehind, cX12_honestBehind, 4, (some .int))
theorem cmX12_honestBehind : aw_cm mX12_honestBehind 2 := ⟨aw_mem 1193 (by decide +kernel) (by decide +kernel), aw_mem 88 (by decide +kernel) (by decide +kernel), ⟨(by decide +kernel), (by decide +kernel), (by decide +kernel)⟩, by decide⟩
abbrev mX12_lays : aw_M := (yX12_lays, cX12_lays, 4, none)
theorem cmX12_lays : aw_cm mX12_lays 2 := ⟨aw_mem 1185 (by decide +kernel) (by decide +kernel), aw_mem 88 (by decide +kernel) (by decide +kernel), ⟨(by decide +kernel), (by decide +kernel), (by decide +kernel)⟩, by decide⟩
abbrev mX12_takes : aw_M := (yX12_takes, cX12_takes, 4, none)
theorem cmX12_takes : aw_cm mX12_takes 2 := ⟨aw_mem 1223 (by decide +kernel) (by decide +kernel), aw_mem 88 (by decide +kernel) (by decide +kernel), ⟨(by decide +kernel), (by decide +kernel), (by decide +kernel)⟩, by decide⟩
abbrev mX12_notes : aw_M := (yX12_notes, cX12_notes, 2, none)
theorem cmX12_notes : aw_cm mX12_notes 0 := ⟨aw_mem 1181 (by decide +kernel) (by decide +kernel), aw_mem 88 (by decide +kernel) (by decide +kernel), ⟨(by decide +kernel), (by decide +kernel), (by decide +kernel)⟩, by decide⟩
abbrev mX12_puts : aw_M := (yX12_puts, cX12_puts, 1, none)
theorem cmX12_puts : aw_cm mX12_puts 0 := ⟨aw_mem 1333 (by decide +kernel) (by decide +kernel), aw_mem 88 (by decide +kernel) (by decide +kernel), ⟨(by decide +kernel), (by decide +kernel), (by decide +kernel)⟩, by decide⟩
abbrev mX12_back : aw_M := (yX12_back, cX12_back, 1, none)
theorem cmX12_back : aw_cm mX12_back 0 := ⟨aw_mem 1345 (by decide +kernel) (by decide +kernel), aw_mem 88 (by decide +kernel) (by decide +kernel), ⟨(by decide +kernel), (by decide +kernel), (by decide +kernel)⟩, by decide⟩
abbrev mX12_lies : aw_M := (yX12_lies, cX12_lies, 3, none)
theorem cmX12_lies : aw_cm mX12_lies 2 := ⟨aw_mem 1189 (by decide +kernel) (by decide +kernel), aw_mem 88 (by decide +kernel) (by decide +kernel), ⟨(by decide +kernel), (by decide +kernel), (by decide +kernel)⟩, by decide⟩
abbrev mX12_pass : aw_M := (yX12_pass, cX12_pass, 2, none)
theorem cmX12_pass : aw_cm mX12_pass 0 := ⟨aw_mem 1212 (by decide +kernel) (by decide +kernel), aw_mem 88 (by decide +kernel) (by decide +kernel), ⟨(by decide +kernel), (by decide +kernel), (by decide +kernel)⟩, by decide⟩
abbrev mX12_lie : aw_M := (yX12_lie, cX12_lie, 3, (some .int))
theorem cmX12_lie : aw_cm mX12_lie 2 := ⟨aw_mem 1177 (by decide +kernel) (by decide +kernel), aw_mem 88 (by decide +kernel) (by decide +kernel), ⟨(by decide +kernel), (by decide +kernel), (by decide +kernel)⟩, by decide⟩
abbrev mX12_give : aw_M := (yX12_give, cX12_give, 4, (some .int))
theorem cmX12_give : aw_cm mX12_give 3 := ⟨aw_mem 1197 (by decide +kernel) (by decide +kernel), aw_mem 88 (by decide +kernel) (by decide +kernel), ⟨(by decide +kernel), (by decide +kernel), (by decide +kernel)⟩, by decide⟩
abbrev mX12_day : aw_M := (yX12_day, cX12_day, 1, (some .int))
theorem cmX12_day : aw_cm mX12_day 0 := ⟨aw_mem 1208 (by decide +kernel) (by decide +kernel), aw_mem 88 (by decide +kernel) (by decide +kernel), ⟨(by decide +kernel), (by decide +kernel), (by decide +kernel)⟩, by decide⟩
abbrev mX12_undo : aw_M := (yX12_undo, cX12_undo, 1, (some .int))
theorem cmX12_undo : aw_cm mX12_undo 0 := ⟨aw_mem 1219 (by decide +kernel) (by decide +kernel), aw_mem 88 (by decide +kernel) (by decide +kernel), ⟨(by decide +kernel), (by decide +kernel), (by decide +kernel)⟩, by decide⟩
abbrev mX12_of : aw_M := (yX12_of, cX12_of, 3, (some .int))
theorem cmX12_of : aw_cm mX12_of 2 := ⟨aw_mem 1227 (by decide +kernel) (by decide +kernel), aw_mem 88 (by decide +kernel) (by decide +kernel), ⟨(by decide +kernel), (by decide +kernel), (by decide +kernel)⟩, by decide⟩
abbrev mX12_weighs : aw_M := (yX12_weighs, cX12_weighs, 3, (some .int))
theorem cmX12_weighs : aw_cm mX12_weighs 2 := ⟨aw_mem 1242 (by decide +kernel) (by decide +kernel), aw_mem 88 (by decide +kernel) (by decide +kernel), ⟨(by decide +kernel), (by decide +kernel), (by decide +kernel)⟩, by decide⟩
abbrev mX12_all : aw_M := (yX12_all, cX12_all, 3, (some .int))
theorem cmX12_all : aw_cm mX12_all 0 := ⟨aw_mem 1246 (by decide +kernel) (by decide +kernel), aw_mem 88 (by decide +kernel) (by decide +kernel), ⟨(by decide +kernel), (by decide +kernel), (by decide +kernel)⟩, by decide⟩
abbrev mX12_when : aw_M := (yX12_when, cX12_when, 6, (some .int))
theorem cmX12_when : aw_cm mX12_when 2 := ⟨aw_mem 1250 (by decide +kernel) (by decide +kernel), aw_mem 88 (by decide +kernel) (by decide +kernel), ⟨(by decide +kernel), (by decide +kernel), (by decide +kernel)⟩, by decide⟩
abbrev mX12_setSteps : aw_M := (yX12_setSteps, cX12_setSteps, 9, (some .int))
theorem cmX12_setSteps : aw_cm mX12_setSteps 4 := ⟨aw_mem 1262 (by decide +kernel) (by decide +kernel), aw_mem 88 (by decide +kernel) (by decide +kernel), ⟨(by decide +kernel), (by decide +kernel), (by decide +kernel)⟩, by decide⟩
abbrev mX12_bag : aw_M := (yX12_bag, cX12_bag, 11, (some .int))
theorem cmX12_bag : aw_cm mX12_bag 4 := ⟨aw_mem 1254 (by decide +kernel) (by decide +kernel), aw_mem 88 (by decide +kernel) (by decide +kernel), ⟨(by decide +kernel), (by decide +kernel), (by decide +kernel)⟩, by decide⟩
abbrev mX12_debt : aw_M := (yX12_debt, cX12_debt, 4, (some .int))
theorem cmX12_debt : aw_cm mX12_debt 2 := ⟨aw_mem 1267 (by decide +kernel) (by decide +kernel), aw_mem 88 (by decide +kernel) (by decide +kernel), ⟨(by decide +kernel), (by decide +kernel), (by decide +kernel)⟩, by decide⟩
abbrev mX12_hire : aw_M := (yX12_hire, cX12_hire, 10, (some .int))
theorem cmX12_hire : aw_cm mX12_hire 3 := ⟨aw_mem 1271 (by decide +kernel) (by decide +kernel), aw_mem 88 (by decide +kernel) (by decide +kernel), ⟨(by decide +kernel), (by decide +kernel), (by decide +kernel)⟩, by decide⟩
abbrev mX12_nextBags : aw_M := (yX12_nextBags, cX12_nextBags, 6, (some .boolean))
theorem cmX12_nextBags : aw_cm mX12_nextBags 0 := ⟨aw_mem 1279 (by decide +kernel) (by decide +kernel), aw_mem 88 (by decide +kernel) (by decide +kernel), ⟨(by decide +kernel), (by decide +kernel), (by decide +kernel)⟩, by decide⟩
abbrev mX12_shelves : aw_M := (yX12_shelves, cX12_shelves, 8, (some .int))
theorem cmX12_shelves : aw_cm mX12_shelves 3 := ⟨aw_mem 1275 (by decide +kernel) (by decide +kernel), aw_mem 88 (by decide +kernel) (by decide +kernel), ⟨(by decide +kernel), (by decide +kernel), (by decide +kernel)⟩, by decide⟩
abbrev mX12_note : aw_M := (yX12_note, cX12_note, 5, (some .int))
theorem cmX12_note : aw_cm mX12_note 4 := ⟨aw_mem 1283 (by decide +kernel) (by decide +kernel), aw_mem 88 (by decide +kernel) (by decide +kernel), ⟨(by decide +kernel), (by decide +kernel), (by decide +kernel)⟩, by decide⟩
abbrev mX12_forget : aw_M := (yX12_forget, cX12_forget, 2, (some .int))
theorem cmX12_forget : aw_cm mX12_forget 0 := ⟨aw_mem 1287 (by decide +kernel) (by decide +kernel), aw_mem 88 (by decide +kernel) (by decide +kernel), ⟨(by decide +kernel), (by decide +kernel), (by decide +kernel)⟩, by decide⟩
abbrev mX12_isSo : aw_M := (yX12_isSo, cX12_isSo, 7, (some .boolean))
theorem cmX12_isSo : aw_cm mX12_isSo 3 := ⟨aw_mem 1299 (by decide +kernel) (by decide +kernel), aw_mem 88 (by decide +kernel) (by decide +kernel), ⟨(by decide +kernel), (by decide +kernel), (by decide +kernel)⟩, by decide⟩
abbrev mX12_kindsOf : aw_M := (yX12_kindsOf, cX12_kindsOf, 4, (some .int))
theorem cmX12_kindsOf : aw_cm mX12_kindsOf 1 := ⟨aw_mem 1295 (by decide +kernel) (by decide +kernel), aw_mem 88 (by decide +kernel) (by decide +kernel), ⟨(by decide +kernel), (by decide +kernel), (by decide +kernel)⟩, by decide⟩
abbrev mX12_is : aw_M := (yX12_is, cX12_is, 5, (some .int))
theorem cmX12_is : aw_cm mX12_is 2 := ⟨aw_mem 1291 (by decide +kernel) (by decide +kernel), aw_mem 88 (by decide +kernel) (by decide +kernel), ⟨(by decide +kernel), (by decide +kernel), (by decide +kernel)⟩, by decide⟩
abbrev mX12_alike : aw_M := (yX12_alike, cX12_alike, 9, (some .int))
theorem cmX12_alike : aw_cm mX12_alike 3 := ⟨aw_mem 1307 (by decide +kernel) (by decide +kernel), aw_mem 88 (by decide +kernel) (by decide +kernel), ⟨(by decide +kernel), (by decide +kernel), (by decide +kernel)⟩, by decide⟩
abbrev mX12_next : aw_M := (yX12_next, cX12_next, 5, (some .int))
theorem cmX12_next : aw_cm mX12_next 1 := ⟨aw_mem 1303 (by decide +kernel) (by decide +kernel), aw_mem 88 (by decide +kernel) (by decide +kernel), ⟨(by decide +kernel), (by decide +kernel), (by decide +kernel)⟩, by decide⟩
abbrev mX12_gets : aw_M := (yX12_gets, cX12_gets, 5, (some .int))
theorem cmX12_gets : aw_cm mX12_gets 3 := ⟨aw_mem 1315 (by decide +kernel) (by decide +kernel), aw_mem 88 (by decide +kernel) (by decide +kernel), ⟨(by decide +kernel), (by decide +kernel), (by decide +kernel)⟩, by decide⟩
abbrev mX12_two : aw_M := (yX12_two, cX12_two, 8, (some .int))
theorem cmX12_two : aw_cm mX12_two 2 := ⟨aw_mem 1311 (by decide +kernel) (by decide +kernel), aw_mem 88 (by decide +kernel) (by decide +kernel), ⟨(by decide +kernel), (by decide +kernel), (by decide +kernel)⟩, by decide⟩
abbrev mX12_lay : aw_M := (yX12_lay, cX12_lay, 11, none)
theorem cmX12_lay : aw_cm mX12_lay 2 := ⟨aw_mem 1324 (by decide +kernel) (by decide +kernel), aw_mem 88 (by decide +kernel) (by decide +kernel), ⟨(by decide +kernel), (by decide +kernel), (by decide +kernel)⟩, by decide⟩
abbrev mX12_winds : aw_M := (yX12_winds, cX12_winds, 5, (some .int))
theorem cmX12_winds : aw_cm mX12_winds 2 := ⟨aw_mem 1319 (by decide +kernel) (by decide +kernel), aw_mem 88 (by decide +kernel) (by decide +kernel), ⟨(by decide +kernel), (by decide +kernel), (by decide +kernel)⟩, by decide⟩
abbrev mX12_years : aw_M := (yX12_years, cX12_years, 8, (some .int))
theorem cmX12_years : aw_cm mX12_years 2 := ⟨aw_mem 1328 (by decide +kernel) (by decide +kernel), aw_mem 88 (by decide +kernel) (by decide +kernel), ⟨(by decide +kernel), (by decide +kernel), (by decide +kernel)⟩, by decide⟩
abbrev mX12_part : aw_M := (yX12_part, cX12_part, 2, (some .long))
theorem cmX12_part : aw_cm mX12_part 1 := ⟨aw_mem 1349 (by decide +kernel) (by decide +kernel), aw_mem 88 (by decide +kernel) (by decide +kernel), ⟨(by decide +kernel), (by decide +kernel), (by decide +kernel)⟩, by decide⟩
abbrev mX12_image : aw_M := (yX12_image, cX12_image, 4, (some .int))
theorem cmX12_image : aw_cm mX12_image 1 := ⟨aw_mem 1353 (by decide +kernel) (by decide +kernel), aw_mem 88 (by decide +kernel) (by decide +kernel), ⟨(by decide +kernel), (by decide +kernel), (by decide +kernel)⟩, by decide⟩
abbrev mX12_from : aw_M := (yX12_from, cX12_from, 4, (some .int))
theorem cmX12_from : aw_cm mX12_from 1 := ⟨aw_mem 1357 (by decide +kernel) (by decide +kernel), aw_mem 88 (by decide +kernel) (by decide +kernel), ⟨(by decide +kernel), (by decide +kernel), (by decide +kernel)⟩, by decide⟩
abbrev mX12_status : aw_M := (yX12_status, cX12_status, 2, (some .int))
theorem cmX12_status : aw_cm mX12_status 1 := ⟨aw_mem 1361 (by decide +kernel) (by decide +kernel), aw_mem 88 (by decide +kernel) (by decide +kernel), ⟨(by decide +kernel), (by decide +kernel), (by decide +kernel)⟩, by decide⟩
abbrev mX12_bits : aw_M := (yX12_bits, cX12_bits, 3, (some .int))
theorem cmX12_bits : aw_cm mX12_bits 1 := ⟨aw_mem 1376 (by decide +kernel) (by decide +kernel), aw_mem 88 (by decide +kernel) (by decide +kernel), ⟨(by decide +kernel), (by decide +kernel), (by decide +kernel)⟩, by decide⟩
abbrev mX12_allPieces : aw_M := (yX12_allPieces, cX12_allPieces, 3, (some .int))
theorem cmX12_allPieces : aw_cm mX12_allPieces 0 := ⟨aw_mem 1373 (by decide +kernel) (by decide +kernel), aw_mem 88 (by decide +kernel) (by decide +kernel), ⟨(by decide +kernel), (by decide +kernel), (by decide +kernel)⟩, by decide⟩
abbrev mX12_countOf : aw_M := (yX12_countOf, cX12_countOf, 2, (some .int))
theorem cmX12_countOf : aw_cm mX12_countOf 1 := ⟨aw_mem 1369 (by decide +kernel) (by decide +kernel), aw_mem 88 (by decide +kernel) (by decide +kernel), ⟨(by decide +kernel), (by decide +kernel), (by decide +kernel)⟩, by decide⟩
abbrev mX12_count : aw_M := (yX12_count, cX12_count, 2, (some .int))
theorem cmX12_count : aw_cm mX12_count 1 := ⟨aw_mem 1365 (by decide +kernel) (by decide +kernel), aw_mem 88 (by decide +kernel) (by decide +kernel), ⟨(by decide +kernel), (by decide +kernel), (by decide +kernel)⟩, by decide⟩
abbrev mX12_mix : aw_M := (yX12_mix, cX12_mix, 3, none)
theorem cmX12_mix : aw_cm mX12_mix 1 := ⟨aw_mem 1385 (by decide +kernel) (by decide +kernel), aw_mem 88 (by decide +kernel) (by decide +kernel), ⟨(by decide +kernel), (by decide +kernel), (by decide +kernel)⟩, by decide⟩
abbrev mX12_digest : aw_M := (yX12_digest, cX12_digest, 2, (some .long))
theorem cmX12_digest : aw_cm mX12_digest 0 := ⟨aw_mem 1380 (by decide +kernel) (by decide +kernel), aw_mem 88 (by decide +kernel) (by decide +kernel), ⟨(by decide +kernel), (by decide +kernel), (by decide +kernel)⟩, by decide⟩
abbrev mJ6_bitCount_0f7a4 : aw_M := (yJ6_bitCount_0f7a4, cJ6_bitCount_0f7a4, 1, (some .int))
theorem cmJ6_bitCount_0f7a4 : aw_cm mJ6_bitCount_0f7a4 1 := ⟨aw_mem 799 (by decide +kernel) (by decide +kernel), aw_mem 94 (by decide +kernel) (by decide +kernel), ⟨(by decide +kernel), (by decide +kernel), (by decide +kernel)⟩, by decide⟩
abbrev mJ9_max_7cf53 : aw_M := (yJ9_max_7cf53, cJ9_max_7cf53, 2, (some .int))
theorem cmJ9_max_7cf53 : aw_cm mJ9_max_7cf53 2 := ⟨aw_mem 541 (by decide +kernel) (by decide +kernel), aw_mem 93 (by decide +kernel) (by decide +kernel), ⟨(by decide +kernel), (by decide +kernel), (by decide +kernel)⟩, by decide⟩
abbrev mJ9_min_7cf53 : aw_M := (yJ9_min_7cf53, cJ9_min_7cf53, 2, (some .int))
theorem cmJ9_min_7cf53 : aw_cm mJ9_min_7cf53 2 := ⟨aw_mem 615 (by decide +kernel) (by decide +kernel), aw_mem 93 (by decide +kernel) (by decide +kernel), ⟨(by decide +kernel), (by decide +kernel), (by decide +kernel)⟩, by decide⟩
abbrev mJ0_length_8abf5 : aw_M := (yJ0_length_8abf5, cJ0_length_8abf5, 1, (some .int))
theorem cmJ0_length_8abf5 : aw_cm mJ0_length_8abf5 0 := ⟨aw_mem 425 (by decide +kernel) (by decide +kernel), aw_mem 89 (by decide +kernel) (by decide +kernel), ⟨(by decide +kernel), (by decide +kernel), (by decide +kernel)⟩, by decide⟩
abbrev mJ0_charAt_5068e : aw_M := (yJ0_charAt_5068e, cJ0_charAt_5068e, 2, (some .char))
theorem cmJ0_charAt_5068e : aw_cm mJ0_charAt_5068e 1 := ⟨aw_mem 435 (by decide +kernel) (by decide +kernel), aw_mem 89 (by decide +kernel) (by decide +kernel), ⟨(by decide +kernel), (by decide +kernel), (by decide +kernel)⟩, by decide⟩
abbrev mJ0_coder_7d493 : aw_M := (yJ0_coder_7d493, cJ0_coder_7d493, 1, (some .byte))
theorem cmJ0_coder_7d493 : aw_cm mJ0_coder_7d493 0 := ⟨aw_mem 429 (by decide +kernel) (by decide +kernel), aw_mem 89 (by decide +kernel) (by decide +kernel), ⟨(by decide +kernel), (by decide +kernel), (by decide +kernel)⟩, by decide⟩
abbrev mJ0_isLatin1_aae02 : aw_M := (yJ0_isLatin1_aae02, cJ0_isLatin1_aae02, 1, (some .boolean))
theorem cmJ0_isLatin1_aae02 : aw_cm mJ0_isLatin1_aae02 0 := ⟨aw_mem 439 (by decide +kernel) (by decide +kernel), aw_mem 89 (by decide +kernel) (by decide +kernel), ⟨(by decide +kernel), (by decide +kernel), (by decide +kernel)⟩, by decide⟩
abbrev mJ0_checkIndex_df160 : aw_M := (yJ0_checkIndex_df160, cJ0_checkIndex_df160, 2, none)
theorem cmJ0_checkIndex_df160 : aw_cm mJ0_checkIndex_df160 2 := ⟨aw_mem 445 (by decide +kernel) (by decide +kernel), aw_mem 89 (by decide +kernel) (by decide +kernel), ⟨(by decide +kernel), (by decide +kernel), (by decide +kernel)⟩, by decide⟩
abbrev mJ1_charAt_3b067 : aw_M := (yJ1_charAt_3b067, cJ1_charAt_3b067, 2, (some .char))
theorem cmJ1_charAt_3b067 : aw_cm mJ1_charAt_3b067 2 := ⟨aw_mem 442 (by decide +kernel) (by decide +kernel), aw_mem 90 (by decide +kernel) (by decide +kernel), ⟨(by decide +kernel), (by decide +kernel), (by decide +kernel)⟩, by decide⟩
abbrev mJ2_getChar_3b067 : aw_M := (yJ2_getChar_3b067, cJ2_getChar_3b067, 2, (some .char))
theorem cmJ2_getChar_3b067 : aw_cm mJ2_getChar_3b067 2 := ⟨aw_mem 463 (by decide +kernel) (by decide +kernel), aw_mem 92 (by decide +kernel) (by decide +kernel), ⟨(by decide +kernel), (by decide +kernel), (by decide +kernel)⟩, by decide⟩
abbrev mJ2_length_9d52b : aw_M := (yJ2_length_9d52b, cJ2_length_9d52b, 1, (some .int))
theorem cmJ2_length_9d52b : aw_cm mJ2_length_9d52b 1 := ⟨aw_mem 459 (by decide +kernel) (by decide +kernel), aw_mem 92 (by decide +kernel) (by decide +kernel), ⟨(by decide +kernel), (by decide +kernel), (by decide +kernel)⟩, by decide⟩
abbrev mJ2_charAt_3b067 : aw_M := (yJ2_charAt_3b067, cJ2_charAt_3b067, 2, (some .char))
theorem cmJ2_charAt_3b067 : aw_cm mJ2_charAt_3b067 2 := ⟨aw_mem 453 (by decide +kernel) (by decide +kernel), aw_mem 92 (by decide +kernel) (by decide +kernel), ⟨(by decide +kernel), (by decide +kernel), (by decide +kernel)⟩, by decide⟩
abbrev mJ2_checkIndex_2214a : aw_M := (yJ2_checkIndex_2214a, cJ2_checkIndex_2214a, 2, none)
theorem cmJ2_checkIndex_2214a : aw_cm mJ2_checkIndex_2214a 2 := ⟨aw_mem 456 (by decide +kernel) (by decide +kernel), aw_mem 92 (by decide +kernel) (by decide +kernel), ⟨(by decide +kernel), (by decide +kernel), (by decide +kernel)⟩, by decide⟩
abbrev mJ3_checkIndex_8e157 : aw_M := (yJ3_checkIndex_8e157, cJ3_checkIndex_8e157, 3, (some .int))
theorem cmJ3_checkIndex_8e157 : aw_cm mJ3_checkIndex_8e157 3 := ⟨aw_mem 450 (by decide +kernel) (by decide +kernel), aw_mem 91 (by decide +kernel) (by decide +kernel), ⟨(by decide +kernel), (by decide +kernel), (by decide +kernel)⟩, by decide⟩
abbrev mL_law : aw_M := (yL_law, cL_law, 4, (some .boolean))
theorem flX4_9 : aw_fl RX4 9 4 0 := ⟨RX4, TX4, 5, rfl, by decide, inX4, aw_mem 158 (by decide +kernel) (by decide +kernel)⟩
theorem fpX4_9 : aw_fp RX4 9 4 0 true (.array .int) := ⟨RX4, TX4, 5, tyX4, rfl, by decide, inX4, aw_mem 158 (by decide +kernel) (by decide +kernel), rfl, (by decide +kernel), tyX4_ok, nmX4, fun _ => rfl⟩
theorem flX4_15 : aw_fl RX4 15 4 1 := ⟨RX4, TX4, 5, rfl, by decide, inX4, aw_mem 159 (by decide +kernel) (by decide +kernel)⟩
theorem fpX4_15 : aw_fp RX4 15 4 1 true (.array .int) := ⟨RX4, TX4, 5, tyX4, rfl, by decide, inX4, aw_mem 159 (by decide +kernel) (by decide +kernel), rfl, (by decide +kernel), tyX4_ok, nmX4, fun _ => rfl⟩
theorem flX4_18 : aw_fl RX4 18 4 2 := ⟨RX4, TX4, 5, rfl, by decide, inX4, aw_mem 160 (by decide +kernel) (by decide +kernel)⟩
theorem fpX4_18 : aw_fp RX4 18 4 2 true (.array .int) := ⟨RX4, TX4, 5, tyX4, rfl, by decide, inX4, aw_mem 160 (by decide +kernel) (by decide +kernel), rfl, (by decide +kernel), tyX4_ok, nmX4, fun _ => rfl⟩
theorem flX4_21 : aw_fl RX4 21 4 3 := ⟨RX4, TX4, 5, rfl, by decide, inX4, aw_mem 161 (by decide +kernel) (by decide +kernel)⟩
theorem fpX4_21 : aw_fp RX4 21 4 3 true (.array .int) := ⟨RX4, TX4, 5, tyX4, rfl, by decide, inX4, aw_mem 161 (by decide +kernel) (by decide +kernel), rfl, (by decide +kernel), tyX4_ok, nmX4, fun _ => rfl⟩
theorem flX4_24 : aw_fl RX4 24 4 4 := ⟨RX4, TX4, 5, rfl, by decide, inX4, aw_mem 162 (by decide +kernel) (by decide +kernel)⟩
theorem fpX4_24 : aw_fp RX4 24 4 4 false .int := ⟨RX4, TX4, 5, tyX4, rfl, by decide, inX4, aw_mem 162 (by decide +kernel) (by decide +kernel), rfl, (by decide +kernel), tyX4_ok, nmX4, fun h => by cases h⟩
theorem flX5_11 : aw_fl RX5 11 5 0 := ⟨RX5, TX5, 2, rfl, by decide, inX5, aw_mem 181 (by decide +kernel) (by decide +kernel)⟩
theorem fpX5_11 : aw_fp RX5 11 5 0 true (.array .int) := ⟨RX5, TX5, 2, tyX5, rfl, by decide, inX5, aw_mem 181 (by decide +kernel) (by decide +kernel), rfl, (by decide +kernel), tyX5_ok, nmX5, fun _ => rfl⟩
theorem flX5_15 : aw_fl RX5 15 5 1 := ⟨RX5, TX5, 2, rfl, by decide, inX5, aw_mem 182 (by decide +kernel) (by decide +kernel)⟩
theorem fpX5_15 : aw_fp RX5 15 5 1 false .int := ⟨RX5, TX5, 2, tyX5, rfl, by decide, inX5, aw_mem 182 (by decide +kernel) (by decide +kernel), rfl, (by decide +kernel), tyX5_ok, nmX5, fun h => by cases h⟩
theorem flX9_12 : aw_fl RX9 12 9 0 := ⟨RX9, TX9, 12, rfl, by decide, inX9, aw_mem 188 (by decide +kernel) (by decide +kernel)⟩
theorem fpX9_12 : aw_fp RX9 12 9 0 true (.object "HonestGold$Plain") := ⟨RX9, TX9, 12, tyX9, rfl, by decide, inX9, aw_mem 188 (by decide +kernel) (by decide +kernel), rfl, (by decide +kernel), tyX9_ok, nmX9, fun _ => rfl⟩
theorem flX9_33 : aw_fl RX9 33 9 1 := ⟨RX9, TX9, 12, rfl, by decide, inX9, aw_mem 189 (by decide +kernel) (by decide +kernel)⟩
theorem fpX9_33 : aw_fp RX9 33 9 1 true (.array (.object "HonestGold$Plain")) := ⟨RX9, TX9, 12, tyX9, rfl, by decide, inX9, aw_mem 189 (by decide +kernel) (by decide +kernel), rfl, (by decide +kernel), tyX9_ok, nmX9, fun _ => rfl⟩
theorem flX9_37 : aw_fl RX9 37 9 2 := ⟨RX9, TX9, 12, rfl, by decide, inX9, aw_mem 190 (by decide +kernel) (by decide +kernel)⟩
theorem fpX9_37 : aw_fp RX9 37 9 2 true (.array .int) := ⟨RX9, TX9, 12, tyX9, rfl, by decide, inX9, aw_mem 190 (by decide +kernel) (by decide +kernel), rfl, (by decide +kernel), tyX9_ok, nmX9, fun _ => rfl⟩
theorem flX9_41 : aw_fl RX9 41 9 3 := ⟨RX9, TX9, 12, rfl, by decide, inX9, aw_mem 191 (by decide +kernel) (by decide +kernel)⟩
theorem fpX9_41 : aw_fp RX9 41 9 3 true (.array .int) := ⟨RX9, TX9, 12, tyX9, rfl, by decide, inX9, aw_mem 191 (by decide +kernel) (by decide +kernel), rfl, (by decide +kernel), tyX9_ok, nmX9, fun _ => rfl⟩
theorem flX9_44 : aw_fl RX9 44 9 4 := ⟨RX9, TX9, 12, rfl, by decide, inX9, aw_mem 192 (by decide +kernel) (by decide +kernel)⟩
theorem fpX9_44 : aw_fp RX9 44 9 4 true (.array .int) := ⟨RX9, TX9, 12, tyX9, rfl, by decide, inX9, aw_mem 192 (by decide +kernel) (by decide +kernel), rfl, (by decide +kernel), tyX9_ok, nmX9, fun _ => rfl⟩
theorem flX9_47 : aw_fl RX9 47 9 5 := ⟨RX9, TX9, 12, rfl, by decide, inX9, aw_mem 193 (by decide +kernel) (by decide +kernel)⟩
theorem fpX9_47 : aw_fp RX9 47 9 5 true (.array .int) := ⟨RX9, TX9, 12, tyX9, rfl, by decide, inX9, aw_mem 193 (by decide +kernel) (by decide +kernel), rfl, (by decide +kernel), tyX9_ok, nmX9, fun _ => rfl⟩
theorem flX9_50 : aw_fl RX9 50 9 6 := ⟨RX9, TX9, 12, rfl, by decide, inX9, aw_mem 194 (by decide +kernel) (by decide +kernel)⟩
theorem fpX9_50 : aw_fp RX9 50 9 6 true (.array .int) := ⟨RX9, TX9, 12, tyX9, rfl, by decide, inX9, aw_mem 194 (by decide +kernel) (by decide +kernel), rfl, (by decide +kernel), tyX9_ok, nmX9, fun _ => rfl⟩
theorem flX9_56 : aw_fl RX9 56 9 7 := ⟨RX9, TX9, 12, rfl, by decide, inX9, aw_mem 195 (by decide +kernel) (by decide +kernel)⟩
theorem fpX9_56 : aw_fp RX9 56 9 7 true (.object "HonestGold$Notes") := ⟨RX9, TX9, 12, tyX9, rfl, by decide, inX9, aw_mem 195 (by decide +kernel) (by decide +kernel), rfl, (by decide +kernel), tyX9_ok, nmX9, fun _ => rfl⟩
theorem flX9_63 : aw_fl RX9 63 9 8 := ⟨RX9, TX9, 12, rfl, by decide, inX9, aw_mem 196 (by decide +kernel) (by decide +kernel)⟩
theorem fpX9_63 : aw_fp RX9 63 9 8 true (.object "HonestGold$Past") := ⟨RX9, TX9, 12, tyX9, rfl, by decide, inX9, aw_mem 196 (by decide +kernel) (by decide +kernel), rfl, (by decide +kernel), tyX9_ok, nmX9, fun _ => rfl⟩
theorem flX9_67 : aw_fl RX9 67 9 9 := ⟨RX9, TX9, 12, rfl, by decide, inX9, aw_mem 197 (by decide +kernel) (by decide +kernel)⟩
theorem fpX9_67 : aw_fp RX9 67 9 9 false .int := ⟨RX9, TX9, 12, tyX9, rfl, by decide, inX9, aw_mem 197 (by decide +kernel) (by decide +kernel), rfl, (by decide +kernel), tyX9_ok, nmX9, fun h => by cases h⟩
theorem flX9_71 : aw_fl RX9 71 9 10 := ⟨RX9, TX9, 12, rfl, by decide, inX9, aw_mem 198 (by decide +kernel) (by decide +kernel)⟩
theorem fpX9_71 : aw_fp RX9 71 9 10 false .int := ⟨RX9, TX9, 12, tyX9, rfl, by decide, inX9, aw_mem 198 (by decide +kernel) (by decide +kernel), rfl, (by decide +kernel), tyX9_ok, nmX9, fun h => by cases h⟩
theorem flX9_74 : aw_fl RX9 74 9 11 := ⟨RX9, TX9, 12, rfl, by decide, inX9, aw_mem 199 (by decide +kernel) (by decide +kernel)⟩
theorem fpX9_74 : aw_fp RX9 74 9 11 false .int := ⟨RX9, TX9, 12, tyX9, rfl, by decide, inX9, aw_mem 199 (by decide +kernel) (by decide +kernel), rfl, (by decide +kernel), tyX9_ok, nmX9, fun h => by cases h⟩
theorem flX7_9 : aw_fl RX7 9 7 0 := ⟨RX7, TX7, 7, rfl, by decide, inX7, aw_mem 232 (by decide +kernel) (by decide +kernel)⟩
theorem fpX7_9 : aw_fp RX7 9 7 0 true (.array .int) := ⟨RX7, TX7, 7, tyX7, rfl, by decide, inX7, aw_mem 232 (by decide +kernel) (by decide +kernel), rfl, (by decide +kernel), tyX7_ok, nmX7, fun _ => rfl⟩
theorem flX7_19 : aw_fl RX7 19 7 1 := ⟨RX7, TX7, 7, rfl, by decide, inX7, aw_mem 233 (by decide +kernel) (by decide +kernel)⟩
theorem fpX7_19 : aw_fp RX7 19 7 1 false .int := ⟨RX7, TX7, 7, tyX7, rfl, by decide, inX7, aw_mem 233 (by decide +kernel) (by decide +kernel), rfl, (by decide +kernel), tyX7_ok, nmX7, fun h => by cases h⟩
theorem flX7_89 : aw_fl RX7 89 7 2 := ⟨RX7, TX7, 7, rfl, by decide, inX7, aw_mem 234 (by decide +kernel) (by decide +kernel)⟩
theorem fpX7_89 : aw_fp RX7 89 7 2 false .int := ⟨RX7, TX7, 7, tyX7, rfl, by decide, inX7, aw_mem 234 (by decide +kernel) (by decide +kernel), rfl, (by decide +kernel), tyX7_ok, nmX7, fun h => by cases h⟩
theorem flX7_27 : aw_fl RX7 27 7 3 := ⟨RX7, TX7, 7, rfl, by decide, inX7, aw_mem 235 (by decide +kernel) (by decide +kernel)⟩
theorem fpX7_27 : aw_fp RX7 27 7 3 false .int := ⟨RX7, TX7, 7, tyX7, rfl, by decide, inX7, aw_mem 235 (by decide +kernel) (by decide +kernel), rfl, (by decide +kernel), tyX7_ok, nmX7, fun h => by cases h⟩
theorem flX7_36 : aw_fl RX7 36 7 4 := ⟨RX7, TX7, 7, rfl, by decide, inX7, aw_mem 236 (by decide +kernel) (by decide +kernel)⟩
theorem fpX7_36 : aw_fp RX7 36 7 4 false .int := ⟨RX7, TX7, 7, tyX7, rfl, by decide, inX7, aw_mem 236 (by decide +kernel) (by decide +kernel), rfl, (by decide +kernel), tyX7_ok, nmX7, fun h => by cases h⟩
theorem flX7_79 : aw_fl RX7 79 7 5 := ⟨RX7, TX7, 7, rfl, by decide, inX7, aw_mem 237 (by decide +kernel) (by decide +kernel)⟩
theorem fpX7_79 : aw_fp RX7 79 7 5 false .int := ⟨RX7, TX7, 7, tyX7, rfl, by decide, inX7, aw_mem 237 (by decide +kernel) (by decide +kernel), rfl, (by decide +kernel), tyX7_ok, nmX7, fun h => by cases h⟩
theorem flX7_15 : aw_fl RX7 15 7 6 := ⟨RX7, TX7, 7, rfl, by decide, inX7, aw_mem 238 (by decide +kernel) (by decide +kernel)⟩
theorem fpX7_15 : aw_fp RX7 15 7 6 false .int := ⟨RX7, TX7, 7, tyX7, rfl, by decide, inX7, aw_mem 238 (by decide +kernel) (by decide +kernel), rfl, (by decide +kernel), tyX7_ok, nmX7, fun h => by cases h⟩
theorem flX10_9 : aw_fl RX10 9 10 0 := ⟨RX10, TX10, 4, rfl, by decide, inX10, aw_mem 260 (by decide +kernel) (by decide +kernel)⟩
theorem fpX10_9 : aw_fp RX10 9 10 0 true (.array .int) := ⟨RX10, TX10, 4, tyX10, rfl, by decide, inX10, aw_mem 260 (by decide +kernel) (by decide +kernel), rfl, (by decide +kernel), tyX10_ok, nmX10, fun _ => rfl⟩
theorem flX10_15 : aw_fl RX10 15 10 1 := ⟨RX10, TX10, 4, rfl, by decide, inX10, aw_mem 261 (by decide +kernel) (by decide +kernel)⟩
theorem fpX10_15 : aw_fp RX10 15 10 1 true (.array .int) := ⟨RX10, TX10, 4, tyX10, rfl, by decide, inX10, aw_mem 261 (by decide +kernel) (by decide +kernel), rfl, (by decide +kernel), tyX10_ok, nmX10, fun _ => rfl⟩
theorem flX10_18 : aw_fl RX10 18 10 2 := ⟨RX10, TX10, 4, rfl, by decide, inX10, aw_mem 262 (by decide +kernel) (by decide +kernel)⟩
theorem fpX10_18 : aw_fp RX10 18 10 2 true (.array .int) := ⟨RX10, TX10, 4, tyX10, rfl, by decide, inX10, aw_mem 262 (by decide +kernel) (by decide +kernel), rfl, (by decide +kernel), tyX10_ok, nmX10, fun _ => rfl⟩
theorem flX10_21 : aw_fl RX10 21 10 3 := ⟨RX10, TX10, 4, rfl, by decide, inX10, aw_mem 263 (by decide +kernel) (by decide +kernel)⟩
theorem fpX10_21 : aw_fp RX10 21 10 3 true (.array .int) := ⟨RX10, TX10, 4, tyX10, rfl, by decide, inX10, aw_mem 263 (by decide +kernel) (by decide +kernel), rfl, (by decide +kernel), tyX10_ok, nmX10, fun _ => rfl⟩
theorem flX11_10 : aw_fl RX11 10 11 0 := ⟨RX11, TX11, 10, rfl, by decide, inX11, aw_mem 273 (by decide +kernel) (by decide +kernel)⟩
theorem fpX11_10 : aw_fp RX11 10 11 0 true (.object "HonestGold$Treasury") := ⟨RX11, TX11, 10, tyX11, rfl, by decide, inX11, aw_mem 273 (by decide +kernel) (by decide +kernel), rfl, (by decide +kernel), tyX11_ok, nmX11, fun _ => rfl⟩
theorem flX11_16 : aw_fl RX11 16 11 1 := ⟨RX11, TX11, 10, rfl, by decide, inX11, aw_mem 274 (by decide +kernel) (by decide +kernel)⟩
theorem fpX11_16 : aw_fp RX11 16 11 1 true (.object "HonestGold$Treasury") := ⟨RX11, TX11, 10, tyX11, rfl, by decide, inX11, aw_mem 274 (by decide +kernel) (by decide +kernel), rfl, (by decide +kernel), tyX11_ok, nmX11, fun _ => rfl⟩
theorem flX11_19 : aw_fl RX11 19 11 2 := ⟨RX11, TX11, 10, rfl, by decide, inX11, aw_mem 275 (by decide +kernel) (by decide +kernel)⟩
theorem fpX11_19 : aw_fp RX11 19 11 2 true (.array (.object "HonestGold$Treasury")) := ⟨RX11, TX11, 10, tyX11, rfl, by decide, inX11, aw_mem 275 (by decide +kernel) (by decide +kernel), rfl, (by decide +kernel), tyX11_ok, nmX11, fun _ => rfl⟩
theorem flX11_26 : aw_fl RX11 26 11 3 := ⟨RX11, TX11, 10, rfl, by decide, inX11, aw_mem 276 (by decide +kernel) (by decide +kernel)⟩
theorem fpX11_26 : aw_fp RX11 26 11 3 true (.object "HonestGold$Reader") := ⟨RX11, TX11, 10, tyX11, rfl, by decide, inX11, aw_mem 276 (by decide +kernel) (by decide +kernel), rfl, (by decide +kernel), tyX11_ok, nmX11, fun _ => rfl⟩
theorem flX11_33 : aw_fl RX11 33 11 4 := ⟨RX11, TX11, 10, rfl, by decide, inX11, aw_mem 277 (by decide +kernel) (by decide +kernel)⟩
theorem fpX11_33 : aw_fp RX11 33 11 4 true (.object "HonestGold$Ways") := ⟨RX11, TX11, 10, tyX11, rfl, by decide, inX11, aw_mem 277 (by decide +kernel) (by decide +kernel), rfl, (by decide +kernel), tyX11_ok, nmX11, fun _ => rfl⟩
theorem flX11_37 : aw_fl RX11 37 11 5 := ⟨RX11, TX11, 10, rfl, by decide, inX11, aw_mem 278 (by decide +kernel) (by decide +kernel)⟩
theorem fpX11_37 : aw_fp RX11 37 11 5 false .long := ⟨RX11, TX11, 10, tyX11, rfl, by decide, inX11, aw_mem 278 (by decide +kernel) (by decide +kernel), rfl, (by decide +kernel), tyX11_ok, nmX11, fun h => by cases h⟩
theorem flX11_41 : aw_fl RX11 41 11 6 := ⟨RX11, TX11, 10, rfl, by decide, inX11, aw_mem 279 (by decide +kernel) (by decide +kernel)⟩
theorem fpX11_41 : aw_fp RX11 41 11 6 false .long := ⟨RX11, TX11, 10, tyX11, rfl, by decide, inX11, aw_mem 279 (by decide +kernel) (by decide +kernel), rfl, (by decide +kernel), tyX11_ok, nmX11, fun h => by cases h⟩
theorem flX11_231 : aw_fl RX11 231 11 7 := ⟨RX11, TX11, 10, rfl, by decide, inX11, aw_mem 280 (by decide +kernel) (by decide +kernel)⟩
theorem fpX11_231 : aw_fp RX11 231 11 7 false .int := ⟨RX11, TX11, 10, tyX11, rfl, by decide, inX11, aw_mem 280 (by decide +kernel) (by decide +kernel), rfl, (by decide +kernel), tyX11_ok, nmX11, fun h => by cases h⟩
theorem flX11_235 : aw_fl RX11 235 11 8 := ⟨RX11, TX11, 10, rfl, by decide, inX11, aw_mem 281 (by decide +kernel) (by decide +kernel)⟩
theorem fpX11_235 : aw_fp RX11 235 11 8 false .int := ⟨RX11, TX11, 10, tyX11, rfl, by decide, inX11, aw_mem 281 (by decide +kernel) (by decide +kernel), rfl, (by decide +kernel), tyX11_ok, nmX11, fun h => by cases h⟩
theorem flX11_238 : aw_fl RX11 238 11 9 := ⟨RX11, TX11, 10, rfl, by decide, inX11, aw_mem 282 (by decide +kernel) (by decide +kernel)⟩
theorem fpX11_238 : aw_fp RX11 238 11 9 false .int := ⟨RX11, TX11, 10, tyX11, rfl, by decide, inX11, aw_mem 282 (by decide +kernel) (by decide +kernel), rfl, (by decide +kernel), tyX11_ok, nmX11, fun h => by cases h⟩
theorem flX12_1 : aw_fl RX12 1 12 0 := ⟨RX12, TX12, 33, rfl, by decide, inX12, aw_mem 970 (by decide +kernel) (by decide +kernel)⟩
theorem fpX12_1 : aw_fp RX12 1 12 0 true (.array .int) := ⟨RX12, TX12, 33, tyX12, rfl, by decide, inX12, aw_mem 970 (by decide +kernel) (by decide +kernel), rfl, (by decide +kernel), tyX12_ok, nmX12, fun _ => rfl⟩
theorem flX12_77 : aw_fl RX12 77 12 1 := ⟨RX12, TX12, 33, rfl, by decide, inX12, aw_mem 971 (by decide +kernel) (by decide +kernel)⟩
theorem fpX12_77 : aw_fp RX12 77 12 1 false .int := ⟨RX12, TX12, 33, tyX12, rfl, by decide, inX12, aw_mem 971 (by decide +kernel) (by decide +kernel), rfl, (by decide +kernel), tyX12_ok, nmX12, fun h => by cases h⟩
theorem flX12_81 : aw_fl RX12 81 12 2 := ⟨RX12, TX12, 33, rfl, by decide, inX12, aw_mem 972 (by decide +kernel) (by decide +kernel)⟩
theorem fpX12_81 : aw_fp RX12 81 12 2 false .int := ⟨RX12, TX12, 33, tyX12, rfl, by decide, inX12, aw_mem 972 (by decide +kernel) (by decide +kernel), rfl, (by decide +kernel), tyX12_ok, nmX12, fun h => by cases h⟩
theorem flX12_84 : aw_fl RX12 84 12 3 := ⟨RX12, TX12, 33, rfl, by decide, inX12, aw_mem 973 (by decide +kernel) (by decide +kernel)⟩
theorem fpX12_84 : aw_fp RX12 84 12 3 false .int := ⟨RX12, TX12, 33, tyX12, rfl, by decide, inX12, aw_mem 973 (by decide +kernel) (by decide +kernel), rfl, (by decide +kernel), tyX12_ok, nmX12, fun h => by cases h⟩
theorem flX12_87 : aw_fl RX12 87 12 4 := ⟨RX12, TX12, 33, rfl, by decide, inX12, aw_mem 974 (by decide +kernel) (by decide +kernel)⟩
theorem fpX12_87 : aw_fp RX12 87 12 4 false .int := ⟨RX12, TX12, 33, tyX12, rfl, by decide, inX12, aw_mem 974 (by decide +kernel) (by decide +kernel), rfl, (by decide +kernel), tyX12_ok, nmX12, fun h => by cases h⟩
theorem flX12_13 : aw_fl RX12 13 12 5 := ⟨RX12, TX12, 33, rfl, by decide, inX12, aw_mem 975 (by decide +kernel) (by decide +kernel)⟩
theorem fpX12_13 : aw_fp RX12 13 12 5 true (.array .int) := ⟨RX12, TX12, 33, tyX12, rfl, by decide, inX12, aw_mem 975 (by decide +kernel) (by decide +kernel), rfl, (by decide +kernel), tyX12_ok, nmX12, fun _ => rfl⟩
theorem flX12_16 : aw_fl RX12 16 12 6 := ⟨RX12, TX12, 33, rfl, by decide, inX12, aw_mem 976 (by decide +kernel) (by decide +kernel)⟩
theorem fpX12_16 : aw_fp RX12 16 12 6 true (.array .int) := ⟨RX12, TX12, 33, tyX12, rfl, by decide, inX12, aw_mem 976 (by decide +kernel) (by decide +kernel), rfl, (by decide +kernel), tyX12_ok, nmX12, fun _ => rfl⟩
theorem flX12_19 : aw_fl RX12 19 12 7 := ⟨RX12, TX12, 33, rfl, by decide, inX12, aw_mem 977 (by decide +kernel) (by decide +kernel)⟩
theorem fpX12_19 : aw_fp RX12 19 12 7 true (.array .int) := ⟨RX12, TX12, 33, tyX12, rfl, by decide, inX12, aw_mem 977 (by decide +kernel) (by decide +kernel), rfl, (by decide +kernel), tyX12_ok, nmX12, fun _ => rfl⟩
theorem flX12_22 : aw_fl RX12 22 12 8 := ⟨RX12, TX12, 33, rfl, by decide, inX12, aw_mem 978 (by decide +kernel) (by decide +kernel)⟩
theorem fpX12_22 : aw_fp RX12 22 12 8 true (.array .int) := ⟨RX12, TX12, 33, tyX12, rfl, by decide, inX12, aw_mem 978 (by decide +kernel) (by decide +kernel), rfl, (by decide +kernel), tyX12_ok, nmX12, fun _ => rfl⟩
theorem flX12_25 : aw_fl RX12 25 12 9 := ⟨RX12, TX12, 33, rfl, by decide, inX12, aw_mem 979 (by decide +kernel) (by decide +kernel)⟩
theorem fpX12_25 : aw_fp RX12 25 12 9 true (.array .int) := ⟨RX12, TX12, 33, tyX12, rfl, by decide, inX12, aw_mem 979 (by decide +kernel) (by decide +kernel), rfl, (by decide +kernel), tyX12_ok, nmX12, fun _ => rfl⟩
theorem flX12_28 : aw_fl RX12 28 12 10 := ⟨RX12, TX12, 33, rfl, by decide, inX12, aw_mem 980 (by decide +kernel) (by decide +kernel)⟩
theorem fpX12_28 : aw_fp RX12 28 12 10 true (.array .int) := ⟨RX12, TX12, 33, tyX12, rfl, by decide, inX12, aw_mem 980 (by decide +kernel) (by decide +kernel), rfl, (by decide +kernel), tyX12_ok, nmX12, fun _ => rfl⟩
theorem flX12_31 : aw_fl RX12 31 12 11 := ⟨RX12, TX12, 33, rfl, by decide, inX12, aw_mem 981 (by decide +kernel) (by decide +kernel)⟩
theorem fpX12_31 : aw_fp RX12 31 12 11 true (.array .int) := ⟨RX12, TX12, 33, tyX12, rfl, by decide, inX12, aw_mem 981 (by decide +kernel) (by decide +kernel), rfl, (by decide +kernel), tyX12_ok, nmX12, fun _ => rfl⟩
theorem flX12_34 : aw_fl RX12 34 12 12 := ⟨RX12, TX12, 33, rfl, by decide, inX12, aw_mem 982 (by decide +kernel) (by decide +kernel)⟩
theorem fpX12_34 : aw_fp RX12 34 12 12 true (.array .int) := ⟨RX12, TX12, 33, tyX12, rfl, by decide, inX12, aw_mem 982 (by decide +kernel) (by decide +kernel), rfl, (by decide +kernel), tyX12_ok, nmX12, fun _ => rfl⟩
theorem flX12_37 : aw_fl RX12 37 12 13 := ⟨RX12, TX12, 33, rfl, by decide, inX12, aw_mem 983 (by decide +kernel) (by decide +kernel)⟩
theorem fpX12_37 : aw_fp RX12 37 12 13 true (.array .int) := ⟨RX12, TX12, 33, tyX12, rfl, by decide, inX12, aw_mem 983 (by decide +kernel) (by decide +kernel), rfl, (by decide +kernel), tyX12_ok, nmX12, fun _ => rfl⟩
theorem flX12_40 : aw_fl RX12 40 12 14 := ⟨RX12, TX12, 33, rfl, by decide, inX12, aw_mem 984 (by decide +kernel) (by decide +kernel)⟩
theorem fpX12_40 : aw_fp RX12 40 12 14 true (.array .int) := ⟨RX12, TX12, 33, tyX12, rfl, by decide, inX12, aw_mem 984 (by decide +kernel) (by decide +kernel), rfl, (by decide +kernel), tyX12_ok, nmX12, fun _ => rfl⟩
theorem flX12_112 : aw_fl RX12 112 12 15 := ⟨RX12, TX12, 33, rfl, by decide, inX12, aw_mem 985 (by decide +kernel) (by decide +kernel)⟩
theorem fpX12_112 : aw_fp RX12 112 12 15 false .int := ⟨RX12, TX12, 33, tyX12, rfl, by decide, inX12, aw_mem 985 (by decide +kernel) (by decide +kernel), rfl, (by decide +kernel), tyX12_ok, nmX12, fun h => by cases h⟩
theorem flX12_115 : aw_fl RX12 115 12 16 := ⟨RX12, TX12, 33, rfl, by decide, inX12, aw_mem 986 (by decide +kernel) (by decide +kernel)⟩
theorem fpX12_115 : aw_fp RX12 115 12 16 false .int := ⟨RX12, TX12, 33, tyX12, rfl, by decide, inX12, aw_mem 986 (by decide +kernel) (by decide +kernel), rfl, (by decide +kernel), tyX12_ok, nmX12, fun h => by cases h⟩
theorem flX12_144 : aw_fl RX12 144 12 17 := ⟨RX12, TX12, 33, rfl, by decide, inX12, aw_mem 987 (by decide +kernel) (by decide +kernel)⟩
theorem fpX12_144 : aw_fp RX12 144 12 17 false .int := ⟨RX12, TX12, 33, tyX12, rfl, by decide, inX12, aw_mem 987 (by decide +kernel) (by decide +kernel), rfl, (by decide +kernel), tyX12_ok, nmX12, fun h => by cases h⟩
theorem flX12_159 : aw_fl RX12 159 12 18 := ⟨RX12, TX12, 33, rfl, by decide, inX12, aw_mem 988 (by decide +kernel) (by decide +kernel)⟩
theorem fpX12_159 : aw_fp RX12 159 12 18 false .int := ⟨RX12, TX12, 33, tyX12, rfl, by decide, inX12, aw_mem 988 (by decide +kernel) (by decide +kernel), rfl, (by decide +kernel), tyX12_ok, nmX12, fun h => by cases h⟩
theorem flX12_43 : aw_fl RX12 43 12 19 := ⟨RX12, TX12, 33, rfl, by decide, inX12, aw_mem 989 (by decide +kernel) (by decide +kernel)⟩
theorem fpX12_43 : aw_fp RX12 43 12 19 true (.array .int) := ⟨RX12, TX12, 33, tyX12, rfl, by decide, inX12, aw_mem 989 (by decide +kernel) (by decide +kernel), rfl, (by decide +kernel), tyX12_ok, nmX12, fun _ => rfl⟩
theorem flX12_141 : aw_fl RX12 141 12 20 := ⟨RX12, TX12, 33, rfl, by decide, inX12, aw_mem 990 (by decide +kernel) (by decide +kernel)⟩
theorem fpX12_141 : aw_fp RX12 141 12 20 false .int := ⟨RX12, TX12, 33, tyX12, rfl, by decide, inX12, aw_mem 990 (by decide +kernel) (by decide +kernel), rfl, (by decide +kernel), tyX12_ok, nmX12, fun h => by cases h⟩
theorem flX12_46 : aw_fl RX12 46 12 21 := ⟨RX12, TX12, 33, rfl, by decide, inX12, aw_mem 991 (by decide +kernel) (by decide +kernel)⟩
theorem fpX12_46 : aw_fp RX12 46 12 21 true (.array .int) := ⟨RX12, TX12, 33, tyX12, rfl, by decide, inX12, aw_mem 991 (by decide +kernel) (by decide +kernel), rfl, (by decide +kernel), tyX12_ok, nmX12, fun _ => rfl⟩
theorem flX12_90 : aw_fl RX12 90 12 22 := ⟨RX12, TX12, 33, rfl, by decide, inX12, aw_mem 992 (by decide +kernel) (by decide +kernel)⟩
theorem fpX12_90 : aw_fp RX12 90 12 22 false .int := ⟨RX12, TX12, 33, tyX12, rfl, by decide, inX12, aw_mem 992 (by decide +kernel) (by decide +kernel), rfl, (by decide +kernel), tyX12_ok, nmX12, fun h => by cases h⟩
theorem flX12_49 : aw_fl RX12 49 12 23 := ⟨RX12, TX12, 33, rfl, by decide, inX12, aw_mem 993 (by decide +kernel) (by decide +kernel)⟩
theorem fpX12_49 : aw_fp RX12 49 12 23 true (.array .int) := ⟨RX12, TX12, 33, tyX12, rfl, by decide, inX12, aw_mem 993 (by decide +kernel) (by decide +kernel), rfl, (by decide +kernel), tyX12_ok, nmX12, fun _ => rfl⟩
theorem flX12_52 : aw_fl RX12 52 12 24 := ⟨RX12, TX12, 33, rfl, by decide, inX12, aw_mem 994 (by decide +kernel) (by decide +kernel)⟩
theorem fpX12_52 : aw_fp RX12 52 12 24 true (.array .int) := ⟨RX12, TX12, 33, tyX12, rfl, by decide, inX12, aw_mem 994 (by decide +kernel) (by decide +kernel), rfl, (by decide +kernel), tyX12_ok, nmX12, fun _ => rfl⟩
theorem flX12_55 : aw_fl RX12 55 12 25 := ⟨RX12, TX12, 33, rfl, by decide, inX12, aw_mem 995 (by decide +kernel) (by decide +kernel)⟩
theorem fpX12_55 : aw_fp RX12 55 12 25 true (.array .int) := ⟨RX12, TX12, 33, tyX12, rfl, by decide, inX12, aw_mem 995 (by decide +kernel) (by decide +kernel), rfl, (by decide +kernel), tyX12_ok, nmX12, fun _ => rfl⟩
theorem flX12_58 : aw_fl RX12 58 12 26 := ⟨RX12, TX12, 33, rfl, by decide, inX12, aw_mem 996 (by decide +kernel) (by decide +kernel)⟩
theorem fpX12_58 : aw_fp RX12 58 12 26 true (.array .int) := ⟨RX12, TX12, 33, tyX12, rfl, by decide, inX12, aw_mem 996 (by decide +kernel) (by decide +kernel), rfl, (by decide +kernel), tyX12_ok, nmX12, fun _ => rfl⟩
theorem flX12_61 : aw_fl RX12 61 12 27 := ⟨RX12, TX12, 33, rfl, by decide, inX12, aw_mem 997 (by decide +kernel) (by decide +kernel)⟩
theorem fpX12_61 : aw_fp RX12 61 12 27 true (.array .int) := ⟨RX12, TX12, 33, tyX12, rfl, by decide, inX12, aw_mem 997 (by decide +kernel) (by decide +kernel), rfl, (by decide +kernel), tyX12_ok, nmX12, fun _ => rfl⟩
theorem flX12_242 : aw_fl RX12 242 12 28 := ⟨RX12, TX12, 33, rfl, by decide, inX12, aw_mem 998 (by decide +kernel) (by decide +kernel)⟩
theorem fpX12_242 : aw_fp RX12 242 12 28 false .long := ⟨RX12, TX12, 33, tyX12, rfl, by decide, inX12, aw_mem 998 (by decide +kernel) (by decide +kernel), rfl, (by decide +kernel), tyX12_ok, nmX12, fun h => by cases h⟩
theorem flX12_64 : aw_fl RX12 64 12 29 := ⟨RX12, TX12, 33, rfl, by decide, inX12, aw_mem 999 (by decide +kernel) (by decide +kernel)⟩
theorem fpX12_64 : aw_fp RX12 64 12 29 false .long := ⟨RX12, TX12, 33, tyX12, rfl, by decide, inX12, aw_mem 999 (by decide +kernel) (by decide +kernel), rfl, (by decide +kernel), tyX12_ok, nmX12, fun h => by cases h⟩
theorem flX12_68 : aw_fl RX12 68 12 30 := ⟨RX12, TX12, 33, rfl, by decide, inX12, aw_mem 1000 (by decide +kernel) (by decide +kernel)⟩
theorem fpX12_68 : aw_fp RX12 68 12 30 true (.array .int) := ⟨RX12, TX12, 33, tyX12, rfl, by decide, inX12, aw_mem 1000 (by decide +kernel) (by decide +kernel), rfl, (by decide +kernel), tyX12_ok, nmX12, fun _ => rfl⟩
theorem flX12_71 : aw_fl RX12 71 12 31 := ⟨RX12, TX12, 33, rfl, by decide, inX12, aw_mem 1001 (by decide +kernel) (by decide +kernel)⟩
theorem fpX12_71 : aw_fp RX12 71 12 31 true (.array .int) := ⟨RX12, TX12, 33, tyX12, rfl, by decide, inX12, aw_mem 1001 (by decide +kernel) (by decide +kernel), rfl, (by decide +kernel), tyX12_ok, nmX12, fun _ => rfl⟩
theorem flX12_286 : aw_fl RX12 286 12 32 := ⟨RX12, TX12, 33, rfl, by decide, inX12, aw_mem 1002 (by decide +kernel) (by decide +kernel)⟩
theorem fpX12_286 : aw_fp RX12 286 12 32 false .long := ⟨RX12, TX12, 33, tyX12, rfl, by decide, inX12, aw_mem 1002 (by decide +kernel) (by decide +kernel), rfl, (by decide +kernel), tyX12_ok, nmX12, fun h => by cases h⟩
theorem kkL_7 : Cond.classLink RL 7 RX11 ∈ aw_T := aw_mem 95 (by decide +kernel) (by decide +kernel)
theorem nwL_7 : aw_nw RL 7 11 [.null, .null, .null, .null, .null, .long 0, .long 0, .int 0, .int 0, .int 0] 10 := ⟨RX11, TX11, tyX11, rfl, inX11, tyX11_ok, aw_mem 95 (by decide +kernel) (by decide +kernel), aw_mem 96 (by decide +kernel) (by decide +kernel), aw_mem 76 (by decide +kernel) (by decide +kernel), by decide +kernel⟩
theorem ciL_9 : aw_cI RL 9 mX11_init := ⟨aw_mem 97 (by decide +kernel) (by decide +kernel), aw_mem 98 (by decide +kernel) (by decide +kernel), rfl, rfl⟩
theorem oiX11_1 : Cond.methodLink RX11 1 objectInit ∈ aw_T := aw_mem 100 (by decide +kernel) (by decide +kernel)
theorem kkX11_7 : Cond.classLink RX11 7 RX9 ∈ aw_T := aw_mem 103 (by decide +kernel) (by decide +kernel)
theorem nwX11_7 : aw_nw RX11 7 9 [.null, .null, .null, .null, .null, .null, .null, .null, .null, .int 0, .int 0, .int 0] 12 := ⟨RX9, TX9, tyX9, rfl, inX9, tyX9_ok, aw_mem 103 (by decide +kernel) (by decide +kernel), aw_mem 104 (by decide +kernel) (by decide +kernel), aw_mem 77 (by decide +kernel) (by decide +kernel), by decide +kernel⟩
theorem ciX11_9 : aw_cI RX11 9 mX9_init := ⟨aw_mem 105 (by decide +kernel) (by decide +kernel), aw_mem 106 (by decide +kernel) (by decide +kernel), rfl, rfl⟩
theorem oiX9_3 : Cond.methodLink RX9 3 objectInit ∈ aw_T := aw_mem 108 (by decide +kernel) (by decide +kernel)
theorem kkX9_9 : Cond.classLink RX9 9 RX6 ∈ aw_T := aw_mem 109 (by decide +kernel) (by decide +kernel)
theorem nwX9_9 : aw_nw RX9 9 6 [] 0 := ⟨RX6, TX6, tyX6, rfl, inX6, tyX6_ok, aw_mem 109 (by decide +kernel) (by decide +kernel), aw_mem 110 (by decide +kernel) (by decide +kernel), aw_mem 78 (by decide +kernel) (by decide +kernel), by decide +kernel⟩
theorem ciX9_11 : aw_cI RX9 11 mX6_init := ⟨aw_mem 111 (by decide +kernel) (by decide +kernel), aw_mem 112 (by decide +kernel) (by decide +kernel), rfl, rfl⟩
theorem oiX6_1 : Cond.methodLink RX6 1 objectInit ∈ aw_T := aw_mem 114 (by decide +kernel) (by decide +kernel)
theorem kkX9_18 : Cond.classLink RX9 18 RX1 ∈ aw_T := aw_mem 117 (by decide +kernel) (by decide +kernel)
theorem nwX9_18 : aw_nw RX9 18 1 [] 0 := ⟨RX1, TX1, tyX1, rfl, inX1, tyX1_ok, aw_mem 117 (by decide +kernel) (by decide +kernel), aw_mem 118 (by decide +kernel) (by decide +kernel), aw_mem 79 (by decide +kernel) (by decide +kernel), by decide +kernel⟩
theorem ciX9_20 : aw_cI RX9 20 mX1_init := ⟨aw_mem 119 (by decide +kernel) (by decide +kernel), aw_mem 120 (by decide +kernel) (by decide +kernel), rfl, rfl⟩
theorem ciX1_3 : aw_cI RX1 3 mX6_init := ⟨aw_mem 122 (by decide +kernel) (by decide +kernel), aw_mem 112 (by decide +kernel) (by decide +kernel), rfl, rfl⟩
theorem kkX9_21 : Cond.classLink RX9 21 RX2 ∈ aw_T := aw_mem 124 (by decide +kernel) (by decide +kernel)
theorem nwX9_21 : aw_nw RX9 21 2 [] 0 := ⟨RX2, TX2, tyX2, rfl, inX2, tyX2_ok, aw_mem 124 (by decide +kernel) (by decide +kernel), aw_mem 125 (by decide +kernel) (by decide +kernel), aw_mem 80 (by decide +kernel) (by decide +kernel), by decide +kernel⟩
theorem ciX9_23 : aw_cI RX9 23 mX2_init := ⟨aw_mem 126 (by decide +kernel) (by decide +kernel), aw_mem 127 (by decide +kernel) (by decide +kernel), rfl, rfl⟩
theorem ciX2_1 : aw_cI RX2 1 mX6_init := ⟨aw_mem 129 (by decide +kernel) (by decide +kernel), aw_mem 112 (by decide +kernel) (by decide +kernel), rfl, rfl⟩
theorem kkX9_24 : Cond.classLink RX9 24 RX8 ∈ aw_T := aw_mem 131 (by decide +kernel) (by decide +kernel)
theorem nwX9_24 : aw_nw RX9 24 8 [] 0 := ⟨RX8, TX8, tyX8, rfl, inX8, tyX8_ok, aw_mem 131 (by decide +kernel) (by decide +kernel), aw_mem 132 (by decide +kernel) (by decide +kernel), aw_mem 81 (by decide +kernel) (by decide +kernel), by decide +kernel⟩
theorem ciX9_26 : aw_cI RX9 26 mX8_init := ⟨aw_mem 133 (by decide +kernel) (by decide +kernel), aw_mem 134 (by decide +kernel) (by decide +kernel), rfl, rfl⟩
theorem ciX8_1 : aw_cI RX8 1 mX6_init := ⟨aw_mem 136 (by decide +kernel) (by decide +kernel), aw_mem 112 (by decide +kernel) (by decide +kernel), rfl, rfl⟩
theorem kkX9_27 : Cond.classLink RX9 27 RX3 ∈ aw_T := aw_mem 138 (by decide +kernel) (by decide +kernel)
theorem nwX9_27 : aw_nw RX9 27 3 [] 0 := ⟨RX3, TX3, tyX3, rfl, inX3, tyX3_ok, aw_mem 138 (by decide +kernel) (by decide +kernel), aw_mem 139 (by decide +kernel) (by decide +kernel), aw_mem 82 (by decide +kernel) (by decide +kernel), by decide +kernel⟩
theorem ciX9_29 : aw_cI RX9 29 mX3_init := ⟨aw_mem 140 (by decide +kernel) (by decide +kernel), aw_mem 141 (by decide +kernel) (by decide +kernel), rfl, rfl⟩
theorem ciX3_1 : aw_cI RX3 1 mX2_init := ⟨aw_mem 143 (by decide +kernel) (by decide +kernel), aw_mem 127 (by decide +kernel) (by decide +kernel), rfl, rfl⟩
theorem kkX9_30 : Cond.classLink RX9 30 RX0 ∈ aw_T := aw_mem 145 (by decide +kernel) (by decide +kernel)
theorem nwX9_30 : aw_nw RX9 30 0 [] 0 := ⟨RX0, TX0, tyX0, rfl, inX0, tyX0_ok, aw_mem 145 (by decide +kernel) (by decide +kernel), aw_mem 146 (by decide +kernel) (by decide +kernel), aw_mem 83 (by decide +kernel) (by decide +kernel), by decide +kernel⟩
theorem ciX9_32 : aw_cI RX9 32 mX0_init := ⟨aw_mem 147 (by decide +kernel) (by decide +kernel), aw_mem 148 (by decide +kernel) (by decide +kernel), rfl, rfl⟩
theorem ciX0_3 : aw_cI RX0 3 mX8_init := ⟨aw_mem 150 (by decide +kernel) (by decide +kernel), aw_mem 134 (by decide +kernel) (by decide +kernel), rfl, rfl⟩
theorem kkX9_53 : Cond.classLink RX9 53 RX4 ∈ aw_T := aw_mem 152 (by decide +kernel) (by decide +kernel)
theorem nwX9_53 : aw_nw RX9 53 4 [.null, .null, .null, .null, .int 0] 5 := ⟨RX4, TX4, tyX4, rfl, inX4, tyX4_ok, aw_mem 152 (by decide +kernel) (by decide +kernel), aw_mem 153 (by decide +kernel) (by decide +kernel), aw_mem 84 (by decide +kernel) (by decide +kernel), by decide +kernel⟩
theorem ciX9_55 : aw_cI RX9 55 mX4_init := ⟨aw_mem 154 (by decide +kernel) (by decide +kernel), aw_mem 155 (by decide +kernel) (by decide +kernel), rfl, rfl⟩
theorem oiX4_3 : Cond.methodLink RX4 3 objectInit ∈ aw_T := aw_mem 157 (by decide +kernel) (by decide +kernel)
theorem kkX9_60 : Cond.classLink RX9 60 RX5 ∈ aw_T := aw_mem 175 (by decide +kernel) (by decide +kernel)
theorem nwX9_60 : aw_nw RX9 60 5 [.null, .int 0] 2 := ⟨RX5, TX5, tyX5, rfl, inX5, tyX5_ok, aw_mem 175 (by decide +kernel) (by decide +kernel), aw_mem 176 (by decide +kernel) (by decide +kernel), aw_mem 85 (by decide +kernel) (by decide +kernel), by decide +kernel⟩
theorem ciX9_62 : aw_cI RX9 62 mX5_init := ⟨aw_mem 177 (by decide +kernel) (by decide +kernel), aw_mem 178 (by decide +kernel) (by decide +kernel), rfl, rfl⟩
theorem oiX5_5 : Cond.methodLink RX5 5 objectInit ∈ aw_T := aw_mem 180 (by decide +kernel) (by decide +kernel)
theorem kkX11_23 : Cond.classLink RX11 23 RX7 ∈ aw_T := aw_mem 226 (by decide +kernel) (by decide +kernel)
theorem nwX11_23 : aw_nw RX11 23 7 [.null, .int 0, .int 0, .int 0, .int 0, .int 0, .int 0] 7 := ⟨RX7, TX7, tyX7, rfl, inX7, tyX7_ok, aw_mem 226 (by decide +kernel) (by decide +kernel), aw_mem 227 (by decide +kernel) (by decide +kernel), aw_mem 86 (by decide +kernel) (by decide +kernel), by decide +kernel⟩
theorem ciX11_25 : aw_cI RX11 25 mX7_init := ⟨aw_mem 228 (by decide +kernel) (by decide +kernel), aw_mem 229 (by decide +kernel) (by decide +kernel), rfl, rfl⟩
theorem oiX7_3 : Cond.methodLink RX7 3 objectInit ∈ aw_T := aw_mem 231 (by decide +kernel) (by decide +kernel)
theorem kkX11_30 : Cond.classLink RX11 30 RX10 ∈ aw_T := aw_mem 254 (by decide +kernel) (by decide +kernel)
theorem nwX11_30 : aw_nw RX11 30 10 [.null, .null, .null, .null] 4 := ⟨RX10, TX10, tyX10, rfl, inX10, tyX10_ok, aw_mem 254 (by decide +kernel) (by decide +kernel), aw_mem 255 (by decide +kernel) (by decide +kernel), aw_mem 87 (by decide +kernel) (by decide +kernel), by decide +kernel⟩
theorem ciX11_32 : aw_cI RX11 32 mX10_init := ⟨aw_mem 256 (by decide +kernel) (by decide +kernel), aw_mem 257 (by decide +kernel) (by decide +kernel), rfl, rfl⟩
theorem oiX10_3 : Cond.methodLink RX10 3 objectInit ∈ aw_T := aw_mem 259 (by decide +kernel) (by decide +kernel)
theorem cvL_13 : aw_cV RL 13 11 mX11_gold := ⟨(RX11, TX11, 10), rfl, aw_mem 304 (by decide +kernel) (by decide +kernel), aw_mem 305 (by decide +kernel) (by decide +kernel), aw_mem 306 (by decide +kernel) (by decide +kernel)⟩
theorem cvX11_44 : aw_cV RX11 44 9 mX9_people := ⟨(RX9, TX9, 12), rfl, aw_mem 308 (by decide +kernel) (by decide +kernel), aw_mem 309 (by decide +kernel) (by decide +kernel), aw_mem 310 (by decide +kernel) (by decide +kernel)⟩
theorem cvX11_48 : aw_cV RX11 48 9 mX9_empty := ⟨(RX9, TX9, 12), rfl, aw_mem 312 (by decide +kernel) (by decide +kernel), aw_mem 313 (by decide +kernel) (by decide +kernel), aw_mem 314 (by decide +kernel) (by decide +kernel)⟩
theorem cvX9_77 : aw_cV RX9 77 4 mX4_drop := ⟨(RX4, TX4, 5), rfl, aw_mem 316 (by decide +kernel) (by decide +kernel), aw_mem 317 (by decide +kernel) (by decide +kernel), aw_mem 318 (by decide +kernel) (by decide +kernel)⟩
theorem cvX9_80 : aw_cV RX9 80 5 mX5_drop := ⟨(RX5, TX5, 2), rfl, aw_mem 320 (by decide +kernel) (by decide +kernel), aw_mem 321 (by decide +kernel) (by decide +kernel), aw_mem 322 (by decide +kernel) (by decide +kernel)⟩
theorem cvL_18 : aw_cV RL 18 11 mX11_one := ⟨(RX11, TX11, 10), rfl, aw_mem 324 (by decide +kernel) (by decide +kernel), aw_mem 325 (by decide +kernel) (by decide +kernel), aw_mem 326 (by decide +kernel) (by decide +kernel)⟩
theorem csX11_51 : aw_cS RX11 51 mX11_within := ⟨aw_mem 328 (by decide +kernel) (by decide +kernel), aw_mem 329 (by decide +kernel) (by decide +kernel)⟩
theorem cvX11_55 : aw_cV RX11 55 11 mX11_refuseBad := ⟨(RX11, TX11, 10), rfl, aw_mem 331 (by decide +kernel) (by decide +kernel), aw_mem 333 (by decide +kernel) (by decide +kernel), aw_mem 0 (by decide +kernel) (by decide +kernel)⟩
theorem cvX11_58 : aw_cV RX11 58 11 mX11_refuseFull := ⟨(RX11, TX11, 10), rfl, aw_mem 335 (by decide +kernel) (by decide +kernel), aw_mem 337 (by decide +kernel) (by decide +kernel), aw_mem 1 (by decide +kernel) (by decide +kernel)⟩
theorem cvX11_61 : aw_cV RX11 61 9 mX9_forgetSteps := ⟨(RX9, TX9, 12), rfl, aw_mem 339 (by decide +kernel) (by decide +kernel), aw_mem 340 (by decide +kernel) (by decide +kernel), aw_mem 341 (by decide +kernel) (by decide +kernel)⟩
theorem cvX11_64 : aw_cV RX11 64 9 mX9_join := ⟨(RX9, TX9, 12), rfl, aw_mem 343 (by decide +kernel) (by decide +kernel), aw_mem 344 (by decide +kernel) (by decide +kernel), aw_mem 345 (by decide +kernel) (by decide +kernel)⟩
theorem cvL_23 : aw_cV RL 23 11 mX11_hands := ⟨(RX11, TX11, 10), rfl, aw_mem 347 (by decide +kernel) (by decide +kernel), aw_mem 348 (by decide +kernel) (by decide +kernel), aw_mem 349 (by decide +kernel) (by decide +kernel)⟩
theorem cvX11_68 : aw_cV RX11 68 11 mX11_twoOfThem := ⟨(RX11, TX11, 10), rfl, aw_mem 351 (by decide +kernel) (by decide +kernel), aw_mem 353 (by decide +kernel) (by decide +kernel), aw_mem 2 (by decide +kernel) (by decide +kernel)⟩
theorem cvX11_100 : aw_cV RX11 100 9 mX9_isThere := ⟨(RX9, TX9, 12), rfl, aw_mem 355 (by decide +kernel) (by decide +kernel), aw_mem 356 (by decide +kernel) (by decide +kernel), aw_mem 357 (by decide +kernel) (by decide +kernel)⟩
theorem cvX11_72 : aw_cV RX11 72 9 mX9_handsOf := ⟨(RX9, TX9, 12), rfl, aw_mem 359 (by decide +kernel) (by decide +kernel), aw_mem 360 (by decide +kernel) (by decide +kernel), aw_mem 361 (by decide +kernel) (by decide +kernel)⟩
theorem cvX9_88 : aw_cV RX9 88 9 mX9_isThere := ⟨(RX9, TX9, 12), rfl, aw_mem 363 (by decide +kernel) (by decide +kernel), aw_mem 356 (by decide +kernel) (by decide +kernel), aw_mem 357 (by decide +kernel) (by decide +kernel)⟩
theorem cvX11_76 : aw_cV RX11 76 9 mX9_tellHands := ⟨(RX9, TX9, 12), rfl, aw_mem 364 (by decide +kernel) (by decide +kernel), aw_mem 365 (by decide +kernel) (by decide +kernel), aw_mem 366 (by decide +kernel) (by decide +kernel)⟩
theorem cvL_28 : aw_cV RL 28 11 mX11_type := ⟨(RX11, TX11, 10), rfl, aw_mem 368 (by decide +kernel) (by decide +kernel), aw_mem 369 (by decide +kernel) (by decide +kernel), aw_mem 370 (by decide +kernel) (by decide +kernel)⟩
theorem cvX11_80 : aw_cV RX11 80 7 mX7_length := ⟨(RX7, TX7, 7), rfl, aw_mem 372 (by decide +kernel) (by decide +kernel), aw_mem 373 (by decide +kernel) (by decide +kernel), aw_mem 374 (by decide +kernel) (by decide +kernel)⟩
theorem cvX11_83 : aw_cV RX11 83 7 mX7_append := ⟨(RX7, TX7, 7), rfl, aw_mem 376 (by decide +kernel) (by decide +kernel), aw_mem 377 (by decide +kernel) (by decide +kernel), aw_mem 378 (by decide +kernel) (by decide +kernel)⟩
theorem cvL_33 : aw_cV RL 33 11 mX11_clear := ⟨(RX11, TX11, 10), rfl, aw_mem 380 (by decide +kernel) (by decide +kernel), aw_mem 381 (by decide +kernel) (by decide +kernel), aw_mem 382 (by decide +kernel) (by decide +kernel)⟩
theorem cvX11_86 : aw_cV RX11 86 7 mX7_drop := ⟨(RX7, TX7, 7), rfl, aw_mem 384 (by decide +kernel) (by decide +kernel), aw_mem 385 (by decide +kernel) (by decide +kernel), aw_mem 386 (by decide +kernel) (by decide +kernel)⟩
theorem cvL_37 : aw_cV RL 37 11 mX11_read := ⟨(RX11, TX11, 10), rfl, aw_mem 388 (by decide +kernel) (by decide +kernel), aw_mem 389 (by decide +kernel) (by decide +kernel), aw_mem 390 (by decide +kernel) (by decide +kernel)⟩
theorem cvX11_89 : aw_cV RX11 89 7 mX7_readInto := ⟨(RX7, TX7, 7), rfl, aw_mem 392 (by decide +kernel) (by decide +kernel), aw_mem 393 (by decide +kernel) (by decide +kernel), aw_mem 394 (by decide +kernel) (by decide +kernel)⟩
theorem cvX7_22 : aw_cV RX7 22 9 mX9_empty := ⟨(RX9, TX9, 12), rfl, aw_mem 396 (by decide +kernel) (by decide +kernel), aw_mem 313 (by decide +kernel) (by decide +kernel), aw_mem 314 (by decide +kernel) (by decide +kernel)⟩
theorem cvX7_30 : aw_cV RX7 30 7 mX7_step := ⟨(RX7, TX7, 7), rfl, aw_mem 397 (by decide +kernel) (by decide +kernel), aw_mem 399 (by decide +kernel) (by decide +kernel), aw_mem 3 (by decide +kernel) (by decide +kernel)⟩
theorem cvX7_104 : aw_cV RX7 104 7 mX7_runEnd := ⟨(RX7, TX7, 7), rfl, aw_mem 401 (by decide +kernel) (by decide +kernel), aw_mem 403 (by decide +kernel) (by decide +kernel), aw_mem 4 (by decide +kernel) (by decide +kernel)⟩
theorem cvX7_96 : aw_cV RX7 96 7 mX7_byteAt := ⟨(RX7, TX7, 7), rfl, aw_mem 405 (by decide +kernel) (by decide +kernel), aw_mem 407 (by decide +kernel) (by decide +kernel), aw_mem 5 (by decide +kernel) (by decide +kernel)⟩
theorem cvX7_108 : aw_cV RX7 108 7 mX7_numberBetween := ⟨(RX7, TX7, 7), rfl, aw_mem 409 (by decide +kernel) (by decide +kernel), aw_mem 411 (by decide +kernel) (by decide +kernel), aw_mem 6 (by decide +kernel) (by decide +kernel)⟩
theorem cvX7_33 : aw_cV RX7 33 7 mX7_takeGold := ⟨(RX7, TX7, 7), rfl, aw_mem 413 (by decide +kernel) (by decide +kernel), aw_mem 415 (by decide +kernel) (by decide +kernel), aw_mem 7 (by decide +kernel) (by decide +kernel)⟩
theorem cvX7_41 : aw_cV RX7 41 7 mX7_isWord := ⟨(RX7, TX7, 7), rfl, aw_mem 418 (by decide +kernel) (by decide +kernel), aw_mem 420 (by decide +kernel) (by decide +kernel), aw_mem 8 (by decide +kernel) (by decide +kernel)⟩
theorem csJ0_495 : aw_cS RJ0 495 mJ1_charAt_3b067 := ⟨aw_mem 440 (by decide +kernel) (by decide +kernel), aw_mem 441 (by decide +kernel) (by decide +kernel)⟩
theorem csJ1_9 : aw_cS RJ1 9 mJ0_checkIndex_df160 := ⟨aw_mem 443 (by decide +kernel) (by decide +kernel), aw_mem 444 (by decide +kernel) (by decide +kernel)⟩
theorem csJ0_1059 : aw_cS RJ0 1059 mJ3_checkIndex_8e157 := ⟨aw_mem 448 (by decide +kernel) (by decide +kernel), aw_mem 449 (by decide +kernel) (by decide +kernel)⟩
theorem csJ0_498 : aw_cS RJ0 498 mJ2_charAt_3b067 := ⟨aw_mem 451 (by decide +kernel) (by decide +kernel), aw_mem 452 (by decide +kernel) (by decide +kernel)⟩
theorem csJ2_67 : aw_cS RJ2 67 mJ2_checkIndex_2214a := ⟨aw_mem 454 (by decide +kernel) (by decide +kernel), aw_mem 455 (by decide +kernel) (by decide +kernel)⟩
theorem csJ2_48 : aw_cS RJ2 48 mJ2_length_9d52b := ⟨aw_mem 457 (by decide +kernel) (by decide +kernel), aw_mem 458 (by decide +kernel) (by decide +kernel)⟩
theorem csJ2_414 : aw_cS RJ2 414 mJ0_checkIndex_df160 := ⟨aw_mem 460 (by decide +kernel) (by decide +kernel), aw_mem 444 (by decide +kernel) (by decide +kernel)⟩
theorem csJ2_71 : aw_cS RJ2 71 mJ2_getChar_3b067 := ⟨aw_mem 461 (by decide +kernel) (by decide +kernel), aw_mem 462 (by decide +kernel) (by decide +kernel)⟩
theorem cvX7_63 : aw_cV RX7 63 7 mX7_failHere := ⟨(RX7, TX7, 7), rfl, aw_mem 470 (by decide +kernel) (by decide +kernel), aw_mem 472 (by decide +kernel) (by decide +kernel), aw_mem 9 (by decide +kernel) (by decide +kernel)⟩
theorem cvX7_68 : aw_cV RX7 68 7 mX7_takeStop := ⟨(RX7, TX7, 7), rfl, aw_mem 474 (by decide +kernel) (by decide +kernel), aw_mem 476 (by decide +kernel) (by decide +kernel), aw_mem 10 (by decide +kernel) (by decide +kernel)⟩
theorem cvX7_45 : aw_cV RX7 45 9 mX9_people := ⟨(RX9, TX9, 12), rfl, aw_mem 479 (by decide +kernel) (by decide +kernel), aw_mem 309 (by decide +kernel) (by decide +kernel), aw_mem 310 (by decide +kernel) (by decide +kernel)⟩
theorem cvX7_49 : aw_cV RX7 49 7 mX7_takeOne := ⟨(RX7, TX7, 7), rfl, aw_mem 480 (by decide +kernel) (by decide +kernel), aw_mem 482 (by decide +kernel) (by decide +kernel), aw_mem 11 (by decide +kernel) (by decide +kernel)⟩
theorem cvX7_71 : aw_cV RX7 71 7 mX7_takeNumber := ⟨(RX7, TX7, 7), rfl, aw_mem 484 (by decide +kernel) (by decide +kernel), aw_mem 486 (by decide +kernel) (by decide +kernel), aw_mem 12 (by decide +kernel) (by decide +kernel)⟩
theorem cvX7_75 : aw_cV RX7 75 9 mX9_join := ⟨(RX9, TX9, 12), rfl, aw_mem 488 (by decide +kernel) (by decide +kernel), aw_mem 344 (by decide +kernel) (by decide +kernel), aw_mem 345 (by decide +kernel) (by decide +kernel)⟩
theorem cvX7_55 : aw_cV RX7 55 7 mX7_takeHands := ⟨(RX7, TX7, 7), rfl, aw_mem 490 (by decide +kernel) (by decide +kernel), aw_mem 492 (by decide +kernel) (by decide +kernel), aw_mem 13 (by decide +kernel) (by decide +kernel)⟩
theorem cvX7_82 : aw_cV RX7 82 9 mX9_tellHands := ⟨(RX9, TX9, 12), rfl, aw_mem 494 (by decide +kernel) (by decide +kernel), aw_mem 365 (by decide +kernel) (by decide +kernel), aw_mem 366 (by decide +kernel) (by decide +kernel)⟩
theorem cvX7_60 : aw_cV RX7 60 7 mX7_takeLie := ⟨(RX7, TX7, 7), rfl, aw_mem 496 (by decide +kernel) (by decide +kernel), aw_mem 498 (by decide +kernel) (by decide +kernel), aw_mem 14 (by decide +kernel) (by decide +kernel)⟩
theorem cvX7_86 : aw_cV RX7 86 9 mX9_tellLie := ⟨(RX9, TX9, 12), rfl, aw_mem 500 (by decide +kernel) (by decide +kernel), aw_mem 501 (by decide +kernel) (by decide +kernel), aw_mem 502 (by decide +kernel) (by decide +kernel)⟩
theorem cvX9_101 : aw_cV RX9 101 9 mX9_honestyBehindLie := ⟨(RX9, TX9, 12), rfl, aw_mem 504 (by decide +kernel) (by decide +kernel), aw_mem 506 (by decide +kernel) (by decide +kernel), aw_mem 15 (by decide +kernel) (by decide +kernel)⟩
theorem cvX9_141 : aw_cV RX9 141 9 mX9_honestyOf := ⟨(RX9, TX9, 12), rfl, aw_mem 508 (by decide +kernel) (by decide +kernel), aw_mem 509 (by decide +kernel) (by decide +kernel), aw_mem 510 (by decide +kernel) (by decide +kernel)⟩
theorem cvX9_138 : aw_cV RX9 138 9 mX9_kindOf := ⟨(RX9, TX9, 12), rfl, aw_mem 512 (by decide +kernel) (by decide +kernel), aw_mem 513 (by decide +kernel) (by decide +kernel), aw_mem 514 (by decide +kernel) (by decide +kernel)⟩
theorem cvX9_130 : aw_cV RX9 130 9 mX9_kindNumbered := ⟨(RX9, TX9, 12), rfl, aw_mem 516 (by decide +kernel) (by decide +kernel), aw_mem 518 (by decide +kernel) (by decide +kernel), aw_mem 16 (by decide +kernel) (by decide +kernel)⟩
theorem cvX9_169 : aw_cV RX9 169 6 mX6_loss := ⟨(RX6, TX6, 0), rfl, aw_mem 520 (by decide +kernel) (by decide +kernel), aw_mem 521 (by decide +kernel) (by decide +kernel), aw_mem 522 (by decide +kernel) (by decide +kernel)⟩
theorem coX9_169_X0 : aw_cO RX9 169 0 yX6_loss mX8_loss := ⟨(RX0, TX0, 0), cX6_loss, 2, (some .int), rfl, aw_mem 520 (by decide +kernel) (by decide +kernel), aw_mem 523 (by decide +kernel) (by decide +kernel), aw_mem 521 (by decide +kernel) (by decide +kernel), aw_mem 524 (by decide +kernel) (by decide +kernel), aw_mem 525 (by decide +kernel) (by decide +kernel), aw_mem 538 (by decide +kernel) (by decide +kernel), rfl, rfl, (by decide +kernel), (by decide +kernel)⟩
theorem coX9_169_X1 : aw_cO RX9 169 1 yX6_loss mX1_loss := ⟨(RX1, TX1, 0), cX6_loss, 2, (some .int), rfl, aw_mem 520 (by decide +kernel) (by decide +kernel), aw_mem 523 (by decide +kernel) (by decide +kernel), aw_mem 521 (by decide +kernel) (by decide +kernel), aw_mem 528 (by decide +kernel) (by decide +kernel), aw_mem 529 (by decide +kernel) (by decide +kernel), aw_mem 538 (by decide +kernel) (by decide +kernel), rfl, rfl, (by decide +kernel), (by decide +kernel)⟩
theorem coX9_169_X2 : aw_cO RX9 169 2 yX6_loss mX2_loss := ⟨(RX2, TX2, 0), cX6_loss, 2, (some .int), rfl, aw_mem 520 (by decide +kernel) (by decide +kernel), aw_mem 523 (by decide +kernel) (by decide +kernel), aw_mem 521 (by decide +kernel) (by decide +kernel), aw_mem 532 (by decide +kernel) (by decide +kernel), aw_mem 533 (by decide +kernel) (by decide +kernel), aw_mem 538 (by decide +kernel) (by decide +kernel), rfl, rfl, (by decide +kernel), (by decide +kernel)⟩
theorem coX9_169_X3 : aw_cO RX9 169 3 yX6_loss mX2_loss := ⟨(RX3, TX3, 0), cX6_loss, 2, (some .int), rfl, aw_mem 520 (by decide +kernel) (by decide +kernel), aw_mem 523 (by decide +kernel) (by decide +kernel), aw_mem 521 (by decide +kernel) (by decide +kernel), aw_mem 536 (by decide +kernel) (by decide +kernel), aw_mem 533 (by decide +kernel) (by decide +kernel), aw_mem 538 (by decide +kernel) (by decide +kernel), rfl, rfl, (by decide +kernel), (by decide +kernel)⟩
theorem coX9_169_X8 : aw_cO RX9 169 8 yX6_loss mX8_loss := ⟨(RX8, TX8, 0), cX6_loss, 2, (some .int), rfl, aw_mem 520 (by decide +kernel) (by decide +kernel), aw_mem 523 (by decide +kernel) (by decide +kernel), aw_mem 521 (by decide +kernel) (by decide +kernel), aw_mem 537 (by decide +kernel) (by decide +kernel), aw_mem 525 (by decide +kernel) (by decide +kernel), aw_mem 538 (by decide +kernel) (by decide +kernel), rfl, rfl, (by decide +kernel), (by decide +kernel)⟩
theorem cuX8_11 : aw_cU RX8 11 mX6_loss := ⟨aw_mem 527 (by decide +kernel) (by decide +kernel), aw_mem 523 (by decide +kernel) (by decide +kernel), aw_mem 137 (by decide +kernel) (by decide +kernel), aw_mem 521 (by decide +kernel) (by decide +kernel), (by decide +kernel)⟩
theorem cuX1_9 : aw_cU RX1 9 mX6_loss := ⟨aw_mem 531 (by decide +kernel) (by decide +kernel), aw_mem 523 (by decide +kernel) (by decide +kernel), aw_mem 123 (by decide +kernel) (by decide +kernel), aw_mem 521 (by decide +kernel) (by decide +kernel), (by decide +kernel)⟩
theorem cuX2_11 : aw_cU RX2 11 mX6_loss := ⟨aw_mem 535 (by decide +kernel) (by decide +kernel), aw_mem 523 (by decide +kernel) (by decide +kernel), aw_mem 130 (by decide +kernel) (by decide +kernel), aw_mem 521 (by decide +kernel) (by decide +kernel), (by decide +kernel)⟩
theorem csX9_172 : aw_cS RX9 172 mJ9_max_7cf53 := ⟨aw_mem 539 (by decide +kernel) (by decide +kernel), aw_mem 540 (by decide +kernel) (by decide +kernel)⟩
theorem cvX11_93 : aw_cV RX11 93 7 mX7_faultAt := ⟨(RX7, TX7, 7), rfl, aw_mem 542 (by decide +kernel) (by decide +kernel), aw_mem 543 (by decide +kernel) (by decide +kernel), aw_mem 544 (by decide +kernel) (by decide +kernel)⟩
theorem cvX11_96 : aw_cV RX11 96 9 mX9_copyFrom := ⟨(RX9, TX9, 12), rfl, aw_mem 546 (by decide +kernel) (by decide +kernel), aw_mem 547 (by decide +kernel) (by decide +kernel), aw_mem 548 (by decide +kernel) (by decide +kernel)⟩
theorem cvX9_81 : aw_cV RX9 81 4 mX4_copyFrom := ⟨(RX4, TX4, 5), rfl, aw_mem 550 (by decide +kernel) (by decide +kernel), aw_mem 551 (by decide +kernel) (by decide +kernel), aw_mem 552 (by decide +kernel) (by decide +kernel)⟩
theorem cvX9_85 : aw_cV RX9 85 5 mX5_copyFrom := ⟨(RX5, TX5, 2), rfl, aw_mem 554 (by decide +kernel) (by decide +kernel), aw_mem 555 (by decide +kernel) (by decide +kernel), aw_mem 556 (by decide +kernel) (by decide +kernel)⟩
theorem cvL_41 : aw_cV RL 41 11 mX11_lie := ⟨(RX11, TX11, 10), rfl, aw_mem 559 (by decide +kernel) (by decide +kernel), aw_mem 560 (by decide +kernel) (by decide +kernel), aw_mem 561 (by decide +kernel) (by decide +kernel)⟩
theorem cvX11_104 : aw_cV RX11 104 9 mX9_keepStep := ⟨(RX9, TX9, 12), rfl, aw_mem 563 (by decide +kernel) (by decide +kernel), aw_mem 564 (by decide +kernel) (by decide +kernel), aw_mem 565 (by decide +kernel) (by decide +kernel)⟩
theorem cvX9_117 : aw_cV RX9 117 5 mX5_open := ⟨(RX5, TX5, 2), rfl, aw_mem 567 (by decide +kernel) (by decide +kernel), aw_mem 568 (by decide +kernel) (by decide +kernel), aw_mem 569 (by decide +kernel) (by decide +kernel)⟩
theorem cvX9_120 : aw_cV RX9 120 5 mX5_put := ⟨(RX5, TX5, 2), rfl, aw_mem 571 (by decide +kernel) (by decide +kernel), aw_mem 572 (by decide +kernel) (by decide +kernel), aw_mem 573 (by decide +kernel) (by decide +kernel)⟩
theorem cvX5_25 : aw_cV RX5 25 5 mX5_placeOf := ⟨(RX5, TX5, 2), rfl, aw_mem 575 (by decide +kernel) (by decide +kernel), aw_mem 577 (by decide +kernel) (by decide +kernel), aw_mem 17 (by decide +kernel) (by decide +kernel)⟩
theorem cvX11_107 : aw_cV RX11 107 9 mX9_tellLie := ⟨(RX9, TX9, 12), rfl, aw_mem 579 (by decide +kernel) (by decide +kernel), aw_mem 501 (by decide +kernel) (by decide +kernel), aw_mem 502 (by decide +kernel) (by decide +kernel)⟩
theorem cvX11_110 : aw_cV RX11 110 9 mX9_honestyOf := ⟨(RX9, TX9, 12), rfl, aw_mem 580 (by decide +kernel) (by decide +kernel), aw_mem 509 (by decide +kernel) (by decide +kernel), aw_mem 510 (by decide +kernel) (by decide +kernel)⟩
theorem cvL_46 : aw_cV RL 46 11 mX11_give := ⟨(RX11, TX11, 10), rfl, aw_mem 581 (by decide +kernel) (by decide +kernel), aw_mem 582 (by decide +kernel) (by decide +kernel), aw_mem 583 (by decide +kernel) (by decide +kernel)⟩
theorem cvX11_113 : aw_cV RX11 113 9 mX9_piecesOf := ⟨(RX9, TX9, 12), rfl, aw_mem 585 (by decide +kernel) (by decide +kernel), aw_mem 586 (by decide +kernel) (by decide +kernel), aw_mem 587 (by decide +kernel) (by decide +kernel)⟩
theorem cvX11_116 : aw_cV RX11 116 11 mX11_refuseNo := ⟨(RX11, TX11, 10), rfl, aw_mem 589 (by decide +kernel) (by decide +kernel), aw_mem 591 (by decide +kernel) (by decide +kernel), aw_mem 18 (by decide +kernel) (by decide +kernel)⟩
theorem cvX11_119 : aw_cV RX11 119 9 mX9_handOn := ⟨(RX9, TX9, 12), rfl, aw_mem 593 (by decide +kernel) (by decide +kernel), aw_mem 594 (by decide +kernel) (by decide +kernel), aw_mem 595 (by decide +kernel) (by decide +kernel)⟩
theorem cvL_50 : aw_cV RL 50 11 mX11_day := ⟨(RX11, TX11, 10), rfl, aw_mem 597 (by decide +kernel) (by decide +kernel), aw_mem 598 (by decide +kernel) (by decide +kernel), aw_mem 599 (by decide +kernel) (by decide +kernel)⟩
theorem cvX11_123 : aw_cV RX11 123 9 mX9_passDay := ⟨(RX9, TX9, 12), rfl, aw_mem 601 (by decide +kernel) (by decide +kernel), aw_mem 602 (by decide +kernel) (by decide +kernel), aw_mem 603 (by decide +kernel) (by decide +kernel)⟩
theorem cvX9_105 : aw_cV RX9 105 9 mX9_honestyAfter := ⟨(RX9, TX9, 12), rfl, aw_mem 605 (by decide +kernel) (by decide +kernel), aw_mem 607 (by decide +kernel) (by decide +kernel), aw_mem 19 (by decide +kernel) (by decide +kernel)⟩
theorem cvX9_159 : aw_cV RX9 159 9 mX9_liedOf := ⟨(RX9, TX9, 12), rfl, aw_mem 609 (by decide +kernel) (by decide +kernel), aw_mem 610 (by decide +kernel) (by decide +kernel), aw_mem 611 (by decide +kernel) (by decide +kernel)⟩
theorem csX9_108 : aw_cS RX9 108 mJ9_min_7cf53 := ⟨aw_mem 613 (by decide +kernel) (by decide +kernel), aw_mem 614 (by decide +kernel) (by decide +kernel)⟩
theorem cvX11_126 : aw_cV RX11 126 9 mX9_today := ⟨(RX9, TX9, 12), rfl, aw_mem 616 (by decide +kernel) (by decide +kernel), aw_mem 617 (by decide +kernel) (by decide +kernel), aw_mem 618 (by decide +kernel) (by decide +kernel)⟩
theorem cvL_54 : aw_cV RL 54 11 mX11_undo := ⟨(RX11, TX11, 10), rfl, aw_mem 620 (by decide +kernel) (by decide +kernel), aw_mem 621 (by decide +kernel) (by decide +kernel), aw_mem 622 (by decide +kernel) (by decide +kernel)⟩
theorem cvX11_129 : aw_cV RX11 129 9 mX9_steps := ⟨(RX9, TX9, 12), rfl, aw_mem 624 (by decide +kernel) (by decide +kernel), aw_mem 625 (by decide +kernel) (by decide +kernel), aw_mem 626 (by decide +kernel) (by decide +kernel)⟩
theorem cvX9_113 : aw_cV RX9 113 5 mX5_size := ⟨(RX5, TX5, 2), rfl, aw_mem 628 (by decide +kernel) (by decide +kernel), aw_mem 629 (by decide +kernel) (by decide +kernel), aw_mem 630 (by decide +kernel) (by decide +kernel)⟩
theorem cvX11_132 : aw_cV RX11 132 9 mX9_stepBack := ⟨(RX9, TX9, 12), rfl, aw_mem 632 (by decide +kernel) (by decide +kernel), aw_mem 633 (by decide +kernel) (by decide +kernel), aw_mem 634 (by decide +kernel) (by decide +kernel)⟩
theorem cvX9_124 : aw_cV RX9 124 5 mX5_last := ⟨(RX5, TX5, 2), rfl, aw_mem 636 (by decide +kernel) (by decide +kernel), aw_mem 637 (by decide +kernel) (by decide +kernel), aw_mem 638 (by decide +kernel) (by decide +kernel)⟩
theorem cvX9_127 : aw_cV RX9 127 5 mX5_dropLast := ⟨(RX5, TX5, 2), rfl, aw_mem 640 (by decide +kernel) (by decide +kernel), aw_mem 641 (by decide +kernel) (by decide +kernel), aw_mem 642 (by decide +kernel) (by decide +kernel)⟩
theorem csX5_19 : aw_cS RX5 19 mJ9_max_7cf53 := ⟨aw_mem 644 (by decide +kernel) (by decide +kernel), aw_mem 540 (by decide +kernel) (by decide +kernel)⟩
theorem cvL_58 : aw_cV RL 58 11 mX11_of := ⟨(RX11, TX11, 10), rfl, aw_mem 645 (by decide +kernel) (by decide +kernel), aw_mem 646 (by decide +kernel) (by decide +kernel), aw_mem 647 (by decide +kernel) (by decide +kernel)⟩
theorem cvX11_135 : aw_cV RX11 135 9 mX9_kindOf := ⟨(RX9, TX9, 12), rfl, aw_mem 649 (by decide +kernel) (by decide +kernel), aw_mem 513 (by decide +kernel) (by decide +kernel), aw_mem 514 (by decide +kernel) (by decide +kernel)⟩
theorem cvX11_138 : aw_cV RX11 138 9 mX9_payOf := ⟨(RX9, TX9, 12), rfl, aw_mem 650 (by decide +kernel) (by decide +kernel), aw_mem 651 (by decide +kernel) (by decide +kernel), aw_mem 652 (by decide +kernel) (by decide +kernel)⟩
theorem cvX11_141 : aw_cV RX11 141 9 mX9_liedOf := ⟨(RX9, TX9, 12), rfl, aw_mem 654 (by decide +kernel) (by decide +kernel), aw_mem 610 (by decide +kernel) (by decide +kernel), aw_mem 611 (by decide +kernel) (by decide +kernel)⟩
theorem cvX11_144 : aw_cV RX11 144 9 mX9_ownWeight := ⟨(RX9, TX9, 12), rfl, aw_mem 655 (by decide +kernel) (by decide +kernel), aw_mem 656 (by decide +kernel) (by decide +kernel), aw_mem 657 (by decide +kernel) (by decide +kernel)⟩
theorem cvX9_98 : aw_cV RX9 98 9 mX9_piecesOf := ⟨(RX9, TX9, 12), rfl, aw_mem 659 (by decide +kernel) (by decide +kernel), aw_mem 586 (by decide +kernel) (by decide +kernel), aw_mem 587 (by decide +kernel) (by decide +kernel)⟩
theorem cvX9_144 : aw_cV RX9 144 9 mX9_weightWith := ⟨(RX9, TX9, 12), rfl, aw_mem 660 (by decide +kernel) (by decide +kernel), aw_mem 661 (by decide +kernel) (by decide +kernel), aw_mem 662 (by decide +kernel) (by decide +kernel)⟩
theorem cvX9_134 : aw_cV RX9 134 6 mX6_weight := ⟨(RX6, TX6, 0), rfl, aw_mem 664 (by decide +kernel) (by decide +kernel), aw_mem 665 (by decide +kernel) (by decide +kernel), aw_mem 666 (by decide +kernel) (by decide +kernel)⟩
theorem coX9_134_X0 : aw_cO RX9 134 0 yX6_weight mX0_weight := ⟨(RX0, TX0, 0), cX6_weight, 4, (some .int), rfl, aw_mem 664 (by decide +kernel) (by decide +kernel), aw_mem 667 (by decide +kernel) (by decide +kernel), aw_mem 665 (by decide +kernel) (by decide +kernel), aw_mem 668 (by decide +kernel) (by decide +kernel), aw_mem 669 (by decide +kernel) (by decide +kernel), aw_mem 688 (by decide +kernel) (by decide +kernel), rfl, rfl, (by decide +kernel), (by decide +kernel)⟩
theorem coX9_134_X1 : aw_cO RX9 134 1 yX6_weight mX1_weight := ⟨(RX1, TX1, 0), cX6_weight, 4, (some .int), rfl, aw_mem 664 (by decide +kernel) (by decide +kernel), aw_mem 667 (by decide +kernel) (by decide +kernel), aw_mem 665 (by decide +kernel) (by decide +kernel), aw_mem 676 (by decide +kernel) (by decide +kernel), aw_mem 677 (by decide +kernel) (by decide +kernel), aw_mem 688 (by decide +kernel) (by decide +kernel), rfl, rfl, (by decide +kernel), (by decide +kernel)⟩
theorem coX9_134_X2 : aw_cO RX9 134 2 yX6_weight mX2_weight := ⟨(RX2, TX2, 0), cX6_weight, 4, (some .int), rfl, aw_mem 664 (by decide +kernel) (by decide +kernel), aw_mem 667 (by decide +kernel) (by decide +kernel), aw_mem 665 (by decide +kernel) (by decide +kernel), aw_mem 679 (by decide +kernel) (by decide +kernel), aw_mem 680 (by decide +kernel) (by decide +kernel), aw_mem 688 (by decide +kernel) (by decide +kernel), rfl, rfl, (by decide +kernel), (by decide +kernel)⟩
theorem coX9_134_X3 : aw_cO RX9 134 3 yX6_weight mX3_weight := ⟨(RX3, TX3, 0), cX6_weight, 4, (some .int), rfl, aw_mem 664 (by decide +kernel) (by decide +kernel), aw_mem 667 (by decide +kernel) (by decide +kernel), aw_mem 665 (by decide +kernel) (by decide +kernel), aw_mem 683 (by decide +kernel) (by decide +kernel), aw_mem 684 (by decide +kernel) (by decide +kernel), aw_mem 688 (by decide +kernel) (by decide +kernel), rfl, rfl, (by decide +kernel), (by decide +kernel)⟩
theorem coX9_134_X8 : aw_cO RX9 134 8 yX6_weight mX8_weight := ⟨(RX8, TX8, 0), cX6_weight, 4, (some .int), rfl, aw_mem 664 (by decide +kernel) (by decide +kernel), aw_mem 667 (by decide +kernel) (by decide +kernel), aw_mem 665 (by decide +kernel) (by decide +kernel), aw_mem 687 (by decide +kernel) (by decide +kernel), aw_mem 672 (by decide +kernel) (by decide +kernel), aw_mem 688 (by decide +kernel) (by decide +kernel), rfl, rfl, (by decide +kernel), (by decide +kernel)⟩
theorem cuX0_9 : aw_cU RX0 9 mX8_weight := ⟨aw_mem 671 (by decide +kernel) (by decide +kernel), aw_mem 1387 (by decide +kernel) (by decide +kernel), aw_mem 151 (by decide +kernel) (by decide +kernel), aw_mem 672 (by decide +kernel) (by decide +kernel), (by decide +kernel)⟩
theorem cuX8_7 : aw_cU RX8 7 mX6_weight := ⟨aw_mem 674 (by decide +kernel) (by decide +kernel), aw_mem 667 (by decide +kernel) (by decide +kernel), aw_mem 137 (by decide +kernel) (by decide +kernel), aw_mem 665 (by decide +kernel) (by decide +kernel), (by decide +kernel)⟩
theorem csX0_13 : aw_cS RX0 13 mJ9_min_7cf53 := ⟨aw_mem 675 (by decide +kernel) (by decide +kernel), aw_mem 614 (by decide +kernel) (by decide +kernel)⟩
theorem cuX2_7 : aw_cU RX2 7 mX6_weight := ⟨aw_mem 682 (by decide +kernel) (by decide +kernel), aw_mem 667 (by decide +kernel) (by decide +kernel), aw_mem 130 (by decide +kernel) (by decide +kernel), aw_mem 665 (by decide +kernel) (by decide +kernel), (by decide +kernel)⟩
theorem cuX3_7 : aw_cU RX3 7 mX2_weight := ⟨aw_mem 686 (by decide +kernel) (by decide +kernel), aw_mem 1388 (by decide +kernel) (by decide +kernel), aw_mem 144 (by decide +kernel) (by decide +kernel), aw_mem 680 (by decide +kernel) (by decide +kernel), (by decide +kernel)⟩
theorem cvL_62 : aw_cV RL 62 11 mX11_weighs := ⟨(RX11, TX11, 10), rfl, aw_mem 689 (by decide +kernel) (by decide +kernel), aw_mem 690 (by decide +kernel) (by decide +kernel), aw_mem 691 (by decide +kernel) (by decide +kernel)⟩
theorem cvX11_147 : aw_cV RX11 147 9 mX9_weightWith := ⟨(RX9, TX9, 12), rfl, aw_mem 693 (by decide +kernel) (by decide +kernel), aw_mem 661 (by decide +kernel) (by decide +kernel), aw_mem 662 (by decide +kernel) (by decide +kernel)⟩
theorem cvL_66 : aw_cV RL 66 11 mX11_all := ⟨(RX11, TX11, 10), rfl, aw_mem 694 (by decide +kernel) (by decide +kernel), aw_mem 695 (by decide +kernel) (by decide +kernel), aw_mem 696 (by decide +kernel) (by decide +kernel)⟩
theorem cvX11_151 : aw_cV RX11 151 9 mX9_allWeight := ⟨(RX9, TX9, 12), rfl, aw_mem 698 (by decide +kernel) (by decide +kernel), aw_mem 699 (by decide +kernel) (by decide +kernel), aw_mem 700 (by decide +kernel) (by decide +kernel)⟩
theorem cvX9_147 : aw_cV RX9 147 9 mX9_ownWeight := ⟨(RX9, TX9, 12), rfl, aw_mem 702 (by decide +kernel) (by decide +kernel), aw_mem 656 (by decide +kernel) (by decide +kernel), aw_mem 657 (by decide +kernel) (by decide +kernel)⟩
theorem cvL_70 : aw_cV RL 70 11 mX11_when := ⟨(RX11, TX11, 10), rfl, aw_mem 703 (by decide +kernel) (by decide +kernel), aw_mem 704 (by decide +kernel) (by decide +kernel), aw_mem 705 (by decide +kernel) (by decide +kernel)⟩
theorem cvX11_154 : aw_cV RX11 154 9 mX9_daysUntil := ⟨(RX9, TX9, 12), rfl, aw_mem 707 (by decide +kernel) (by decide +kernel), aw_mem 708 (by decide +kernel) (by decide +kernel), aw_mem 709 (by decide +kernel) (by decide +kernel)⟩
theorem cvX9_150 : aw_cV RX9 150 9 mX9_weightBy := ⟨(RX9, TX9, 12), rfl, aw_mem 711 (by decide +kernel) (by decide +kernel), aw_mem 712 (by decide +kernel) (by decide +kernel), aw_mem 713 (by decide +kernel) (by decide +kernel)⟩
theorem cvL_74 : aw_cV RL 74 11 mX11_bag := ⟨(RX11, TX11, 10), rfl, aw_mem 715 (by decide +kernel) (by decide +kernel), aw_mem 716 (by decide +kernel) (by decide +kernel), aw_mem 717 (by decide +kernel) (by decide +kernel)⟩
theorem cvX11_157 : aw_cV RX11 157 10 mX10_carry := ⟨(RX10, TX10, 4), rfl, aw_mem 719 (by decide +kernel) (by decide +kernel), aw_mem 720 (by decide +kernel) (by decide +kernel), aw_mem 721 (by decide +kernel) (by decide +kernel)⟩
theorem cvX10_24 : aw_cV RX10 24 10 mX10_weighEach := ⟨(RX10, TX10, 4), rfl, aw_mem 723 (by decide +kernel) (by decide +kernel), aw_mem 725 (by decide +kernel) (by decide +kernel), aw_mem 20 (by decide +kernel) (by decide +kernel)⟩
theorem cvX10_103 : aw_cV RX10 103 9 mX9_isThere := ⟨(RX9, TX9, 12), rfl, aw_mem 727 (by decide +kernel) (by decide +kernel), aw_mem 356 (by decide +kernel) (by decide +kernel), aw_mem 357 (by decide +kernel) (by decide +kernel)⟩
theorem cvX10_100 : aw_cV RX10 100 9 mX9_weightWith := ⟨(RX9, TX9, 12), rfl, aw_mem 728 (by decide +kernel) (by decide +kernel), aw_mem 661 (by decide +kernel) (by decide +kernel), aw_mem 662 (by decide +kernel) (by decide +kernel)⟩
theorem cvX10_28 : aw_cV RX10 28 9 mX9_people := ⟨(RX9, TX9, 12), rfl, aw_mem 729 (by decide +kernel) (by decide +kernel), aw_mem 309 (by decide +kernel) (by decide +kernel), aw_mem 310 (by decide +kernel) (by decide +kernel)⟩
theorem cvX10_34 : aw_cV RX10 34 10 mX10_heftOf := ⟨(RX10, TX10, 4), rfl, aw_mem 730 (by decide +kernel) (by decide +kernel), aw_mem 732 (by decide +kernel) (by decide +kernel), aw_mem 21 (by decide +kernel) (by decide +kernel)⟩
theorem cvX10_38 : aw_cV RX10 38 10 mX10_measure := ⟨(RX10, TX10, 4), rfl, aw_mem 734 (by decide +kernel) (by decide +kernel), aw_mem 736 (by decide +kernel) (by decide +kernel), aw_mem 22 (by decide +kernel) (by decide +kernel)⟩
theorem cvX10_52 : aw_cV RX10 52 10 mX10_handsToOneAt := ⟨(RX10, TX10, 4), rfl, aw_mem 738 (by decide +kernel) (by decide +kernel), aw_mem 740 (by decide +kernel) (by decide +kernel), aw_mem 23 (by decide +kernel) (by decide +kernel)⟩
theorem cvX10_49 : aw_cV RX10 49 9 mX9_handsOf := ⟨(RX9, TX9, 12), rfl, aw_mem 742 (by decide +kernel) (by decide +kernel), aw_mem 360 (by decide +kernel) (by decide +kernel), aw_mem 361 (by decide +kernel) (by decide +kernel)⟩
theorem cvX10_42 : aw_cV RX10 42 10 mX10_farOf := ⟨(RX10, TX10, 4), rfl, aw_mem 743 (by decide +kernel) (by decide +kernel), aw_mem 745 (by decide +kernel) (by decide +kernel), aw_mem 24 (by decide +kernel) (by decide +kernel)⟩
theorem cvX11_161 : aw_cV RX11 161 10 mX10_handAt := ⟨(RX10, TX10, 4), rfl, aw_mem 747 (by decide +kernel) (by decide +kernel), aw_mem 748 (by decide +kernel) (by decide +kernel), aw_mem 749 (by decide +kernel) (by decide +kernel)⟩
theorem cvX10_45 : aw_cV RX10 45 10 mX10_nearerHand := ⟨(RX10, TX10, 4), rfl, aw_mem 751 (by decide +kernel) (by decide +kernel), aw_mem 753 (by decide +kernel) (by decide +kernel), aw_mem 25 (by decide +kernel) (by decide +kernel)⟩
theorem cvL_78 : aw_cV RL 78 11 mX11_debt := ⟨(RX11, TX11, 10), rfl, aw_mem 755 (by decide +kernel) (by decide +kernel), aw_mem 756 (by decide +kernel) (by decide +kernel), aw_mem 757 (by decide +kernel) (by decide +kernel)⟩
theorem cvX11_165 : aw_cV RX11 165 9 mX9_fewestPieces := ⟨(RX9, TX9, 12), rfl, aw_mem 759 (by decide +kernel) (by decide +kernel), aw_mem 760 (by decide +kernel) (by decide +kernel), aw_mem 761 (by decide +kernel) (by decide +kernel)⟩
theorem cvL_82 : aw_cV RL 82 11 mX11_hire := ⟨(RX11, TX11, 10), rfl, aw_mem 763 (by decide +kernel) (by decide +kernel), aw_mem 764 (by decide +kernel) (by decide +kernel), aw_mem 765 (by decide +kernel) (by decide +kernel)⟩
theorem cvX11_168 : aw_cV RX11 168 10 mX10_weighers := ⟨(RX10, TX10, 4), rfl, aw_mem 767 (by decide +kernel) (by decide +kernel), aw_mem 768 (by decide +kernel) (by decide +kernel), aw_mem 769 (by decide +kernel) (by decide +kernel)⟩
theorem csX10_56 : aw_cS RX10 56 mX10_payTogether := ⟨aw_mem 771 (by decide +kernel) (by decide +kernel), aw_mem 772 (by decide +kernel) (by decide +kernel)⟩
theorem cvX10_62 : aw_cV RX10 62 9 mX9_payOf := ⟨(RX9, TX9, 12), rfl, aw_mem 774 (by decide +kernel) (by decide +kernel), aw_mem 651 (by decide +kernel) (by decide +kernel), aw_mem 652 (by decide +kernel) (by decide +kernel)⟩
theorem cvX10_59 : aw_cV RX10 59 10 mX10_weightTogether := ⟨(RX10, TX10, 4), rfl, aw_mem 775 (by decide +kernel) (by decide +kernel), aw_mem 776 (by decide +kernel) (by decide +kernel), aw_mem 777 (by decide +kernel) (by decide +kernel)⟩
theorem cvX11_171 : aw_cV RX11 171 10 mX10_weightTogether := ⟨(RX10, TX10, 4), rfl, aw_mem 779 (by decide +kernel) (by decide +kernel), aw_mem 776 (by decide +kernel) (by decide +kernel), aw_mem 777 (by decide +kernel) (by decide +kernel)⟩
theorem cvL_86 : aw_cV RL 86 11 mX11_shelves := ⟨(RX11, TX11, 10), rfl, aw_mem 780 (by decide +kernel) (by decide +kernel), aw_mem 781 (by decide +kernel) (by decide +kernel), aw_mem 782 (by decide +kernel) (by decide +kernel)⟩
theorem cvX11_174 : aw_cV RX11 174 10 mX10_shelve := ⟨(RX10, TX10, 4), rfl, aw_mem 784 (by decide +kernel) (by decide +kernel), aw_mem 785 (by decide +kernel) (by decide +kernel), aw_mem 786 (by decide +kernel) (by decide +kernel)⟩
theorem cvX10_65 : aw_cV RX10 65 10 mX10_weighBags := ⟨(RX10, TX10, 4), rfl, aw_mem 788 (by decide +kernel) (by decide +kernel), aw_mem 790 (by decide +kernel) (by decide +kernel), aw_mem 26 (by decide +kernel) (by decide +kernel)⟩
theorem kcX10_69 : Cond.constant RX10 69 (1000000) ∈ aw_T := aw_mem 792 (by decide +kernel) (by decide +kernel)
theorem cvX10_70 : aw_cV RX10 70 10 mX10_lightestWith := ⟨(RX10, TX10, 4), rfl, aw_mem 793 (by decide +kernel) (by decide +kernel), aw_mem 795 (by decide +kernel) (by decide +kernel), aw_mem 27 (by decide +kernel) (by decide +kernel)⟩
theorem csX10_89 : aw_cS RX10 89 mJ6_bitCount_0f7a4 := ⟨aw_mem 797 (by decide +kernel) (by decide +kernel), aw_mem 798 (by decide +kernel) (by decide +kernel)⟩
theorem kcJ6_265 : Cond.constant RJ6 265 (1431655765) ∈ aw_T := aw_mem 800 (by decide +kernel) (by decide +kernel)
theorem kcJ6_266 : Cond.constant RJ6 266 (858993459) ∈ aw_T := aw_mem 801 (by decide +kernel) (by decide +kernel)
theorem kcJ6_267 : Cond.constant RJ6 267 (252645135) ∈ aw_T := aw_mem 802 (by decide +kernel) (by decide +kernel)
theorem cvX10_94 : aw_cV RX10 94 10 mX10_bagWeight := ⟨(RX10, TX10, 4), rfl, aw_mem 803 (by decide +kernel) (by decide +kernel), aw_mem 805 (by decide +kernel) (by decide +kernel), aw_mem 28 (by decide +kernel) (by decide +kernel)⟩
theorem cvX10_83 : aw_cV RX10 83 10 mX10_lightestOf := ⟨(RX10, TX10, 4), rfl, aw_mem 807 (by decide +kernel) (by decide +kernel), aw_mem 809 (by decide +kernel) (by decide +kernel), aw_mem 29 (by decide +kernel) (by decide +kernel)⟩
theorem csX10_97 : aw_cS RX10 97 mJ9_min_7cf53 := ⟨aw_mem 811 (by decide +kernel) (by decide +kernel), aw_mem 614 (by decide +kernel) (by decide +kernel)⟩
theorem csX10_74 : aw_cS RX10 74 mJ9_max_7cf53 := ⟨aw_mem 812 (by decide +kernel) (by decide +kernel), aw_mem 540 (by decide +kernel) (by decide +kernel)⟩
theorem cvX10_79 : aw_cV RX10 79 10 mX10_putLightest := ⟨(RX10, TX10, 4), rfl, aw_mem 813 (by decide +kernel) (by decide +kernel), aw_mem 815 (by decide +kernel) (by decide +kernel), aw_mem 30 (by decide +kernel) (by decide +kernel)⟩
theorem cvX11_177 : aw_cV RX11 177 10 mX10_bagOf := ⟨(RX10, TX10, 4), rfl, aw_mem 817 (by decide +kernel) (by decide +kernel), aw_mem 818 (by decide +kernel) (by decide +kernel), aw_mem 819 (by decide +kernel) (by decide +kernel)⟩
theorem cvX10_86 : aw_cV RX10 86 10 mX10_firstBag := ⟨(RX10, TX10, 4), rfl, aw_mem 821 (by decide +kernel) (by decide +kernel), aw_mem 823 (by decide +kernel) (by decide +kernel), aw_mem 31 (by decide +kernel) (by decide +kernel)⟩
theorem cvL_90 : aw_cV RL 90 11 mX11_note := ⟨(RX11, TX11, 10), rfl, aw_mem 825 (by decide +kernel) (by decide +kernel), aw_mem 826 (by decide +kernel) (by decide +kernel), aw_mem 827 (by decide +kernel) (by decide +kernel)⟩
theorem cvX11_180 : aw_cV RX11 180 9 mX9_notes := ⟨(RX9, TX9, 12), rfl, aw_mem 829 (by decide +kernel) (by decide +kernel), aw_mem 830 (by decide +kernel) (by decide +kernel), aw_mem 831 (by decide +kernel) (by decide +kernel)⟩
theorem cvX11_184 : aw_cV RX11 184 4 mX4_size := ⟨(RX4, TX4, 5), rfl, aw_mem 833 (by decide +kernel) (by decide +kernel), aw_mem 834 (by decide +kernel) (by decide +kernel), aw_mem 835 (by decide +kernel) (by decide +kernel)⟩
theorem cvX11_189 : aw_cV RX11 189 4 mX4_add := ⟨(RX4, TX4, 5), rfl, aw_mem 837 (by decide +kernel) (by decide +kernel), aw_mem 838 (by decide +kernel) (by decide +kernel), aw_mem 839 (by decide +kernel) (by decide +kernel)⟩
theorem cvL_94 : aw_cV RL 94 11 mX11_forget := ⟨(RX11, TX11, 10), rfl, aw_mem 841 (by decide +kernel) (by decide +kernel), aw_mem 842 (by decide +kernel) (by decide +kernel), aw_mem 843 (by decide +kernel) (by decide +kernel)⟩
theorem cvX11_192 : aw_cV RX11 192 4 mX4_drop := ⟨(RX4, TX4, 5), rfl, aw_mem 845 (by decide +kernel) (by decide +kernel), aw_mem 317 (by decide +kernel) (by decide +kernel), aw_mem 318 (by decide +kernel) (by decide +kernel)⟩
theorem cvL_98 : aw_cV RL 98 11 mX11_is := ⟨(RX11, TX11, 10), rfl, aw_mem 846 (by decide +kernel) (by decide +kernel), aw_mem 847 (by decide +kernel) (by decide +kernel), aw_mem 848 (by decide +kernel) (by decide +kernel)⟩
theorem cvX11_193 : aw_cV RX11 193 4 mX4_kindsThatFit := ⟨(RX4, TX4, 5), rfl, aw_mem 850 (by decide +kernel) (by decide +kernel), aw_mem 851 (by decide +kernel) (by decide +kernel), aw_mem 852 (by decide +kernel) (by decide +kernel)⟩
theorem cvX4_28 : aw_cV RX4 28 9 mX9_honestyOf := ⟨(RX9, TX9, 12), rfl, aw_mem 854 (by decide +kernel) (by decide +kernel), aw_mem 509 (by decide +kernel) (by decide +kernel), aw_mem 510 (by decide +kernel) (by decide +kernel)⟩
theorem cvX4_34 : aw_cV RX4 34 4 mX4_allFit := ⟨(RX4, TX4, 5), rfl, aw_mem 855 (by decide +kernel) (by decide +kernel), aw_mem 857 (by decide +kernel) (by decide +kernel), aw_mem 32 (by decide +kernel) (by decide +kernel)⟩
theorem cvX4_47 : aw_cV RX4 47 9 mX9_weightBy := ⟨(RX9, TX9, 12), rfl, aw_mem 859 (by decide +kernel) (by decide +kernel), aw_mem 712 (by decide +kernel) (by decide +kernel), aw_mem 713 (by decide +kernel) (by decide +kernel)⟩
theorem cvX11_197 : aw_cV RX11 197 4 mX4_honestiesThatFit := ⟨(RX4, TX4, 5), rfl, aw_mem 860 (by decide +kernel) (by decide +kernel), aw_mem 861 (by decide +kernel) (by decide +kernel), aw_mem 862 (by decide +kernel) (by decide +kernel)⟩
theorem cvX4_38 : aw_cV RX4 38 9 mX9_kindOf := ⟨(RX9, TX9, 12), rfl, aw_mem 864 (by decide +kernel) (by decide +kernel), aw_mem 513 (by decide +kernel) (by decide +kernel), aw_mem 514 (by decide +kernel) (by decide +kernel)⟩
theorem cvL_102 : aw_cV RL 102 11 mX11_next := ⟨(RX11, TX11, 10), rfl, aw_mem 865 (by decide +kernel) (by decide +kernel), aw_mem 866 (by decide +kernel) (by decide +kernel), aw_mem 867 (by decide +kernel) (by decide +kernel)⟩
theorem csX11_200 : aw_cS RX11 200 mX4_bestWeighing := ⟨aw_mem 869 (by decide +kernel) (by decide +kernel), aw_mem 870 (by decide +kernel) (by decide +kernel)⟩
theorem csX4_41 : aw_cS RX4 41 mX4_mostAlike := ⟨aw_mem 872 (by decide +kernel) (by decide +kernel), aw_mem 873 (by decide +kernel) (by decide +kernel)⟩
theorem cvX4_51 : aw_cV RX4 51 9 mX9_today := ⟨(RX9, TX9, 12), rfl, aw_mem 875 (by decide +kernel) (by decide +kernel), aw_mem 617 (by decide +kernel) (by decide +kernel), aw_mem 618 (by decide +kernel) (by decide +kernel)⟩
theorem csX4_55 : aw_cS RX4 55 mJ9_max_7cf53 := ⟨aw_mem 876 (by decide +kernel) (by decide +kernel), aw_mem 540 (by decide +kernel) (by decide +kernel)⟩
theorem cvL_106 : aw_cV RL 106 11 mX11_two := ⟨(RX11, TX11, 10), rfl, aw_mem 877 (by decide +kernel) (by decide +kernel), aw_mem 878 (by decide +kernel) (by decide +kernel), aw_mem 879 (by decide +kernel) (by decide +kernel)⟩
theorem cvX11_203 : aw_cV RX11 203 9 mX9_truthWorth := ⟨(RX9, TX9, 12), rfl, aw_mem 881 (by decide +kernel) (by decide +kernel), aw_mem 882 (by decide +kernel) (by decide +kernel), aw_mem 883 (by decide +kernel) (by decide +kernel)⟩
theorem csX11_206 : aw_cS RX11 206 mX11_isContent := ⟨aw_mem 885 (by decide +kernel) (by decide +kernel), aw_mem 886 (by decide +kernel) (by decide +kernel)⟩
theorem cvL_110 : aw_cV RL 110 11 mX11_winds := ⟨(RX11, TX11, 10), rfl, aw_mem 888 (by decide +kernel) (by decide +kernel), aw_mem 889 (by decide +kernel) (by decide +kernel), aw_mem 890 (by decide +kernel) (by decide +kernel)⟩
theorem klX11_210 : Cond.constantLong RX11 210 (10) ∈ aw_T := aw_mem 892 (by decide +kernel) (by decide +kernel)
theorem cvX11_212 : aw_cV RX11 212 11 mX11_keepFraction := ⟨(RX11, TX11, 10), rfl, aw_mem 893 (by decide +kernel) (by decide +kernel), aw_mem 895 (by decide +kernel) (by decide +kernel), aw_mem 33 (by decide +kernel) (by decide +kernel)⟩
theorem cvL_114 : aw_cV RL 114 11 mX11_years := ⟨(RX11, TX11, 10), rfl, aw_mem 897 (by decide +kernel) (by decide +kernel), aw_mem 898 (by decide +kernel) (by decide +kernel), aw_mem 899 (by decide +kernel) (by decide +kernel)⟩
theorem kcX11_216 : Cond.constant RX11 216 (999999) ∈ aw_T := aw_mem 901 (by decide +kernel) (by decide +kernel)
theorem klX11_217 : Cond.constantLong RX11 217 (1103515245) ∈ aw_T := aw_mem 902 (by decide +kernel) (by decide +kernel)
theorem klX11_219 : Cond.constantLong RX11 219 (12345) ∈ aw_T := aw_mem 903 (by decide +kernel) (by decide +kernel)
theorem klX11_221 : Cond.constantLong RX11 221 (2147483648) ∈ aw_T := aw_mem 904 (by decide +kernel) (by decide +kernel)
theorem klX11_223 : Cond.constantLong RX11 223 (65536) ∈ aw_T := aw_mem 905 (by decide +kernel) (by decide +kernel)
theorem klX11_225 : Cond.constantLong RX11 225 (6) ∈ aw_T := aw_mem 906 (by decide +kernel) (by decide +kernel)
theorem klX11_227 : Cond.constantLong RX11 227 (1048576) ∈ aw_T := aw_mem 907 (by decide +kernel) (by decide +kernel)
theorem klX11_229 : Cond.constantLong RX11 229 (5) ∈ aw_T := aw_mem 908 (by decide +kernel) (by decide +kernel)
theorem cvL_118 : aw_cV RL 118 11 mX11_part := ⟨(RX11, TX11, 10), rfl, aw_mem 909 (by decide +kernel) (by decide +kernel), aw_mem 910 (by decide +kernel) (by decide +kernel), aw_mem 911 (by decide +kernel) (by decide +kernel)⟩
theorem cvL_123 : aw_cV RL 123 11 mX11_image := ⟨(RX11, TX11, 10), rfl, aw_mem 913 (by decide +kernel) (by decide +kernel), aw_mem 914 (by decide +kernel) (by decide +kernel), aw_mem 915 (by decide +kernel) (by decide +kernel)⟩
theorem cvL_127 : aw_cV RL 127 11 mX11_from := ⟨(RX11, TX11, 10), rfl, aw_mem 917 (by decide +kernel) (by decide +kernel), aw_mem 918 (by decide +kernel) (by decide +kernel), aw_mem 919 (by decide +kernel) (by decide +kernel)⟩
theorem cvL_131 : aw_cV RL 131 11 mX11_status := ⟨(RX11, TX11, 10), rfl, aw_mem 921 (by decide +kernel) (by decide +kernel), aw_mem 922 (by decide +kernel) (by decide +kernel), aw_mem 923 (by decide +kernel) (by decide +kernel)⟩
theorem cvL_135 : aw_cV RL 135 11 mX11_count := ⟨(RX11, TX11, 10), rfl, aw_mem 925 (by decide +kernel) (by decide +kernel), aw_mem 926 (by decide +kernel) (by decide +kernel), aw_mem 927 (by decide +kernel) (by decide +kernel)⟩
theorem cvX11_241 : aw_cV RX11 241 11 mX11_counted := ⟨(RX11, TX11, 10), rfl, aw_mem 929 (by decide +kernel) (by decide +kernel), aw_mem 931 (by decide +kernel) (by decide +kernel), aw_mem 34 (by decide +kernel) (by decide +kernel)⟩
theorem cvX11_252 : aw_cV RX11 252 9 mX9_allPieces := ⟨(RX9, TX9, 12), rfl, aw_mem 933 (by decide +kernel) (by decide +kernel), aw_mem 934 (by decide +kernel) (by decide +kernel), aw_mem 935 (by decide +kernel) (by decide +kernel)⟩
theorem cvX11_255 : aw_cV RX11 255 9 mX9_liars := ⟨(RX9, TX9, 12), rfl, aw_mem 937 (by decide +kernel) (by decide +kernel), aw_mem 938 (by decide +kernel) (by decide +kernel), aw_mem 939 (by decide +kernel) (by decide +kernel)⟩
theorem csX9_92 : aw_cS RX9 92 mJ6_bitCount_0f7a4 := ⟨aw_mem 941 (by decide +kernel) (by decide +kernel), aw_mem 798 (by decide +kernel) (by decide +kernel)⟩
theorem cvL_139 : aw_cV RL 139 11 mX11_digest := ⟨(RX11, TX11, 10), rfl, aw_mem 942 (by decide +kernel) (by decide +kernel), aw_mem 943 (by decide +kernel) (by decide +kernel), aw_mem 944 (by decide +kernel) (by decide +kernel)⟩
theorem klX11_244 : Cond.constantLong RX11 244 (1307) ∈ aw_T := aw_mem 946 (by decide +kernel) (by decide +kernel)
theorem klX11_246 : Cond.constantLong RX11 246 (31) ∈ aw_T := aw_mem 947 (by decide +kernel) (by decide +kernel)
theorem cvX11_248 : aw_cV RX11 248 9 mX9_mixInto := ⟨(RX9, TX9, 12), rfl, aw_mem 948 (by decide +kernel) (by decide +kernel), aw_mem 949 (by decide +kernel) (by decide +kernel), aw_mem 950 (by decide +kernel) (by decide +kernel)⟩
theorem klX9_154 : Cond.constantLong RX9 154 (31) ∈ aw_T := aw_mem 952 (by decide +kernel) (by decide +kernel)
theorem cvX9_156 : aw_cV RX9 156 9 mX9_payOf := ⟨(RX9, TX9, 12), rfl, aw_mem 953 (by decide +kernel) (by decide +kernel), aw_mem 651 (by decide +kernel) (by decide +kernel), aw_mem 652 (by decide +kernel) (by decide +kernel)⟩
theorem cvX9_162 : aw_cV RX9 162 9 mX9_handsOf := ⟨(RX9, TX9, 12), rfl, aw_mem 954 (by decide +kernel) (by decide +kernel), aw_mem 360 (by decide +kernel) (by decide +kernel), aw_mem 361 (by decide +kernel) (by decide +kernel)⟩
theorem cvX9_165 : aw_cV RX9 165 4 mX4_mixInto := ⟨(RX4, TX4, 5), rfl, aw_mem 955 (by decide +kernel) (by decide +kernel), aw_mem 956 (by decide +kernel) (by decide +kernel), aw_mem 957 (by decide +kernel) (by decide +kernel)⟩
theorem klX4_45 : Cond.constantLong RX4 45 (31) ∈ aw_T := aw_mem 959 (by decide +kernel) (by decide +kernel)
theorem kkL_10 : Cond.classLink RL 10 RX12 ∈ aw_T := aw_mem 960 (by decide +kernel) (by decide +kernel)
theorem nwL_10 : aw_nw RL 10 12 [.null, .int 0, .int 0, .int 0, .int 0, .null, .null, .null, .null, .null, .null, .null, .null, .null, .null, .int 0, .int 0, .int 0, .int 0, .null, .int 0, .null, .int 0, .null, .null, .null, .null, .null, .long 0, .long 0, .null, .null, .long 0] 33 := ⟨RX12, TX12, tyX12, rfl, inX12, tyX12_ok, aw_mem 960 (by decide +kernel) (by decide +kernel), aw_mem 961 (by decide +kernel) (by decide +kernel), aw_mem 88 (by decide +kernel) (by decide +kernel), by decide +kernel⟩
theorem ciL_12 : aw_cI RL 12 mX12_init := ⟨aw_mem 962 (by decide +kernel) (by decide +kernel), aw_mem 963 (by decide +kernel) (by decide +kernel), rfl, rfl⟩
theorem oiX12_7 : Cond.methodLink RX12 7 objectInit ∈ aw_T := aw_mem 965 (by decide +kernel) (by decide +kernel)
theorem cvX12_74 : aw_cV RX12 74 12 mX12_begin := ⟨(RX12, TX12, 33), rfl, aw_mem 966 (by decide +kernel) (by decide +kernel), aw_mem 968 (by decide +kernel) (by decide +kernel), aw_mem 35 (by decide +kernel) (by decide +kernel)⟩
theorem cvL_17 : aw_cV RL 17 12 mX12_gold := ⟨(RX12, TX12, 33), rfl, aw_mem 1070 (by decide +kernel) (by decide +kernel), aw_mem 1071 (by decide +kernel) (by decide +kernel), aw_mem 1072 (by decide +kernel) (by decide +kernel)⟩
theorem cvL_22 : aw_cV RL 22 12 mX12_one := ⟨(RX12, TX12, 33), rfl, aw_mem 1074 (by decide +kernel) (by decide +kernel), aw_mem 1075 (by decide +kernel) (by decide +kernel), aw_mem 1076 (by decide +kernel) (by decide +kernel)⟩
theorem csX12_93 : aw_cS RX12 93 mX12_in := ⟨aw_mem 1078 (by decide +kernel) (by decide +kernel), aw_mem 1079 (by decide +kernel) (by decide +kernel)⟩
theorem cvX12_97 : aw_cV RX12 97 12 mX12_bad := ⟨(RX12, TX12, 33), rfl, aw_mem 1081 (by decide +kernel) (by decide +kernel), aw_mem 1083 (by decide +kernel) (by decide +kernel), aw_mem 36 (by decide +kernel) (by decide +kernel)⟩
theorem cvX12_101 : aw_cV RX12 101 12 mX12_full := ⟨(RX12, TX12, 33), rfl, aw_mem 1085 (by decide +kernel) (by decide +kernel), aw_mem 1087 (by decide +kernel) (by decide +kernel), aw_mem 37 (by decide +kernel) (by decide +kernel)⟩
theorem cvX12_104 : aw_cV RX12 104 12 mX12_addOne := ⟨(RX12, TX12, 33), rfl, aw_mem 1089 (by decide +kernel) (by decide +kernel), aw_mem 1091 (by decide +kernel) (by decide +kernel), aw_mem 38 (by decide +kernel) (by decide +kernel)⟩
theorem cvL_27 : aw_cV RL 27 12 mX12_hands := ⟨(RX12, TX12, 33), rfl, aw_mem 1093 (by decide +kernel) (by decide +kernel), aw_mem 1094 (by decide +kernel) (by decide +kernel), aw_mem 1095 (by decide +kernel) (by decide +kernel)⟩
theorem cvX12_108 : aw_cV RX12 108 12 mX12_isOne := ⟨(RX12, TX12, 33), rfl, aw_mem 1097 (by decide +kernel) (by decide +kernel), aw_mem 1099 (by decide +kernel) (by decide +kernel), aw_mem 39 (by decide +kernel) (by decide +kernel)⟩
theorem cvL_32 : aw_cV RL 32 12 mX12_type := ⟨(RX12, TX12, 33), rfl, aw_mem 1101 (by decide +kernel) (by decide +kernel), aw_mem 1102 (by decide +kernel) (by decide +kernel), aw_mem 1103 (by decide +kernel) (by decide +kernel)⟩
theorem cvL_36 : aw_cV RL 36 12 mX12_clear := ⟨(RX12, TX12, 33), rfl, aw_mem 1105 (by decide +kernel) (by decide +kernel), aw_mem 1106 (by decide +kernel) (by decide +kernel), aw_mem 1107 (by decide +kernel) (by decide +kernel)⟩
theorem cvL_40 : aw_cV RL 40 12 mX12_read := ⟨(RX12, TX12, 33), rfl, aw_mem 1109 (by decide +kernel) (by decide +kernel), aw_mem 1110 (by decide +kernel) (by decide +kernel), aw_mem 1111 (by decide +kernel) (by decide +kernel)⟩
theorem cvX12_177 : aw_cV RX12 177 12 mX12_readsGold := ⟨(RX12, TX12, 33), rfl, aw_mem 1113 (by decide +kernel) (by decide +kernel), aw_mem 1115 (by decide +kernel) (by decide +kernel), aw_mem 40 (by decide +kernel) (by decide +kernel)⟩
theorem cvX12_135 : aw_cV RX12 135 12 mX12_skip := ⟨(RX12, TX12, 33), rfl, aw_mem 1117 (by decide +kernel) (by decide +kernel), aw_mem 1119 (by decide +kernel) (by decide +kernel), aw_mem 41 (by decide +kernel) (by decide +kernel)⟩
theorem cvX12_118 : aw_cV RX12 118 12 mX12_here := ⟨(RX12, TX12, 33), rfl, aw_mem 1121 (by decide +kernel) (by decide +kernel), aw_mem 1123 (by decide +kernel) (by decide +kernel), aw_mem 42 (by decide +kernel) (by decide +kernel)⟩
theorem cvX12_162 : aw_cV RX12 162 12 mX12_wordHere := ⟨(RX12, TX12, 33), rfl, aw_mem 1125 (by decide +kernel) (by decide +kernel), aw_mem 1127 (by decide +kernel) (by decide +kernel), aw_mem 43 (by decide +kernel) (by decide +kernel)⟩
theorem cvX12_128 : aw_cV RX12 128 12 mX12_wordSize := ⟨(RX12, TX12, 33), rfl, aw_mem 1129 (by decide +kernel) (by decide +kernel), aw_mem 1131 (by decide +kernel) (by decide +kernel), aw_mem 44 (by decide +kernel) (by decide +kernel)⟩
theorem csX12_121 : aw_cS RX12 121 mX12_isLetter := ⟨aw_mem 1133 (by decide +kernel) (by decide +kernel), aw_mem 1134 (by decide +kernel) (by decide +kernel)⟩
theorem cvX12_131 : aw_cV RX12 131 12 mX12_spells := ⟨(RX12, TX12, 33), rfl, aw_mem 1136 (by decide +kernel) (by decide +kernel), aw_mem 1138 (by decide +kernel) (by decide +kernel), aw_mem 45 (by decide +kernel) (by decide +kernel)⟩
theorem cvX12_124 : aw_cV RX12 124 12 mX12_letter := ⟨(RX12, TX12, 33), rfl, aw_mem 1140 (by decide +kernel) (by decide +kernel), aw_mem 1142 (by decide +kernel) (by decide +kernel), aw_mem 46 (by decide +kernel) (by decide +kernel)⟩
theorem cvX12_151 : aw_cV RX12 151 12 mX12_ends := ⟨(RX12, TX12, 33), rfl, aw_mem 1144 (by decide +kernel) (by decide +kernel), aw_mem 1146 (by decide +kernel) (by decide +kernel), aw_mem 47 (by decide +kernel) (by decide +kernel)⟩
theorem cvX12_174 : aw_cV RX12 174 12 mX12_readsItem := ⟨(RX12, TX12, 33), rfl, aw_mem 1148 (by decide +kernel) (by decide +kernel), aw_mem 1150 (by decide +kernel) (by decide +kernel), aw_mem 48 (by decide +kernel) (by decide +kernel)⟩
theorem cvX12_165 : aw_cV RX12 165 12 mX12_readsOne := ⟨(RX12, TX12, 33), rfl, aw_mem 1152 (by decide +kernel) (by decide +kernel), aw_mem 1154 (by decide +kernel) (by decide +kernel), aw_mem 49 (by decide +kernel) (by decide +kernel)⟩
theorem cvX12_147 : aw_cV RX12 147 12 mX12_number := ⟨(RX12, TX12, 33), rfl, aw_mem 1156 (by decide +kernel) (by decide +kernel), aw_mem 1158 (by decide +kernel) (by decide +kernel), aw_mem 50 (by decide +kernel) (by decide +kernel)⟩
theorem csX12_138 : aw_cS RX12 138 mX12_isFigure := ⟨aw_mem 1160 (by decide +kernel) (by decide +kernel), aw_mem 1161 (by decide +kernel) (by decide +kernel)⟩
theorem cvX12_168 : aw_cV RX12 168 12 mX12_readsHands := ⟨(RX12, TX12, 33), rfl, aw_mem 1163 (by decide +kernel) (by decide +kernel), aw_mem 1165 (by decide +kernel) (by decide +kernel), aw_mem 51 (by decide +kernel) (by decide +kernel)⟩
theorem cvX12_171 : aw_cV RX12 171 12 mX12_readsLie := ⟨(RX12, TX12, 33), rfl, aw_mem 1167 (by decide +kernel) (by decide +kernel), aw_mem 1169 (by decide +kernel) (by decide +kernel), aw_mem 52 (by decide +kernel) (by decide +kernel)⟩
theorem csX12_155 : aw_cS RX12 155 mX12_lieBy := ⟨aw_mem 1171 (by decide +kernel) (by decide +kernel), aw_mem 1172 (by decide +kernel) (by decide +kernel)⟩
theorem cvL_45 : aw_cV RL 45 12 mX12_lie := ⟨(RX12, TX12, 33), rfl, aw_mem 1174 (by decide +kernel) (by decide +kernel), aw_mem 1175 (by decide +kernel) (by decide +kernel), aw_mem 1176 (by decide +kernel) (by decide +kernel)⟩
theorem cvX12_202 : aw_cV RX12 202 12 mX12_notes := ⟨(RX12, TX12, 33), rfl, aw_mem 1178 (by decide +kernel) (by decide +kernel), aw_mem 1180 (by decide +kernel) (by decide +kernel), aw_mem 53 (by decide +kernel) (by decide +kernel)⟩
theorem cvX12_189 : aw_cV RX12 189 12 mX12_lays := ⟨(RX12, TX12, 33), rfl, aw_mem 1182 (by decide +kernel) (by decide +kernel), aw_mem 1184 (by decide +kernel) (by decide +kernel), aw_mem 54 (by decide +kernel) (by decide +kernel)⟩
theorem cvX12_205 : aw_cV RX12 205 12 mX12_lies := ⟨(RX12, TX12, 33), rfl, aw_mem 1186 (by decide +kernel) (by decide +kernel), aw_mem 1188 (by decide +kernel) (by decide +kernel), aw_mem 55 (by decide +kernel) (by decide +kernel)⟩
theorem cvX12_196 : aw_cV RX12 196 12 mX12_honestBehind := ⟨(RX12, TX12, 33), rfl, aw_mem 1190 (by decide +kernel) (by decide +kernel), aw_mem 1192 (by decide +kernel) (by decide +kernel), aw_mem 56 (by decide +kernel) (by decide +kernel)⟩
theorem cvL_49 : aw_cV RL 49 12 mX12_give := ⟨(RX12, TX12, 33), rfl, aw_mem 1194 (by decide +kernel) (by decide +kernel), aw_mem 1195 (by decide +kernel) (by decide +kernel), aw_mem 1196 (by decide +kernel) (by decide +kernel)⟩
theorem csX12_199 : aw_cS RX12 199 mX12_has := ⟨aw_mem 1198 (by decide +kernel) (by decide +kernel), aw_mem 1199 (by decide +kernel) (by decide +kernel)⟩
theorem cvX12_209 : aw_cV RX12 209 12 mX12_no := ⟨(RX12, TX12, 33), rfl, aw_mem 1201 (by decide +kernel) (by decide +kernel), aw_mem 1203 (by decide +kernel) (by decide +kernel), aw_mem 57 (by decide +kernel) (by decide +kernel)⟩
theorem cvL_53 : aw_cV RL 53 12 mX12_day := ⟨(RX12, TX12, 33), rfl, aw_mem 1205 (by decide +kernel) (by decide +kernel), aw_mem 1206 (by decide +kernel) (by decide +kernel), aw_mem 1207 (by decide +kernel) (by decide +kernel)⟩
theorem cvX12_212 : aw_cV RX12 212 12 mX12_pass := ⟨(RX12, TX12, 33), rfl, aw_mem 1209 (by decide +kernel) (by decide +kernel), aw_mem 1211 (by decide +kernel) (by decide +kernel), aw_mem 58 (by decide +kernel) (by decide +kernel)⟩
theorem csX12_180 : aw_cS RX12 180 mX12_lesser := ⟨aw_mem 1213 (by decide +kernel) (by decide +kernel), aw_mem 1214 (by decide +kernel) (by decide +kernel)⟩
theorem cvL_57 : aw_cV RL 57 12 mX12_undo := ⟨(RX12, TX12, 33), rfl, aw_mem 1216 (by decide +kernel) (by decide +kernel), aw_mem 1217 (by decide +kernel) (by decide +kernel), aw_mem 1218 (by decide +kernel) (by decide +kernel)⟩
theorem cvX12_193 : aw_cV RX12 193 12 mX12_takes := ⟨(RX12, TX12, 33), rfl, aw_mem 1220 (by decide +kernel) (by decide +kernel), aw_mem 1222 (by decide +kernel) (by decide +kernel), aw_mem 59 (by decide +kernel) (by decide +kernel)⟩
theorem cvL_61 : aw_cV RL 61 12 mX12_of := ⟨(RX12, TX12, 33), rfl, aw_mem 1224 (by decide +kernel) (by decide +kernel), aw_mem 1225 (by decide +kernel) (by decide +kernel), aw_mem 1226 (by decide +kernel) (by decide +kernel)⟩
theorem cvX12_215 : aw_cV RX12 215 12 mX12_ownWeight := ⟨(RX12, TX12, 33), rfl, aw_mem 1228 (by decide +kernel) (by decide +kernel), aw_mem 1230 (by decide +kernel) (by decide +kernel), aw_mem 60 (by decide +kernel) (by decide +kernel)⟩
theorem cvX12_186 : aw_cV RX12 186 12 mX12_weight := ⟨(RX12, TX12, 33), rfl, aw_mem 1232 (by decide +kernel) (by decide +kernel), aw_mem 1234 (by decide +kernel) (by decide +kernel), aw_mem 61 (by decide +kernel) (by decide +kernel)⟩
theorem csX12_183 : aw_cS RX12 183 mX12_weightBy := ⟨aw_mem 1236 (by decide +kernel) (by decide +kernel), aw_mem 1237 (by decide +kernel) (by decide +kernel)⟩
theorem cvL_65 : aw_cV RL 65 12 mX12_weighs := ⟨(RX12, TX12, 33), rfl, aw_mem 1239 (by decide +kernel) (by decide +kernel), aw_mem 1240 (by decide +kernel) (by decide +kernel), aw_mem 1241 (by decide +kernel) (by decide +kernel)⟩
theorem cvL_69 : aw_cV RL 69 12 mX12_all := ⟨(RX12, TX12, 33), rfl, aw_mem 1243 (by decide +kernel) (by decide +kernel), aw_mem 1244 (by decide +kernel) (by decide +kernel), aw_mem 1245 (by decide +kernel) (by decide +kernel)⟩
theorem cvL_73 : aw_cV RL 73 12 mX12_when := ⟨(RX12, TX12, 33), rfl, aw_mem 1247 (by decide +kernel) (by decide +kernel), aw_mem 1248 (by decide +kernel) (by decide +kernel), aw_mem 1249 (by decide +kernel) (by decide +kernel)⟩
theorem cvL_77 : aw_cV RL 77 12 mX12_bag := ⟨(RX12, TX12, 33), rfl, aw_mem 1251 (by decide +kernel) (by decide +kernel), aw_mem 1252 (by decide +kernel) (by decide +kernel), aw_mem 1253 (by decide +kernel) (by decide +kernel)⟩
theorem cvX12_219 : aw_cV RX12 219 12 mX12_ten := ⟨(RX12, TX12, 33), rfl, aw_mem 1255 (by decide +kernel) (by decide +kernel), aw_mem 1257 (by decide +kernel) (by decide +kernel), aw_mem 62 (by decide +kernel) (by decide +kernel)⟩
theorem cvX12_222 : aw_cV RX12 222 12 mX12_setSteps := ⟨(RX12, TX12, 33), rfl, aw_mem 1259 (by decide +kernel) (by decide +kernel), aw_mem 1261 (by decide +kernel) (by decide +kernel), aw_mem 63 (by decide +kernel) (by decide +kernel)⟩
theorem kcX12_218 : Cond.constant RX12 218 (1048576) ∈ aw_T := aw_mem 1263 (by decide +kernel) (by decide +kernel)
theorem cvL_81 : aw_cV RL 81 12 mX12_debt := ⟨(RX12, TX12, 33), rfl, aw_mem 1264 (by decide +kernel) (by decide +kernel), aw_mem 1265 (by decide +kernel) (by decide +kernel), aw_mem 1266 (by decide +kernel) (by decide +kernel)⟩
theorem cvL_85 : aw_cV RL 85 12 mX12_hire := ⟨(RX12, TX12, 33), rfl, aw_mem 1268 (by decide +kernel) (by decide +kernel), aw_mem 1269 (by decide +kernel) (by decide +kernel), aw_mem 1270 (by decide +kernel) (by decide +kernel)⟩
theorem cvL_89 : aw_cV RL 89 12 mX12_shelves := ⟨(RX12, TX12, 33), rfl, aw_mem 1272 (by decide +kernel) (by decide +kernel), aw_mem 1273 (by decide +kernel) (by decide +kernel), aw_mem 1274 (by decide +kernel) (by decide +kernel)⟩
theorem cvX12_225 : aw_cV RX12 225 12 mX12_nextBags := ⟨(RX12, TX12, 33), rfl, aw_mem 1276 (by decide +kernel) (by decide +kernel), aw_mem 1278 (by decide +kernel) (by decide +kernel), aw_mem 64 (by decide +kernel) (by decide +kernel)⟩
theorem cvL_93 : aw_cV RL 93 12 mX12_note := ⟨(RX12, TX12, 33), rfl, aw_mem 1280 (by decide +kernel) (by decide +kernel), aw_mem 1281 (by decide +kernel) (by decide +kernel), aw_mem 1282 (by decide +kernel) (by decide +kernel)⟩
theorem cvL_97 : aw_cV RL 97 12 mX12_forget := ⟨(RX12, TX12, 33), rfl, aw_mem 1284 (by decide +kernel) (by decide +kernel), aw_mem 1285 (by decide +kernel) (by decide +kernel), aw_mem 1286 (by decide +kernel) (by decide +kernel)⟩
theorem cvL_101 : aw_cV RL 101 12 mX12_is := ⟨(RX12, TX12, 33), rfl, aw_mem 1288 (by decide +kernel) (by decide +kernel), aw_mem 1289 (by decide +kernel) (by decide +kernel), aw_mem 1290 (by decide +kernel) (by decide +kernel)⟩
theorem cvX12_231 : aw_cV RX12 231 12 mX12_kindsOf := ⟨(RX12, TX12, 33), rfl, aw_mem 1292 (by decide +kernel) (by decide +kernel), aw_mem 1294 (by decide +kernel) (by decide +kernel), aw_mem 65 (by decide +kernel) (by decide +kernel)⟩
theorem cvX12_228 : aw_cV RX12 228 12 mX12_isSo := ⟨(RX12, TX12, 33), rfl, aw_mem 1296 (by decide +kernel) (by decide +kernel), aw_mem 1298 (by decide +kernel) (by decide +kernel), aw_mem 66 (by decide +kernel) (by decide +kernel)⟩
theorem cvL_105 : aw_cV RL 105 12 mX12_next := ⟨(RX12, TX12, 33), rfl, aw_mem 1300 (by decide +kernel) (by decide +kernel), aw_mem 1301 (by decide +kernel) (by decide +kernel), aw_mem 1302 (by decide +kernel) (by decide +kernel)⟩
theorem cvX12_234 : aw_cV RX12 234 12 mX12_alike := ⟨(RX12, TX12, 33), rfl, aw_mem 1304 (by decide +kernel) (by decide +kernel), aw_mem 1306 (by decide +kernel) (by decide +kernel), aw_mem 67 (by decide +kernel) (by decide +kernel)⟩
theorem cvL_109 : aw_cV RL 109 12 mX12_two := ⟨(RX12, TX12, 33), rfl, aw_mem 1308 (by decide +kernel) (by decide +kernel), aw_mem 1309 (by decide +kernel) (by decide +kernel), aw_mem 1310 (by decide +kernel) (by decide +kernel)⟩
theorem cvX12_238 : aw_cV RX12 238 12 mX12_gets := ⟨(RX12, TX12, 33), rfl, aw_mem 1312 (by decide +kernel) (by decide +kernel), aw_mem 1314 (by decide +kernel) (by decide +kernel), aw_mem 68 (by decide +kernel) (by decide +kernel)⟩
theorem cvL_113 : aw_cV RL 113 12 mX12_winds := ⟨(RX12, TX12, 33), rfl, aw_mem 1316 (by decide +kernel) (by decide +kernel), aw_mem 1317 (by decide +kernel) (by decide +kernel), aw_mem 1318 (by decide +kernel) (by decide +kernel)⟩
theorem klX12_245 : Cond.constantLong RX12 245 (10) ∈ aw_T := aw_mem 1320 (by decide +kernel) (by decide +kernel)
theorem cvX12_247 : aw_cV RX12 247 12 mX12_lay := ⟨(RX12, TX12, 33), rfl, aw_mem 1321 (by decide +kernel) (by decide +kernel), aw_mem 1323 (by decide +kernel) (by decide +kernel), aw_mem 69 (by decide +kernel) (by decide +kernel)⟩
theorem cvL_117 : aw_cV RL 117 12 mX12_years := ⟨(RX12, TX12, 33), rfl, aw_mem 1325 (by decide +kernel) (by decide +kernel), aw_mem 1326 (by decide +kernel) (by decide +kernel), aw_mem 1327 (by decide +kernel) (by decide +kernel)⟩
theorem kcX12_251 : Cond.constant RX12 251 (999999) ∈ aw_T := aw_mem 1329 (by decide +kernel) (by decide +kernel)
theorem cvX12_252 : aw_cV RX12 252 12 mX12_puts := ⟨(RX12, TX12, 33), rfl, aw_mem 1330 (by decide +kernel) (by decide +kernel), aw_mem 1332 (by decide +kernel) (by decide +kernel), aw_mem 70 (by decide +kernel) (by decide +kernel)⟩
theorem klX12_255 : Cond.constantLong RX12 255 (1103515245) ∈ aw_T := aw_mem 1334 (by decide +kernel) (by decide +kernel)
theorem klX12_257 : Cond.constantLong RX12 257 (12345) ∈ aw_T := aw_mem 1335 (by decide +kernel) (by decide +kernel)
theorem klX12_259 : Cond.constantLong RX12 259 (2147483648) ∈ aw_T := aw_mem 1336 (by decide +kernel) (by decide +kernel)
theorem klX12_261 : Cond.constantLong RX12 261 (65536) ∈ aw_T := aw_mem 1337 (by decide +kernel) (by decide +kernel)
theorem klX12_263 : Cond.constantLong RX12 263 (6) ∈ aw_T := aw_mem 1338 (by decide +kernel) (by decide +kernel)
theorem klX12_265 : Cond.constantLong RX12 265 (1048576) ∈ aw_T := aw_mem 1339 (by decide +kernel) (by decide +kernel)
theorem klX12_267 : Cond.constantLong RX12 267 (5) ∈ aw_T := aw_mem 1340 (by decide +kernel) (by decide +kernel)
theorem cvX12_269 : aw_cV RX12 269 12 mX12_all := ⟨(RX12, TX12, 33), rfl, aw_mem 1341 (by decide +kernel) (by decide +kernel), aw_mem 1244 (by decide +kernel) (by decide +kernel), aw_mem 1245 (by decide +kernel) (by decide +kernel)⟩
theorem cvX12_272 : aw_cV RX12 272 12 mX12_back := ⟨(RX12, TX12, 33), rfl, aw_mem 1342 (by decide +kernel) (by decide +kernel), aw_mem 1344 (by decide +kernel) (by decide +kernel), aw_mem 71 (by decide +kernel) (by decide +kernel)⟩
theorem cvL_122 : aw_cV RL 122 12 mX12_part := ⟨(RX12, TX12, 33), rfl, aw_mem 1346 (by decide +kernel) (by decide +kernel), aw_mem 1347 (by decide +kernel) (by decide +kernel), aw_mem 1348 (by decide +kernel) (by decide +kernel)⟩
theorem cvL_126 : aw_cV RL 126 12 mX12_image := ⟨(RX12, TX12, 33), rfl, aw_mem 1350 (by decide +kernel) (by decide +kernel), aw_mem 1351 (by decide +kernel) (by decide +kernel), aw_mem 1352 (by decide +kernel) (by decide +kernel)⟩
theorem cvL_130 : aw_cV RL 130 12 mX12_from := ⟨(RX12, TX12, 33), rfl, aw_mem 1354 (by decide +kernel) (by decide +kernel), aw_mem 1355 (by decide +kernel) (by decide +kernel), aw_mem 1356 (by decide +kernel) (by decide +kernel)⟩
theorem cvL_134 : aw_cV RL 134 12 mX12_status := ⟨(RX12, TX12, 33), rfl, aw_mem 1358 (by decide +kernel) (by decide +kernel), aw_mem 1359 (by decide +kernel) (by decide +kernel), aw_mem 1360 (by decide +kernel) (by decide +kernel)⟩
theorem cvL_138 : aw_cV RL 138 12 mX12_count := ⟨(RX12, TX12, 33), rfl, aw_mem 1362 (by decide +kernel) (by decide +kernel), aw_mem 1363 (by decide +kernel) (by decide +kernel), aw_mem 1364 (by decide +kernel) (by decide +kernel)⟩
theorem cvX12_281 : aw_cV RX12 281 12 mX12_countOf := ⟨(RX12, TX12, 33), rfl, aw_mem 1366 (by decide +kernel) (by decide +kernel), aw_mem 1368 (by decide +kernel) (by decide +kernel), aw_mem 72 (by decide +kernel) (by decide +kernel)⟩
theorem cvX12_275 : aw_cV RX12 275 12 mX12_allPieces := ⟨(RX12, TX12, 33), rfl, aw_mem 1370 (by decide +kernel) (by decide +kernel), aw_mem 1372 (by decide +kernel) (by decide +kernel), aw_mem 73 (by decide +kernel) (by decide +kernel)⟩
theorem csX12_278 : aw_cS RX12 278 mX12_bits := ⟨aw_mem 1374 (by decide +kernel) (by decide +kernel), aw_mem 1375 (by decide +kernel) (by decide +kernel)⟩
theorem cvL_143 : aw_cV RL 143 12 mX12_digest := ⟨(RX12, TX12, 33), rfl, aw_mem 1377 (by decide +kernel) (by decide +kernel), aw_mem 1378 (by decide +kernel) (by decide +kernel), aw_mem 1379 (by decide +kernel) (by decide +kernel)⟩
theorem klX12_289 : Cond.constantLong RX12 289 (1307) ∈ aw_T := aw_mem 1381 (by decide +kernel) (by decide +kernel)
theorem cvX12_291 : aw_cV RX12 291 12 mX12_mix := ⟨(RX12, TX12, 33), rfl, aw_mem 1382 (by decide +kernel) (by decide +kernel), aw_mem 1384 (by decide +kernel) (by decide +kernel), aw_mem 74 (by decide +kernel) (by decide +kernel)⟩
theorem klX12_284 : Cond.constantLong RX12 284 (31) ∈ aw_T := aw_mem 1386 (by decide +kernel) (by decide +kernel)
theorem ac_I : Cond.arrayClass .int ∈ aw_T := aw_mem 174 (by decide +kernel) (by decide +kernel)
theorem oi_1 : Cond.instanceMethod objectInit ∈ aw_T := aw_mem 101 (by decide +kernel) (by decide +kernel)
theorem oi_2 : Cond.code objectInit ⟨#[0xb1]⟩ 1 none ∈ aw_T := aw_mem 102 (by decide +kernel) (by decide +kernel)
end
section
/-! THE DECODE ROWS: each instruction of each method. -/
theorem dX0_init_0 : decode cX0_init 0 = .ok (.aload_n 0, 1) := by decide +kernel
theorem dX0_init_1 : decode cX0_init 1 = .ok (.invokespecial 3, 3) := by decide +kernel
theorem dX0_init_4 : decode cX0_init 4 = .ok (.return_, 1) := by decide +kernel
theorem dX0_weight_0 : decode cX0_weight 0 = .ok (.bipush 60, 2) := by decide +kernel
theorem dX0_weight_2 : decode cX0_weight 2 = .ok (.aload_n 0, 1) := by decide +kernel
theorem dX0_weight_3 : decode cX0_weight 3 = .ok (.iload_n 1, 1) := by decide +kernel
theorem dX0_weight_4 : decode cX0_weight 4 = .ok (.iload_n 2, 1) := by decide +kernel
theorem dX0_weight_5 : decode cX0_weight 5 = .ok (.iload_n 3, 1) := by decide +kernel
theorem dX0_weight_6 : decode cX0_weight 6 = .ok (.invokespecial 9, 3) := by decide +kernel
theorem dX0_weight_9 : decode cX0_weight 9 = .ok (.invokestatic 13, 3) := by decide +kernel
theorem dX0_weight_12 : decode cX0_weight 12 = .ok (.ireturn, 1) := by decide +kernel
theorem dX1_init_0 : decode cX1_init 0 = .ok (.aload_n 0, 1) := by decide +kernel
theorem dX1_init_1 : decode cX1_init 1 = .ok (.invokespecial 3, 3) := by decide +kernel
theorem dX1_init_4 : decode cX1_init 4 = .ok (.return_, 1) := by decide +kernel
theorem dX1_weight_0 : decode cX1_weight 0 = .ok (.iload_n 1, 1) := by decide +kernel
theorem dX1_weight_1 : decode cX1_weight 1 = .ok (.bipush 12, 2) := by decide +kernel
theorem dX1_weight_3 : decode cX1_weight 3 = .ok (.imul, 1) := by decide +kernel
theorem dX1_weight_4 : decode cX1_weight 4 = .ok (.ireturn, 1) := by decide +kernel
theorem dX1_loss_0 : decode cX1_loss 0 = .ok (.aload_n 0, 1) := by decide +kernel
theorem dX1_loss_1 : decode cX1_loss 1 = .ok (.iload_n 1, 1) := by decide +kernel
theorem dX1_loss_2 : decode cX1_loss 2 = .ok (.invokespecial 9, 3) := by decide +kernel
theorem dX1_loss_5 : decode cX1_loss 5 = .ok (.iconst 1, 1) := by decide +kernel
theorem dX1_loss_6 : decode cX1_loss 6 = .ok (.iadd, 1) := by decide +kernel
theorem dX1_loss_7 : decode cX1_loss 7 = .ok (.ireturn, 1) := by decide +kernel
theorem dX2_init_0 : decode cX2_init 0 = .ok (.aload_n 0, 1) := by decide +kernel
theorem dX2_init_1 : decode cX2_init 1 = .ok (.invokespecial 1, 3) := by decide +kernel
theorem dX2_init_4 : decode cX2_init 4 = .ok (.return_, 1) := by decide +kernel
theorem dX2_weight_0 : decode cX2_weight 0 = .ok (.aload_n 0, 1) := by decide +kernel
theorem dX2_weight_1 : decode cX2_weight 1 = .ok (.iload_n 1, 1) := by decide +kernel
theorem dX2_weight_2 : decode cX2_weight 2 = .ok (.iload_n 2, 1) := by decide +kernel
theorem dX2_weight_3 : decode cX2_weight 3 = .ok (.iload_n 3, 1) := by decide +kernel
theorem dX2_weight_4 : decode cX2_weight 4 = .ok (.invokespecial 7, 3) := by decide +kernel
theorem dX2_weight_7 : decode cX2_weight 7 = .ok (.iconst 2, 1) := by decide +kernel
theorem dX2_weight_8 : decode cX2_weight 8 = .ok (.idiv, 1) := by decide +kernel
theorem dX2_weight_9 : decode cX2_weight 9 = .ok (.ireturn, 1) := by decide +kernel
theorem dX2_loss_0 : decode cX2_loss 0 = .ok (.aload_n 0, 1) := by decide +kernel
theorem dX2_loss_1 : decode cX2_loss 1 = .ok (.iload_n 1, 1) := by decide +kernel
theorem dX2_loss_2 : decode cX2_loss 2 = .ok (.invokespecial 11, 3) := by decide +kernel
theorem dX2_loss_5 : decode cX2_loss 5 = .ok (.iconst 1, 1) := by decide +kernel
theorem dX2_loss_6 : decode cX2_loss 6 = .ok (.iadd, 1) := by decide +kernel
theorem dX2_loss_7 : decode cX2_loss 7 = .ok (.iconst 2, 1) := by decide +kernel
theorem dX2_loss_8 : decode cX2_loss 8 = .ok (.idiv, 1) := by decide +kernel
theorem dX2_loss_9 : decode cX2_loss 9 = .ok (.ireturn, 1) := by decide +kernel
theorem dX3_init_0 : decode cX3_init 0 = .ok (.aload_n 0, 1) := by decide +kernel
theorem dX3_init_1 : decode cX3_init 1 = .ok (.invokespecial 1, 3) := by decide +kernel
theorem dX3_init_4 : decode cX3_init 4 = .ok (.return_, 1) := by decide +kernel
theorem dX3_weight_0 : decode cX3_weight 0 = .ok (.iload_n 3, 1) := by decide +kernel
theorem dX3_weight_1 : decode cX3_weight 1 = .ok (.iconst 3, 1) := by decide +kernel
theorem dX3_weight_2 : decode cX3_weight 2 = .ok (.irem, 1) := by decide +kernel
theorem dX3_weight_3 : decode cX3_weight 3 = .ok (.ifCond .ne 7, 3) := by decide +kernel
theorem dX3_weight_6 : decode cX3_weight 6 = .ok (.iconst 0, 1) := by decide +kernel
theorem dX3_weight_7 : decode cX3_weight 7 = .ok (.goto 10, 3) := by decide +kernel
theorem dX3_weight_10 : decode cX3_weight 10 = .ok (.aload_n 0, 1) := by decide +kernel
theorem dX3_weight_11 : decode cX3_weight 11 = .ok (.iload_n 1, 1) := by decide +kernel
theorem dX3_weight_12 : decode cX3_weight 12 = .ok (.iload_n 2, 1) := by decide +kernel
theorem dX3_weight_13 : decode cX3_weight 13 = .ok (.iload_n 3, 1) := by decide +kernel
theorem dX3_weight_14 : decode cX3_weight 14 = .ok (.invokespecial 7, 3) := by decide +kernel
theorem dX3_weight_17 : decode cX3_weight 17 = .ok (.ireturn, 1) := by decide +kernel
theorem dX4_init_0 : decode cX4_init 0 = .ok (.aload_n 0, 1) := by decide +kernel
theorem dX4_init_1 : decode cX4_init 1 = .ok (.invokespecial 3, 3) := by decide +kernel
theorem dX4_init_4 : decode cX4_init 4 = .ok (.aload_n 0, 1) := by decide +kernel
theorem dX4_init_5 : decode cX4_init 5 = .ok (.bipush 6, 2) := by decide +kernel
theorem dX4_init_7 : decode cX4_init 7 = .ok (.newarray .int, 2) := by decide +kernel
theorem dX4_init_9 : decode cX4_init 9 = .ok (.putfield 9, 3) := by decide +kernel
theorem dX4_init_12 : decode cX4_init 12 = .ok (.aload_n 0, 1) := by decide +kernel
theorem dX4_init_13 : decode cX4_init 13 = .ok (.bipush 6, 2) := by decide +kernel
theorem dX4_init_15 : decode cX4_init 15 = .ok (.newarray .int, 2) := by decide +kernel
theorem dX4_init_17 : decode cX4_init 17 = .ok (.putfield 15, 3) := by decide +kernel
theorem dX4_init_20 : decode cX4_init 20 = .ok (.aload_n 0, 1) := by decide +kernel
theorem dX4_init_21 : decode cX4_init 21 = .ok (.bipush 6, 2) := by decide +kernel
theorem dX4_init_23 : decode cX4_init 23 = .ok (.newarray .int, 2) := by decide +kernel
theorem dX4_init_25 : decode cX4_init 25 = .ok (.putfield 18, 3) := by decide +kernel
theorem dX4_init_28 : decode cX4_init 28 = .ok (.aload_n 0, 1) := by decide +kernel
theorem dX4_init_29 : decode cX4_init 29 = .ok (.bipush 6, 2) := by decide +kernel
theorem dX4_init_31 : decode cX4_init 31 = .ok (.newarray .int, 2) := by decide +kernel
theorem dX4_init_33 : decode cX4_init 33 = .ok (.putfield 21, 3) := by decide +kernel
theorem dX4_init_36 : decode cX4_init 36 = .ok (.return_, 1) := by decide +kernel
theorem dX4_size_0 : decode cX4_size 0 = .ok (.aload_n 0, 1) := by decide +kernel
theorem dX4_size_1 : decode cX4_size 1 = .ok (.getfield 24, 3) := by decide +kernel
theorem dX4_size_4 : decode cX4_size 4 = .ok (.ireturn, 1) := by decide +kernel
theorem dX4_drop_0 : decode cX4_drop 0 = .ok (.aload_n 0, 1) := by decide +kernel
theorem dX4_drop_1 : decode cX4_drop 1 = .ok (.iconst 0, 1) := by decide +kernel
theorem dX4_drop_2 : decode cX4_drop 2 = .ok (.putfield 24, 3) := by decide +kernel
theorem dX4_drop_5 : decode cX4_drop 5 = .ok (.return_, 1) := by decide +kernel
theorem dX4_add_0 : decode cX4_add 0 = .ok (.aload_n 0, 1) := by decide +kernel
theorem dX4_add_1 : decode cX4_add 1 = .ok (.getfield 24, 3) := by decide +kernel
theorem dX4_add_4 : decode cX4_add 4 = .ok (.ifCond .lt 12, 3) := by decide +kernel
theorem dX4_add_7 : decode cX4_add 7 = .ok (.aload_n 0, 1) := by decide +kernel
theorem dX4_add_8 : decode cX4_add 8 = .ok (.getfield 24, 3) := by decide +kernel
theorem dX4_add_11 : decode cX4_add 11 = .ok (.bipush 6, 2) := by decide +kernel
theorem dX4_add_13 : decode cX4_add 13 = .ok (.if_icmp .lt 6, 3) := by decide +kernel
theorem dX4_add_16 : decode cX4_add 16 = .ok (.bipush (-4), 2) := by decide +kernel
theorem dX4_add_18 : decode cX4_add 18 = .ok (.ireturn, 1) := by decide +kernel
theorem dX4_add_19 : decode cX4_add 19 = .ok (.aload_n 0, 1) := by decide +kernel
theorem dX4_add_20 : decode cX4_add 20 = .ok (.getfield 9, 3) := by decide +kernel
theorem dX4_add_23 : decode cX4_add 23 = .ok (.aload_n 0, 1) := by decide +kernel
theorem dX4_add_24 : decode cX4_add 24 = .ok (.getfield 24, 3) := by decide +kernel
theorem dX4_add_27 : decode cX4_add 27 = .ok (.iload_n 1, 1) := by decide +kernel
theorem dX4_add_28 : decode cX4_add 28 = .ok (.iastore, 1) := by decide +kernel
theorem dX4_add_29 : decode cX4_add 29 = .ok (.aload_n 0, 1) := by decide +kernel
theorem dX4_add_30 : decode cX4_add 30 = .ok (.getfield 15, 3) := by decide +kernel
theorem dX4_add_33 : decode cX4_add 33 = .ok (.aload_n 0, 1) := by decide +kernel
theorem dX4_add_34 : decode cX4_add 34 = .ok (.getfield 24, 3) := by decide +kernel
theorem dX4_add_37 : decode cX4_add 37 = .ok (.iload_n 2, 1) := by decide +kernel
theorem dX4_add_38 : decode cX4_add 38 = .ok (.iastore, 1) := by decide +kernel
theorem dX4_add_39 : decode cX4_add 39 = .ok (.aload_n 0, 1) := by decide +kernel
theorem dX4_add_40 : decode cX4_add 40 = .ok (.getfield 18, 3) := by decide +kernel
theorem dX4_add_43 : decode cX4_add 43 = .ok (.aload_n 0, 1) := by decide +kernel
theorem dX4_add_44 : decode cX4_add 44 = .ok (.getfield 24, 3) := by decide +kernel
theorem dX4_add_47 : decode cX4_add 47 = .ok (.iload_n 3, 1) := by decide +kernel
theorem dX4_add_48 : decode cX4_add 48 = .ok (.iastore, 1) := by decide +kernel
theorem dX4_add_49 : decode cX4_add 49 = .ok (.aload_n 0, 1) := by decide +kernel
theorem dX4_add_50 : decode cX4_add 50 = .ok (.getfield 21, 3) := by decide +kernel
theorem dX4_add_53 : decode cX4_add 53 = .ok (.aload_n 0, 1) := by decide +kernel
theorem dX4_add_54 : decode cX4_add 54 = .ok (.getfield 24, 3) := by decide +kernel
theorem dX4_add_57 : decode cX4_add 57 = .ok (.iload 4, 2) := by decide +kernel
theorem dX4_add_59 : decode cX4_add 59 = .ok (.iastore, 1) := by decide +kernel
theorem dX4_add_60 : decode cX4_add 60 = .ok (.aload_n 0, 1) := by decide +kernel
theorem dX4_add_61 : decode cX4_add 61 = .ok (.dup, 1) := by decide +kernel
theorem dX4_add_62 : decode cX4_add 62 = .ok (.getfield 24, 3) := by decide +kernel
theorem dX4_add_65 : decode cX4_add 65 = .ok (.iconst 1, 1) := by decide +kernel
theorem dX4_add_66 : decode cX4_add 66 = .ok (.iadd, 1) := by decide +kernel
theorem dX4_add_67 : decode cX4_add 67 = .ok (.putfield 24, 3) := by decide +kernel
theorem dX4_add_70 : decode cX4_add 70 = .ok (.aload_n 0, 1) := by decide +kernel
theorem dX4_add_71 : decode cX4_add 71 = .ok (.getfield 24, 3) := by decide +kernel
theorem dX4_add_74 : decode cX4_add 74 = .ok (.ireturn, 1) := by decide +kernel
theorem dX4_copyFrom_0 : decode cX4_copyFrom 0 = .ok (.iconst 0, 1) := by decide +kernel
theorem dX4_copyFrom_1 : decode cX4_copyFrom 1 = .ok (.istore_n 2, 1) := by decide +kernel
theorem dX4_copyFrom_2 : decode cX4_copyFrom 2 = .ok (.iload_n 2, 1) := by decide +kernel
theorem dX4_copyFrom_3 : decode cX4_copyFrom 3 = .ok (.bipush 6, 2) := by decide +kernel
theorem dX4_copyFrom_5 : decode cX4_copyFrom 5 = .ok (.if_icmp .ge 57, 3) := by decide +kernel
theorem dX4_copyFrom_8 : decode cX4_copyFrom 8 = .ok (.aload_n 0, 1) := by decide +kernel
theorem dX4_copyFrom_9 : decode cX4_copyFrom 9 = .ok (.getfield 9, 3) := by decide +kernel
theorem dX4_copyFrom_12 : decode cX4_copyFrom 12 = .ok (.iload_n 2, 1) := by decide +kernel
theorem dX4_copyFrom_13 : decode cX4_copyFrom 13 = .ok (.aload_n 1, 1) := by decide +kernel
theorem dX4_copyFrom_14 : decode cX4_copyFrom 14 = .ok (.getfield 9, 3) := by decide +kernel
theorem dX4_copyFrom_17 : decode cX4_copyFrom 17 = .ok (.iload_n 2, 1) := by decide +kernel
theorem dX4_copyFrom_18 : decode cX4_copyFrom 18 = .ok (.iaload, 1) := by decide +kernel
theorem dX4_copyFrom_19 : decode cX4_copyFrom 19 = .ok (.iastore, 1) := by decide +kernel
theorem dX4_copyFrom_20 : decode cX4_copyFrom 20 = .ok (.aload_n 0, 1) := by decide +kernel
theorem dX4_copyFrom_21 : decode cX4_copyFrom 21 = .ok (.getfield 15, 3) := by decide +kernel
theorem dX4_copyFrom_24 : decode cX4_copyFrom 24 = .ok (.iload_n 2, 1) := by decide +kernel
theorem dX4_copyFrom_25 : decode cX4_copyFrom 25 = .ok (.aload_n 1, 1) := by decide +kernel
theorem dX4_copyFrom_26 : decode cX4_copyFrom 26 = .ok (.getfield 15, 3) := by decide +kernel
theorem dX4_copyFrom_29 : decode cX4_copyFrom 29 = .ok (.iload_n 2, 1) := by decide +kernel
theorem dX4_copyFrom_30 : decode cX4_copyFrom 30 = .ok (.iaload, 1) := by decide +kernel
theorem dX4_copyFrom_31 : decode cX4_copyFrom 31 = .ok (.iastore, 1) := by decide +kernel
theorem dX4_copyFrom_32 : decode cX4_copyFrom 32 = .ok (.aload_n 0, 1) := by decide +kernel
theorem dX4_copyFrom_33 : decode cX4_copyFrom 33 = .ok (.getfield 18, 3) := by decide +kernel
theorem dX4_copyFrom_36 : decode cX4_copyFrom 36 = .ok (.iload_n 2, 1) := by decide +kernel
theorem dX4_copyFrom_37 : decode cX4_copyFrom 37 = .ok (.aload_n 1, 1) := by decide +kernel
theorem dX4_copyFrom_38 : decode cX4_copyFrom 38 = .ok (.getfield 18, 3) := by decide +kernel
theorem dX4_copyFrom_41 : decode cX4_copyFrom 41 = .ok (.iload_n 2, 1) := by decide +kernel
theorem dX4_copyFrom_42 : decode cX4_copyFrom 42 = .ok (.iaload, 1) := by decide +kernel
theorem dX4_copyFrom_43 : decode cX4_copyFrom 43 = .ok (.iastore, 1) := by decide +kernel
theorem dX4_copyFrom_44 : decode cX4_copyFrom 44 = .ok (.aload_n 0, 1) := by decide +kernel
theorem dX4_copyFrom_45 : decode cX4_copyFrom 45 = .ok (.getfield 21, 3) := by decide +kernel
theorem dX4_copyFrom_48 : decode cX4_copyFrom 48 = .ok (.iload_n 2, 1) := by decide +kernel
theorem dX4_copyFrom_49 : decode cX4_copyFrom 49 = .ok (.aload_n 1, 1) := by decide +kernel
theorem dX4_copyFrom_50 : decode cX4_copyFrom 50 = .ok (.getfield 21, 3) := by decide +kernel
theorem dX4_copyFrom_53 : decode cX4_copyFrom 53 = .ok (.iload_n 2, 1) := by decide +kernel
theorem dX4_copyFrom_54 : decode cX4_copyFrom 54 = .ok (.iaload, 1) := by decide +kernel
theorem dX4_copyFrom_55 : decode cX4_copyFrom 55 = .ok (.iastore, 1) := by decide +kernel
theorem dX4_copyFrom_56 : decode cX4_copyFrom 56 = .ok (.iinc 2 1, 3) := by decide +kernel
theorem dX4_copyFrom_59 : decode cX4_copyFrom 59 = .ok (.goto (-57), 3) := by decide +kernel
theorem dX4_copyFrom_62 : decode cX4_copyFrom 62 = .ok (.aload_n 0, 1) := by decide +kernel
theorem dX4_copyFrom_63 : decode cX4_copyFrom 63 = .ok (.aload_n 1, 1) := by decide +kernel
theorem dX4_copyFrom_64 : decode cX4_copyFrom 64 = .ok (.getfield 24, 3) := by decide +kernel
theorem dX4_copyFrom_67 : decode cX4_copyFrom 67 = .ok (.putfield 24, 3) := by decide +kernel
theorem dX4_copyFrom_70 : decode cX4_copyFrom 70 = .ok (.return_, 1) := by decide +kernel
theorem dX4_kindsThatFit_0 : decode cX4_kindsThatFit 0 = .ok (.iconst 0, 1) := by decide +kernel
theorem dX4_kindsThatFit_1 : decode cX4_kindsThatFit 1 = .ok (.istore_n 3, 1) := by decide +kernel
theorem dX4_kindsThatFit_2 : decode cX4_kindsThatFit 2 = .ok (.iconst 0, 1) := by decide +kernel
theorem dX4_kindsThatFit_3 : decode cX4_kindsThatFit 3 = .ok (.istore 4, 2) := by decide +kernel
theorem dX4_kindsThatFit_5 : decode cX4_kindsThatFit 5 = .ok (.iload 4, 2) := by decide +kernel
theorem dX4_kindsThatFit_7 : decode cX4_kindsThatFit 7 = .ok (.bipush 6, 2) := by decide +kernel
theorem dX4_kindsThatFit_9 : decode cX4_kindsThatFit 9 = .ok (.if_icmp .ge 32, 3) := by decide +kernel
theorem dX4_kindsThatFit_12 : decode cX4_kindsThatFit 12 = .ok (.aload_n 0, 1) := by decide +kernel
theorem dX4_kindsThatFit_13 : decode cX4_kindsThatFit 13 = .ok (.aload_n 1, 1) := by decide +kernel
theorem dX4_kindsThatFit_14 : decode cX4_kindsThatFit 14 = .ok (.iload_n 2, 1) := by decide +kernel
theorem dX4_kindsThatFit_15 : decode cX4_kindsThatFit 15 = .ok (.iload 4, 2) := by decide +kernel
theorem dX4_kindsThatFit_17 : decode cX4_kindsThatFit 17 = .ok (.aload_n 1, 1) := by decide +kernel
theorem dX4_kindsThatFit_18 : decode cX4_kindsThatFit 18 = .ok (.iload_n 2, 1) := by decide +kernel
theorem dX4_kindsThatFit_19 : decode cX4_kindsThatFit 19 = .ok (.invokevirtual 28, 3) := by decide +kernel
theorem dX4_kindsThatFit_22 : decode cX4_kindsThatFit 22 = .ok (.invokevirtual 34, 3) := by decide +kernel
theorem dX4_kindsThatFit_25 : decode cX4_kindsThatFit 25 = .ok (.ifCond .eq 10, 3) := by decide +kernel
theorem dX4_kindsThatFit_28 : decode cX4_kindsThatFit 28 = .ok (.iload_n 3, 1) := by decide +kernel
theorem dX4_kindsThatFit_29 : decode cX4_kindsThatFit 29 = .ok (.iconst 1, 1) := by decide +kernel
theorem dX4_kindsThatFit_30 : decode cX4_kindsThatFit 30 = .ok (.iload 4, 2) := by decide +kernel
theorem dX4_kindsThatFit_32 : decode cX4_kindsThatFit 32 = .ok (.ishl, 1) := by decide +kernel
theorem dX4_kindsThatFit_33 : decode cX4_kindsThatFit 33 = .ok (.ior, 1) := by decide +kernel
theorem dX4_kindsThatFit_34 : decode cX4_kindsThatFit 34 = .ok (.istore_n 3, 1) := by decide +kernel
theorem dX4_kindsThatFit_35 : decode cX4_kindsThatFit 35 = .ok (.iinc 4 1, 3) := by decide +kernel
theorem dX4_kindsThatFit_38 : decode cX4_kindsThatFit 38 = .ok (.goto (-33), 3) := by decide +kernel
theorem dX4_kindsThatFit_41 : decode cX4_kindsThatFit 41 = .ok (.iload_n 3, 1) := by decide +kernel
theorem dX4_kindsThatFit_42 : decode cX4_kindsThatFit 42 = .ok (.ireturn, 1) := by decide +kernel
theorem dX4_honestiesThatFit_0 : decode cX4_honestiesThatFit 0 = .ok (.iconst 0, 1) := by decide +kernel
theorem dX4_honestiesThatFit_1 : decode cX4_honestiesThatFit 1 = .ok (.istore_n 3, 1) := by decide +kernel
theorem dX4_honestiesThatFit_2 : decode cX4_honestiesThatFit 2 = .ok (.iconst 0, 1) := by decide +kernel
theorem dX4_honestiesThatFit_3 : decode cX4_honestiesThatFit 3 = .ok (.istore 4, 2) := by decide +kernel
theorem dX4_honestiesThatFit_5 : decode cX4_honestiesThatFit 5 = .ok (.iload 4, 2) := by decide +kernel
theorem dX4_honestiesThatFit_7 : decode cX4_honestiesThatFit 7 = .ok (.bipush 12, 2) := by decide +kernel
theorem dX4_honestiesThatFit_9 : decode cX4_honestiesThatFit 9 = .ok (.if_icmp .gt 32, 3) := by decide +kernel
theorem dX4_honestiesThatFit_12 : decode cX4_honestiesThatFit 12 = .ok (.aload_n 0, 1) := by decide +kernel
theorem dX4_honestiesThatFit_13 : decode cX4_honestiesThatFit 13 = .ok (.aload_n 1, 1) := by decide +kernel
theorem dX4_honestiesThatFit_14 : decode cX4_honestiesThatFit 14 = .ok (.iload_n 2, 1) := by decide +kernel
theorem dX4_honestiesThatFit_15 : decode cX4_honestiesThatFit 15 = .ok (.aload_n 1, 1) := by decide +kernel
theorem dX4_honestiesThatFit_16 : decode cX4_honestiesThatFit 16 = .ok (.iload_n 2, 1) := by decide +kernel
theorem dX4_honestiesThatFit_17 : decode cX4_honestiesThatFit 17 = .ok (.invokevirtual 38, 3) := by decide +kernel
theorem dX4_honestiesThatFit_20 : decode cX4_honestiesThatFit 20 = .ok (.iload 4, 2) := by decide +kernel
theorem dX4_honestiesThatFit_22 : decode cX4_honestiesThatFit 22 = .ok (.invokevirtual 34, 3) := by decide +kernel
theorem dX4_honestiesThatFit_25 : decode cX4_honestiesThatFit 25 = .ok (.ifCond .eq 10, 3) := by decide +kernel
theorem dX4_honestiesThatFit_28 : decode cX4_honestiesThatFit 28 = .ok (.iload_n 3, 1) := by decide +kernel
theorem dX4_honestiesThatFit_29 : decode cX4_honestiesThatFit 29 = .ok (.iconst 1, 1) := by decide +kernel
theorem dX4_honestiesThatFit_30 : decode cX4_honestiesThatFit 30 = .ok (.iload 4, 2) := by decide +kernel
theorem dX4_honestiesThatFit_32 : decode cX4_honestiesThatFit 32 = .ok (.ishl, 1) := by decide +kernel
theorem dX4_honestiesThatFit_33 : decode cX4_honestiesThatFit 33 = .ok (.ior, 1) := by decide +kernel
theorem dX4_honestiesThatFit_34 : decode cX4_honestiesThatFit 34 = .ok (.istore_n 3, 1) := by decide +kernel
theorem dX4_honestiesThatFit_35 : decode cX4_honestiesThatFit 35 = .ok (.iinc 4 1, 3) := by decide +kernel
theorem dX4_honestiesThatFit_38 : decode cX4_honestiesThatFit 38 = .ok (.goto (-33), 3) := by decide +kernel
theorem dX4_honestiesThatFit_41 : decode cX4_honestiesThatFit 41 = .ok (.iload_n 3, 1) := by decide +kernel
theorem dX4_honestiesThatFit_42 : decode cX4_honestiesThatFit 42 = .ok (.ireturn, 1) := by decide +kernel
theorem dX4_bestWeighing_0 : decode cX4_bestWeighing 0 = .ok (.iload_n 1, 1) := by decide +kernel
theorem dX4_bestWeighing_1 : decode cX4_bestWeighing 1 = .ok (.ifCond .ne 5, 3) := by decide +kernel
theorem dX4_bestWeighing_4 : decode cX4_bestWeighing 4 = .ok (.iconst (-1), 1) := by decide +kernel
theorem dX4_bestWeighing_5 : decode cX4_bestWeighing 5 = .ok (.ireturn, 1) := by decide +kernel
theorem dX4_bestWeighing_6 : decode cX4_bestWeighing 6 = .ok (.iconst 0, 1) := by decide +kernel
theorem dX4_bestWeighing_7 : decode cX4_bestWeighing 7 = .ok (.istore_n 3, 1) := by decide +kernel
theorem dX4_bestWeighing_8 : decode cX4_bestWeighing 8 = .ok (.bipush 7, 2) := by decide +kernel
theorem dX4_bestWeighing_10 : decode cX4_bestWeighing 10 = .ok (.istore 4, 2) := by decide +kernel
theorem dX4_bestWeighing_12 : decode cX4_bestWeighing 12 = .ok (.iconst 0, 1) := by decide +kernel
theorem dX4_bestWeighing_13 : decode cX4_bestWeighing 13 = .ok (.istore 5, 2) := by decide +kernel
theorem dX4_bestWeighing_15 : decode cX4_bestWeighing 15 = .ok (.iload 5, 2) := by decide +kernel
theorem dX4_bestWeighing_17 : decode cX4_bestWeighing 17 = .ok (.bipush 20, 2) := by decide +kernel
theorem dX4_bestWeighing_19 : decode cX4_bestWeighing 19 = .ok (.if_icmp .gt 33, 3) := by decide +kernel
theorem dX4_bestWeighing_22 : decode cX4_bestWeighing 22 = .ok (.aload_n 0, 1) := by decide +kernel
theorem dX4_bestWeighing_23 : decode cX4_bestWeighing 23 = .ok (.iload_n 1, 1) := by decide +kernel
theorem dX4_bestWeighing_24 : decode cX4_bestWeighing 24 = .ok (.iload 5, 2) := by decide +kernel
theorem dX4_bestWeighing_26 : decode cX4_bestWeighing 26 = .ok (.iload_n 2, 1) := by decide +kernel
theorem dX4_bestWeighing_27 : decode cX4_bestWeighing 27 = .ok (.invokestatic 41, 3) := by decide +kernel
theorem dX4_bestWeighing_30 : decode cX4_bestWeighing 30 = .ok (.istore 6, 2) := by decide +kernel
theorem dX4_bestWeighing_32 : decode cX4_bestWeighing 32 = .ok (.iload 6, 2) := by decide +kernel
theorem dX4_bestWeighing_34 : decode cX4_bestWeighing 34 = .ok (.iload 4, 2) := by decide +kernel
theorem dX4_bestWeighing_36 : decode cX4_bestWeighing 36 = .ok (.if_icmp .ge 10, 3) := by decide +kernel
theorem dX4_bestWeighing_39 : decode cX4_bestWeighing 39 = .ok (.iload 6, 2) := by decide +kernel
theorem dX4_bestWeighing_41 : decode cX4_bestWeighing 41 = .ok (.istore 4, 2) := by decide +kernel
theorem dX4_bestWeighing_43 : decode cX4_bestWeighing 43 = .ok (.iload 5, 2) := by decide +kernel
theorem dX4_bestWeighing_45 : decode cX4_bestWeighing 45 = .ok (.istore_n 3, 1) := by decide +kernel
theorem dX4_bestWeighing_46 : decode cX4_bestWeighing 46 = .ok (.iinc 5 1, 3) := by decide +kernel
theorem dX4_bestWeighing_49 : decode cX4_bestWeighing 49 = .ok (.goto (-34), 3) := by decide +kernel
theorem dX4_bestWeighing_52 : decode cX4_bestWeighing 52 = .ok (.iload_n 3, 1) := by decide +kernel
theorem dX4_bestWeighing_53 : decode cX4_bestWeighing 53 = .ok (.ireturn, 1) := by decide +kernel
theorem dX4_mixInto_0 : decode cX4_mixInto 0 = .ok (.lload_n 1, 1) := by decide +kernel
theorem dX4_mixInto_1 : decode cX4_mixInto 1 = .ok (.lstore_n 3, 1) := by decide +kernel
theorem dX4_mixInto_2 : decode cX4_mixInto 2 = .ok (.iconst 0, 1) := by decide +kernel
theorem dX4_mixInto_3 : decode cX4_mixInto 3 = .ok (.istore 5, 2) := by decide +kernel
theorem dX4_mixInto_5 : decode cX4_mixInto 5 = .ok (.iload 5, 2) := by decide +kernel
theorem dX4_mixInto_7 : decode cX4_mixInto 7 = .ok (.aload_n 0, 1) := by decide +kernel
theorem dX4_mixInto_8 : decode cX4_mixInto 8 = .ok (.getfield 24, 3) := by decide +kernel
theorem dX4_mixInto_11 : decode cX4_mixInto 11 = .ok (.if_icmp .ge 76, 3) := by decide +kernel
theorem dX4_mixInto_14 : decode cX4_mixInto 14 = .ok (.iload 5, 2) := by decide +kernel
theorem dX4_mixInto_16 : decode cX4_mixInto 16 = .ok (.bipush 6, 2) := by decide +kernel
theorem dX4_mixInto_18 : decode cX4_mixInto 18 = .ok (.if_icmp .ge 69, 3) := by decide +kernel
theorem dX4_mixInto_21 : decode cX4_mixInto 21 = .ok (.ldc2_w 45, 3) := by decide +kernel
theorem dX4_mixInto_24 : decode cX4_mixInto 24 = .ok (.lload_n 3, 1) := by decide +kernel
theorem dX4_mixInto_25 : decode cX4_mixInto 25 = .ok (.lmul, 1) := by decide +kernel
theorem dX4_mixInto_26 : decode cX4_mixInto 26 = .ok (.aload_n 0, 1) := by decide +kernel
theorem dX4_mixInto_27 : decode cX4_mixInto 27 = .ok (.getfield 9, 3) := by decide +kernel
theorem dX4_mixInto_30 : decode cX4_mixInto 30 = .ok (.iload 5, 2) := by decide +kernel
theorem dX4_mixInto_32 : decode cX4_mixInto 32 = .ok (.iaload, 1) := by decide +kernel
theorem dX4_mixInto_33 : decode cX4_mixInto 33 = .ok (.i2l, 1) := by decide +kernel
theorem dX4_mixInto_34 : decode cX4_mixInto 34 = .ok (.ladd, 1) := by decide +kernel
theorem dX4_mixInto_35 : decode cX4_mixInto 35 = .ok (.lstore_n 3, 1) := by decide +kernel
theorem dX4_mixInto_36 : decode cX4_mixInto 36 = .ok (.ldc2_w 45, 3) := by decide +kernel
theorem dX4_mixInto_39 : decode cX4_mixInto 39 = .ok (.lload_n 3, 1) := by decide +kernel
theorem dX4_mixInto_40 : decode cX4_mixInto 40 = .ok (.lmul, 1) := by decide +kernel
theorem dX4_mixInto_41 : decode cX4_mixInto 41 = .ok (.aload_n 0, 1) := by decide +kernel
theorem dX4_mixInto_42 : decode cX4_mixInto 42 = .ok (.getfield 15, 3) := by decide +kernel
theorem dX4_mixInto_45 : decode cX4_mixInto 45 = .ok (.iload 5, 2) := by decide +kernel
theorem dX4_mixInto_47 : decode cX4_mixInto 47 = .ok (.iaload, 1) := by decide +kernel
theorem dX4_mixInto_48 : decode cX4_mixInto 48 = .ok (.i2l, 1) := by decide +kernel
theorem dX4_mixInto_49 : decode cX4_mixInto 49 = .ok (.ladd, 1) := by decide +kernel
theorem dX4_mixInto_50 : decode cX4_mixInto 50 = .ok (.lstore_n 3, 1) := by decide +kernel
theorem dX4_mixInto_51 : decode cX4_mixInto 51 = .ok (.ldc2_w 45, 3) := by decide +kernel
theorem dX4_mixInto_54 : decode cX4_mixInto 54 = .ok (.lload_n 3, 1) := by decide +kernel
theorem dX4_mixInto_55 : decode cX4_mixInto 55 = .ok (.lmul, 1) := by decide +kernel
theorem dX4_mixInto_56 : decode cX4_mixInto 56 = .ok (.aload_n 0, 1) := by decide +kernel
theorem dX4_mixInto_57 : decode cX4_mixInto 57 = .ok (.getfield 18, 3) := by decide +kernel
theorem dX4_mixInto_60 : decode cX4_mixInto 60 = .ok (.iload 5, 2) := by decide +kernel
theorem dX4_mixInto_62 : decode cX4_mixInto 62 = .ok (.iaload, 1) := by decide +kernel
theorem dX4_mixInto_63 : decode cX4_mixInto 63 = .ok (.i2l, 1) := by decide +kernel
theorem dX4_mixInto_64 : decode cX4_mixInto 64 = .ok (.ladd, 1) := by decide +kernel
theorem dX4_mixInto_65 : decode cX4_mixInto 65 = .ok (.lstore_n 3, 1) := by decide +kernel
theorem dX4_mixInto_66 : decode cX4_mixInto 66 = .ok (.ldc2_w 45, 3) := by decide +kernel
theorem dX4_mixInto_69 : decode cX4_mixInto 69 = .ok (.lload_n 3, 1) := by decide +kernel
theorem dX4_mixInto_70 : decode cX4_mixInto 70 = .ok (.lmul, 1) := by decide +kernel
theorem dX4_mixInto_71 : decode cX4_mixInto 71 = .ok (.aload_n 0, 1) := by decide +kernel
theorem dX4_mixInto_72 : decode cX4_mixInto 72 = .ok (.getfield 21, 3) := by decide +kernel
theorem dX4_mixInto_75 : decode cX4_mixInto 75 = .ok (.iload 5, 2) := by decide +kernel
theorem dX4_mixInto_77 : decode cX4_mixInto 77 = .ok (.iaload, 1) := by decide +kernel
theorem dX4_mixInto_78 : decode cX4_mixInto 78 = .ok (.i2l, 1) := by decide +kernel
theorem dX4_mixInto_79 : decode cX4_mixInto 79 = .ok (.ladd, 1) := by decide +kernel
theorem dX4_mixInto_80 : decode cX4_mixInto 80 = .ok (.lstore_n 3, 1) := by decide +kernel
theorem dX4_mixInto_81 : decode cX4_mixInto 81 = .ok (.iinc 5 1, 3) := by decide +kernel
theorem dX4_mixInto_84 : decode cX4_mixInto 84 = .ok (.goto (-79), 3) := by decide +kernel
theorem dX4_mixInto_87 : decode cX4_mixInto 87 = .ok (.lload_n 3, 1) := by decide +kernel
theorem dX4_mixInto_88 : decode cX4_mixInto 88 = .ok (.lreturn, 1) := by decide +kernel
theorem dX4_allFit_0 : decode cX4_allFit 0 = .ok (.iconst 0, 1) := by decide +kernel
theorem dX4_allFit_1 : decode cX4_allFit 1 = .ok (.istore 5, 2) := by decide +kernel
theorem dX4_allFit_3 : decode cX4_allFit 3 = .ok (.iload 5, 2) := by decide +kernel
theorem dX4_allFit_5 : decode cX4_allFit 5 = .ok (.aload_n 0, 1) := by decide +kernel
theorem dX4_allFit_6 : decode cX4_allFit 6 = .ok (.getfield 24, 3) := by decide +kernel
theorem dX4_allFit_9 : decode cX4_allFit 9 = .ok (.if_icmp .ge 60, 3) := by decide +kernel
theorem dX4_allFit_12 : decode cX4_allFit 12 = .ok (.iload 5, 2) := by decide +kernel
theorem dX4_allFit_14 : decode cX4_allFit 14 = .ok (.bipush 6, 2) := by decide +kernel
theorem dX4_allFit_16 : decode cX4_allFit 16 = .ok (.if_icmp .ge 53, 3) := by decide +kernel
theorem dX4_allFit_19 : decode cX4_allFit 19 = .ok (.aload_n 0, 1) := by decide +kernel
theorem dX4_allFit_20 : decode cX4_allFit 20 = .ok (.getfield 9, 3) := by decide +kernel
theorem dX4_allFit_23 : decode cX4_allFit 23 = .ok (.iload 5, 2) := by decide +kernel
theorem dX4_allFit_25 : decode cX4_allFit 25 = .ok (.iaload, 1) := by decide +kernel
theorem dX4_allFit_26 : decode cX4_allFit 26 = .ok (.iload_n 2, 1) := by decide +kernel
theorem dX4_allFit_27 : decode cX4_allFit 27 = .ok (.if_icmp .ne 36, 3) := by decide +kernel
theorem dX4_allFit_30 : decode cX4_allFit 30 = .ok (.aload_n 1, 1) := by decide +kernel
theorem dX4_allFit_31 : decode cX4_allFit 31 = .ok (.iload_n 3, 1) := by decide +kernel
theorem dX4_allFit_32 : decode cX4_allFit 32 = .ok (.aload_n 0, 1) := by decide +kernel
theorem dX4_allFit_33 : decode cX4_allFit 33 = .ok (.getfield 15, 3) := by decide +kernel
theorem dX4_allFit_36 : decode cX4_allFit 36 = .ok (.iload 5, 2) := by decide +kernel
theorem dX4_allFit_38 : decode cX4_allFit 38 = .ok (.iaload, 1) := by decide +kernel
theorem dX4_allFit_39 : decode cX4_allFit 39 = .ok (.iload 4, 2) := by decide +kernel
theorem dX4_allFit_41 : decode cX4_allFit 41 = .ok (.aload_n 0, 1) := by decide +kernel
theorem dX4_allFit_42 : decode cX4_allFit 42 = .ok (.getfield 21, 3) := by decide +kernel
theorem dX4_allFit_45 : decode cX4_allFit 45 = .ok (.iload 5, 2) := by decide +kernel
theorem dX4_allFit_47 : decode cX4_allFit 47 = .ok (.iaload, 1) := by decide +kernel
theorem dX4_allFit_48 : decode cX4_allFit 48 = .ok (.invokevirtual 47, 3) := by decide +kernel
theorem dX4_allFit_51 : decode cX4_allFit 51 = .ok (.aload_n 0, 1) := by decide +kernel
theorem dX4_allFit_52 : decode cX4_allFit 52 = .ok (.getfield 18, 3) := by decide +kernel
theorem dX4_allFit_55 : decode cX4_allFit 55 = .ok (.iload 5, 2) := by decide +kernel
theorem dX4_allFit_57 : decode cX4_allFit 57 = .ok (.iaload, 1) := by decide +kernel
theorem dX4_allFit_58 : decode cX4_allFit 58 = .ok (.if_icmp .eq 5, 3) := by decide +kernel
theorem dX4_allFit_61 : decode cX4_allFit 61 = .ok (.iconst 0, 1) := by decide +kernel
theorem dX4_allFit_62 : decode cX4_allFit 62 = .ok (.ireturn, 1) := by decide +kernel
theorem dX4_allFit_63 : decode cX4_allFit 63 = .ok (.iinc 5 1, 3) := by decide +kernel
theorem dX4_allFit_66 : decode cX4_allFit 66 = .ok (.goto (-63), 3) := by decide +kernel
theorem dX4_allFit_69 : decode cX4_allFit 69 = .ok (.iconst 1, 1) := by decide +kernel
theorem dX4_allFit_70 : decode cX4_allFit 70 = .ok (.ireturn, 1) := by decide +kernel
theorem dX4_mostAlike_0 : decode cX4_mostAlike 0 = .ok (.iconst 0, 1) := by decide +kernel
theorem dX4_mostAlike_1 : decode cX4_mostAlike 1 = .ok (.istore 4, 2) := by decide +kernel
theorem dX4_mostAlike_3 : decode cX4_mostAlike 3 = .ok (.iconst 0, 1) := by decide +kernel
theorem dX4_mostAlike_4 : decode cX4_mostAlike 4 = .ok (.istore 5, 2) := by decide +kernel
theorem dX4_mostAlike_6 : decode cX4_mostAlike 6 = .ok (.iload 5, 2) := by decide +kernel
theorem dX4_mostAlike_8 : decode cX4_mostAlike 8 = .ok (.bipush 6, 2) := by decide +kernel
theorem dX4_mostAlike_10 : decode cX4_mostAlike 10 = .ok (.if_icmp .ge 89, 3) := by decide +kernel
theorem dX4_mostAlike_13 : decode cX4_mostAlike 13 = .ok (.iconst 0, 1) := by decide +kernel
theorem dX4_mostAlike_14 : decode cX4_mostAlike 14 = .ok (.istore 6, 2) := by decide +kernel
theorem dX4_mostAlike_16 : decode cX4_mostAlike 16 = .ok (.aload_n 0, 1) := by decide +kernel
theorem dX4_mostAlike_17 : decode cX4_mostAlike 17 = .ok (.iload 5, 2) := by decide +kernel
theorem dX4_mostAlike_19 : decode cX4_mostAlike 19 = .ok (.iload_n 2, 1) := by decide +kernel
theorem dX4_mostAlike_20 : decode cX4_mostAlike 20 = .ok (.iload_n 3, 1) := by decide +kernel
theorem dX4_mostAlike_21 : decode cX4_mostAlike 21 = .ok (.aload_n 0, 1) := by decide +kernel
theorem dX4_mostAlike_22 : decode cX4_mostAlike 22 = .ok (.invokevirtual 51, 3) := by decide +kernel
theorem dX4_mostAlike_25 : decode cX4_mostAlike 25 = .ok (.invokevirtual 47, 3) := by decide +kernel
theorem dX4_mostAlike_28 : decode cX4_mostAlike 28 = .ok (.istore 7, 2) := by decide +kernel
theorem dX4_mostAlike_30 : decode cX4_mostAlike 30 = .ok (.iconst 0, 1) := by decide +kernel
theorem dX4_mostAlike_31 : decode cX4_mostAlike 31 = .ok (.istore 8, 2) := by decide +kernel
theorem dX4_mostAlike_33 : decode cX4_mostAlike 33 = .ok (.iload 8, 2) := by decide +kernel
theorem dX4_mostAlike_35 : decode cX4_mostAlike 35 = .ok (.bipush 6, 2) := by decide +kernel
theorem dX4_mostAlike_37 : decode cX4_mostAlike 37 = .ok (.if_icmp .ge 38, 3) := by decide +kernel
theorem dX4_mostAlike_40 : decode cX4_mostAlike 40 = .ok (.iload_n 1, 1) := by decide +kernel
theorem dX4_mostAlike_41 : decode cX4_mostAlike 41 = .ok (.iload 8, 2) := by decide +kernel
theorem dX4_mostAlike_43 : decode cX4_mostAlike 43 = .ok (.ishr, 1) := by decide +kernel
theorem dX4_mostAlike_44 : decode cX4_mostAlike 44 = .ok (.iconst 1, 1) := by decide +kernel
theorem dX4_mostAlike_45 : decode cX4_mostAlike 45 = .ok (.iand, 1) := by decide +kernel
theorem dX4_mostAlike_46 : decode cX4_mostAlike 46 = .ok (.ifCond .eq 23, 3) := by decide +kernel
theorem dX4_mostAlike_49 : decode cX4_mostAlike 49 = .ok (.aload_n 0, 1) := by decide +kernel
theorem dX4_mostAlike_50 : decode cX4_mostAlike 50 = .ok (.iload 8, 2) := by decide +kernel
theorem dX4_mostAlike_52 : decode cX4_mostAlike 52 = .ok (.iload_n 2, 1) := by decide +kernel
theorem dX4_mostAlike_53 : decode cX4_mostAlike 53 = .ok (.iload_n 3, 1) := by decide +kernel
theorem dX4_mostAlike_54 : decode cX4_mostAlike 54 = .ok (.aload_n 0, 1) := by decide +kernel
theorem dX4_mostAlike_55 : decode cX4_mostAlike 55 = .ok (.invokevirtual 51, 3) := by decide +kernel
theorem dX4_mostAlike_58 : decode cX4_mostAlike 58 = .ok (.invokevirtual 47, 3) := by decide +kernel
theorem dX4_mostAlike_61 : decode cX4_mostAlike 61 = .ok (.iload 7, 2) := by decide +kernel
theorem dX4_mostAlike_63 : decode cX4_mostAlike 63 = .ok (.if_icmp .ne 6, 3) := by decide +kernel
theorem dX4_mostAlike_66 : decode cX4_mostAlike 66 = .ok (.iinc 6 1, 3) := by decide +kernel
theorem dX4_mostAlike_69 : decode cX4_mostAlike 69 = .ok (.iinc 8 1, 3) := by decide +kernel
theorem dX4_mostAlike_72 : decode cX4_mostAlike 72 = .ok (.goto (-39), 3) := by decide +kernel
theorem dX4_mostAlike_75 : decode cX4_mostAlike 75 = .ok (.iload_n 1, 1) := by decide +kernel
theorem dX4_mostAlike_76 : decode cX4_mostAlike 76 = .ok (.iload 5, 2) := by decide +kernel
theorem dX4_mostAlike_78 : decode cX4_mostAlike 78 = .ok (.ishr, 1) := by decide +kernel
theorem dX4_mostAlike_79 : decode cX4_mostAlike 79 = .ok (.iconst 1, 1) := by decide +kernel
theorem dX4_mostAlike_80 : decode cX4_mostAlike 80 = .ok (.iand, 1) := by decide +kernel
theorem dX4_mostAlike_81 : decode cX4_mostAlike 81 = .ok (.ifCond .eq 12, 3) := by decide +kernel
theorem dX4_mostAlike_84 : decode cX4_mostAlike 84 = .ok (.iload 4, 2) := by decide +kernel
theorem dX4_mostAlike_86 : decode cX4_mostAlike 86 = .ok (.iload 6, 2) := by decide +kernel
theorem dX4_mostAlike_88 : decode cX4_mostAlike 88 = .ok (.invokestatic 55, 3) := by decide +kernel
theorem dX4_mostAlike_91 : decode cX4_mostAlike 91 = .ok (.istore 4, 2) := by decide +kernel
theorem dX4_mostAlike_93 : decode cX4_mostAlike 93 = .ok (.iinc 5 1, 3) := by decide +kernel
theorem dX4_mostAlike_96 : decode cX4_mostAlike 96 = .ok (.goto (-90), 3) := by decide +kernel
theorem dX4_mostAlike_99 : decode cX4_mostAlike 99 = .ok (.iload 4, 2) := by decide +kernel
theorem dX4_mostAlike_101 : decode cX4_mostAlike 101 = .ok (.ireturn, 1) := by decide +kernel
theorem dX5_init_0 : decode cX5_init 0 = .ok (.aload_n 0, 1) := by decide +kernel
theorem dX5_init_1 : decode cX5_init 1 = .ok (.invokespecial 5, 3) := by decide +kernel
theorem dX5_init_4 : decode cX5_init 4 = .ok (.aload_n 0, 1) := by decide +kernel
theorem dX5_init_5 : decode cX5_init 5 = .ok (.bipush 112, 2) := by decide +kernel
theorem dX5_init_7 : decode cX5_init 7 = .ok (.newarray .int, 2) := by decide +kernel
theorem dX5_init_9 : decode cX5_init 9 = .ok (.putfield 11, 3) := by decide +kernel
theorem dX5_init_12 : decode cX5_init 12 = .ok (.return_, 1) := by decide +kernel
theorem dX5_size_0 : decode cX5_size 0 = .ok (.aload_n 0, 1) := by decide +kernel
theorem dX5_size_1 : decode cX5_size 1 = .ok (.getfield 15, 3) := by decide +kernel
theorem dX5_size_4 : decode cX5_size 4 = .ok (.ireturn, 1) := by decide +kernel
theorem dX5_drop_0 : decode cX5_drop 0 = .ok (.aload_n 0, 1) := by decide +kernel
theorem dX5_drop_1 : decode cX5_drop 1 = .ok (.iconst 0, 1) := by decide +kernel
theorem dX5_drop_2 : decode cX5_drop 2 = .ok (.putfield 15, 3) := by decide +kernel
theorem dX5_drop_5 : decode cX5_drop 5 = .ok (.return_, 1) := by decide +kernel
theorem dX5_dropLast_0 : decode cX5_dropLast 0 = .ok (.aload_n 0, 1) := by decide +kernel
theorem dX5_dropLast_1 : decode cX5_dropLast 1 = .ok (.iconst 0, 1) := by decide +kernel
theorem dX5_dropLast_2 : decode cX5_dropLast 2 = .ok (.aload_n 0, 1) := by decide +kernel
theorem dX5_dropLast_3 : decode cX5_dropLast 3 = .ok (.getfield 15, 3) := by decide +kernel
theorem dX5_dropLast_6 : decode cX5_dropLast 6 = .ok (.iconst 1, 1) := by decide +kernel
theorem dX5_dropLast_7 : decode cX5_dropLast 7 = .ok (.isub, 1) := by decide +kernel
theorem dX5_dropLast_8 : decode cX5_dropLast 8 = .ok (.invokestatic 19, 3) := by decide +kernel
theorem dX5_dropLast_11 : decode cX5_dropLast 11 = .ok (.putfield 15, 3) := by decide +kernel
theorem dX5_dropLast_14 : decode cX5_dropLast 14 = .ok (.return_, 1) := by decide +kernel
theorem dX5_open_0 : decode cX5_open 0 = .ok (.aload_n 0, 1) := by decide +kernel
theorem dX5_open_1 : decode cX5_open 1 = .ok (.getfield 15, 3) := by decide +kernel
theorem dX5_open_4 : decode cX5_open 4 = .ok (.bipush 8, 2) := by decide +kernel
theorem dX5_open_6 : decode cX5_open 6 = .ok (.if_icmp .ge 14, 3) := by decide +kernel
theorem dX5_open_9 : decode cX5_open 9 = .ok (.aload_n 0, 1) := by decide +kernel
theorem dX5_open_10 : decode cX5_open 10 = .ok (.dup, 1) := by decide +kernel
theorem dX5_open_11 : decode cX5_open 11 = .ok (.getfield 15, 3) := by decide +kernel
theorem dX5_open_14 : decode cX5_open 14 = .ok (.iconst 1, 1) := by decide +kernel
theorem dX5_open_15 : decode cX5_open 15 = .ok (.iadd, 1) := by decide +kernel
theorem dX5_open_16 : decode cX5_open 16 = .ok (.putfield 15, 3) := by decide +kernel
theorem dX5_open_19 : decode cX5_open 19 = .ok (.return_, 1) := by decide +kernel
theorem dX5_open_20 : decode cX5_open 20 = .ok (.bipush 14, 2) := by decide +kernel
theorem dX5_open_22 : decode cX5_open 22 = .ok (.istore_n 1, 1) := by decide +kernel
theorem dX5_open_23 : decode cX5_open 23 = .ok (.iload_n 1, 1) := by decide +kernel
theorem dX5_open_24 : decode cX5_open 24 = .ok (.aload_n 0, 1) := by decide +kernel
theorem dX5_open_25 : decode cX5_open 25 = .ok (.getfield 11, 3) := by decide +kernel
theorem dX5_open_28 : decode cX5_open 28 = .ok (.arraylength, 1) := by decide +kernel
theorem dX5_open_29 : decode cX5_open 29 = .ok (.if_icmp .ge 24, 3) := by decide +kernel
theorem dX5_open_32 : decode cX5_open 32 = .ok (.aload_n 0, 1) := by decide +kernel
theorem dX5_open_33 : decode cX5_open 33 = .ok (.getfield 11, 3) := by decide +kernel
theorem dX5_open_36 : decode cX5_open 36 = .ok (.iload_n 1, 1) := by decide +kernel
theorem dX5_open_37 : decode cX5_open 37 = .ok (.bipush 14, 2) := by decide +kernel
theorem dX5_open_39 : decode cX5_open 39 = .ok (.isub, 1) := by decide +kernel
theorem dX5_open_40 : decode cX5_open 40 = .ok (.aload_n 0, 1) := by decide +kernel
theorem dX5_open_41 : decode cX5_open 41 = .ok (.getfield 11, 3) := by decide +kernel
theorem dX5_open_44 : decode cX5_open 44 = .ok (.iload_n 1, 1) := by decide +kernel
theorem dX5_open_45 : decode cX5_open 45 = .ok (.iaload, 1) := by decide +kernel
theorem dX5_open_46 : decode cX5_open 46 = .ok (.iastore, 1) := by decide +kernel
theorem dX5_open_47 : decode cX5_open 47 = .ok (.iinc 1 1, 3) := by decide +kernel
theorem dX5_open_50 : decode cX5_open 50 = .ok (.goto (-27), 3) := by decide +kernel
theorem dX5_open_53 : decode cX5_open 53 = .ok (.return_, 1) := by decide +kernel
theorem dX5_put_0 : decode cX5_put 0 = .ok (.aload_n 0, 1) := by decide +kernel
theorem dX5_put_1 : decode cX5_put 1 = .ok (.iload_n 1, 1) := by decide +kernel
theorem dX5_put_2 : decode cX5_put 2 = .ok (.invokevirtual 25, 3) := by decide +kernel
theorem dX5_put_5 : decode cX5_put 5 = .ok (.istore_n 3, 1) := by decide +kernel
theorem dX5_put_6 : decode cX5_put 6 = .ok (.iload_n 3, 1) := by decide +kernel
theorem dX5_put_7 : decode cX5_put 7 = .ok (.ifCond .lt 19, 3) := by decide +kernel
theorem dX5_put_10 : decode cX5_put 10 = .ok (.iload_n 3, 1) := by decide +kernel
theorem dX5_put_11 : decode cX5_put 11 = .ok (.aload_n 0, 1) := by decide +kernel
theorem dX5_put_12 : decode cX5_put 12 = .ok (.getfield 11, 3) := by decide +kernel
theorem dX5_put_15 : decode cX5_put 15 = .ok (.arraylength, 1) := by decide +kernel
theorem dX5_put_16 : decode cX5_put 16 = .ok (.if_icmp .ge 10, 3) := by decide +kernel
theorem dX5_put_19 : decode cX5_put 19 = .ok (.aload_n 0, 1) := by decide +kernel
theorem dX5_put_20 : decode cX5_put 20 = .ok (.getfield 11, 3) := by decide +kernel
theorem dX5_put_23 : decode cX5_put 23 = .ok (.iload_n 3, 1) := by decide +kernel
theorem dX5_put_24 : decode cX5_put 24 = .ok (.iload_n 2, 1) := by decide +kernel
theorem dX5_put_25 : decode cX5_put 25 = .ok (.iastore, 1) := by decide +kernel
theorem dX5_put_26 : decode cX5_put 26 = .ok (.return_, 1) := by decide +kernel
theorem dX5_last_0 : decode cX5_last 0 = .ok (.aload_n 0, 1) := by decide +kernel
theorem dX5_last_1 : decode cX5_last 1 = .ok (.iload_n 1, 1) := by decide +kernel
theorem dX5_last_2 : decode cX5_last 2 = .ok (.invokevirtual 25, 3) := by decide +kernel
theorem dX5_last_5 : decode cX5_last 5 = .ok (.istore_n 2, 1) := by decide +kernel
theorem dX5_last_6 : decode cX5_last 6 = .ok (.iload_n 2, 1) := by decide +kernel
theorem dX5_last_7 : decode cX5_last 7 = .ok (.ifCond .lt 21, 3) := by decide +kernel
theorem dX5_last_10 : decode cX5_last 10 = .ok (.iload_n 2, 1) := by decide +kernel
theorem dX5_last_11 : decode cX5_last 11 = .ok (.aload_n 0, 1) := by decide +kernel
theorem dX5_last_12 : decode cX5_last 12 = .ok (.getfield 11, 3) := by decide +kernel
theorem dX5_last_15 : decode cX5_last 15 = .ok (.arraylength, 1) := by decide +kernel
theorem dX5_last_16 : decode cX5_last 16 = .ok (.if_icmp .ge 12, 3) := by decide +kernel
theorem dX5_last_19 : decode cX5_last 19 = .ok (.aload_n 0, 1) := by decide +kernel
theorem dX5_last_20 : decode cX5_last 20 = .ok (.getfield 11, 3) := by decide +kernel
theorem dX5_last_23 : decode cX5_last 23 = .ok (.iload_n 2, 1) := by decide +kernel
theorem dX5_last_24 : decode cX5_last 24 = .ok (.iaload, 1) := by decide +kernel
theorem dX5_last_25 : decode cX5_last 25 = .ok (.goto 4, 3) := by decide +kernel
theorem dX5_last_28 : decode cX5_last 28 = .ok (.iconst 0, 1) := by decide +kernel
theorem dX5_last_29 : decode cX5_last 29 = .ok (.ireturn, 1) := by decide +kernel
theorem dX5_copyFrom_0 : decode cX5_copyFrom 0 = .ok (.iconst 0, 1) := by decide +kernel
theorem dX5_copyFrom_1 : decode cX5_copyFrom 1 = .ok (.istore_n 2, 1) := by decide +kernel
theorem dX5_copyFrom_2 : decode cX5_copyFrom 2 = .ok (.iload_n 2, 1) := by decide +kernel
theorem dX5_copyFrom_3 : decode cX5_copyFrom 3 = .ok (.bipush 112, 2) := by decide +kernel
theorem dX5_copyFrom_5 : decode cX5_copyFrom 5 = .ok (.if_icmp .ge 21, 3) := by decide +kernel
theorem dX5_copyFrom_8 : decode cX5_copyFrom 8 = .ok (.aload_n 0, 1) := by decide +kernel
theorem dX5_copyFrom_9 : decode cX5_copyFrom 9 = .ok (.getfield 11, 3) := by decide +kernel
theorem dX5_copyFrom_12 : decode cX5_copyFrom 12 = .ok (.iload_n 2, 1) := by decide +kernel
theorem dX5_copyFrom_13 : decode cX5_copyFrom 13 = .ok (.aload_n 1, 1) := by decide +kernel
theorem dX5_copyFrom_14 : decode cX5_copyFrom 14 = .ok (.getfield 11, 3) := by decide +kernel
theorem dX5_copyFrom_17 : decode cX5_copyFrom 17 = .ok (.iload_n 2, 1) := by decide +kernel
theorem dX5_copyFrom_18 : decode cX5_copyFrom 18 = .ok (.iaload, 1) := by decide +kernel
theorem dX5_copyFrom_19 : decode cX5_copyFrom 19 = .ok (.iastore, 1) := by decide +kernel
theorem dX5_copyFrom_20 : decode cX5_copyFrom 20 = .ok (.iinc 2 1, 3) := by decide +kernel
theorem dX5_copyFrom_23 : decode cX5_copyFrom 23 = .ok (.goto (-21), 3) := by decide +kernel
theorem dX5_copyFrom_26 : decode cX5_copyFrom 26 = .ok (.aload_n 0, 1) := by decide +kernel
theorem dX5_copyFrom_27 : decode cX5_copyFrom 27 = .ok (.aload_n 1, 1) := by decide +kernel
theorem dX5_copyFrom_28 : decode cX5_copyFrom 28 = .ok (.getfield 15, 3) := by decide +kernel
theorem dX5_copyFrom_31 : decode cX5_copyFrom 31 = .ok (.putfield 15, 3) := by decide +kernel
theorem dX5_copyFrom_34 : decode cX5_copyFrom 34 = .ok (.return_, 1) := by decide +kernel
theorem dX5_placeOf_0 : decode cX5_placeOf 0 = .ok (.aload_n 0, 1) := by decide +kernel
theorem dX5_placeOf_1 : decode cX5_placeOf 1 = .ok (.getfield 15, 3) := by decide +kernel
theorem dX5_placeOf_4 : decode cX5_placeOf 4 = .ok (.iconst 1, 1) := by decide +kernel
theorem dX5_placeOf_5 : decode cX5_placeOf 5 = .ok (.isub, 1) := by decide +kernel
theorem dX5_placeOf_6 : decode cX5_placeOf 6 = .ok (.bipush 14, 2) := by decide +kernel
theorem dX5_placeOf_8 : decode cX5_placeOf 8 = .ok (.imul, 1) := by decide +kernel
theorem dX5_placeOf_9 : decode cX5_placeOf 9 = .ok (.iload_n 1, 1) := by decide +kernel
theorem dX5_placeOf_10 : decode cX5_placeOf 10 = .ok (.iadd, 1) := by decide +kernel
theorem dX5_placeOf_11 : decode cX5_placeOf 11 = .ok (.ireturn, 1) := by decide +kernel
theorem dX6_init_0 : decode cX6_init 0 = .ok (.aload_n 0, 1) := by decide +kernel
theorem dX6_init_1 : decode cX6_init 1 = .ok (.invokespecial 1, 3) := by decide +kernel
theorem dX6_init_4 : decode cX6_init 4 = .ok (.return_, 1) := by decide +kernel
theorem dX6_weight_0 : decode cX6_weight 0 = .ok (.iload_n 1, 1) := by decide +kernel
theorem dX6_weight_1 : decode cX6_weight 1 = .ok (.iload_n 2, 1) := by decide +kernel
theorem dX6_weight_2 : decode cX6_weight 2 = .ok (.imul, 1) := by decide +kernel
theorem dX6_weight_3 : decode cX6_weight 3 = .ok (.ireturn, 1) := by decide +kernel
theorem dX6_loss_0 : decode cX6_loss 0 = .ok (.iload_n 1, 1) := by decide +kernel
theorem dX6_loss_1 : decode cX6_loss 1 = .ok (.ireturn, 1) := by decide +kernel
theorem dX7_init_0 : decode cX7_init 0 = .ok (.aload_n 0, 1) := by decide +kernel
theorem dX7_init_1 : decode cX7_init 1 = .ok (.invokespecial 3, 3) := by decide +kernel
theorem dX7_init_4 : decode cX7_init 4 = .ok (.aload_n 0, 1) := by decide +kernel
theorem dX7_init_5 : decode cX7_init 5 = .ok (.sipush 150, 3) := by decide +kernel
theorem dX7_init_8 : decode cX7_init 8 = .ok (.newarray .int, 2) := by decide +kernel
theorem dX7_init_10 : decode cX7_init 10 = .ok (.putfield 9, 3) := by decide +kernel
theorem dX7_init_13 : decode cX7_init 13 = .ok (.aload_n 0, 1) := by decide +kernel
theorem dX7_init_14 : decode cX7_init 14 = .ok (.iconst (-1), 1) := by decide +kernel
theorem dX7_init_15 : decode cX7_init 15 = .ok (.putfield 15, 3) := by decide +kernel
theorem dX7_init_18 : decode cX7_init 18 = .ok (.return_, 1) := by decide +kernel
theorem dX7_length_0 : decode cX7_length 0 = .ok (.aload_n 0, 1) := by decide +kernel
theorem dX7_length_1 : decode cX7_length 1 = .ok (.getfield 19, 3) := by decide +kernel
theorem dX7_length_4 : decode cX7_length 4 = .ok (.ireturn, 1) := by decide +kernel
theorem dX7_drop_0 : decode cX7_drop 0 = .ok (.aload_n 0, 1) := by decide +kernel
theorem dX7_drop_1 : decode cX7_drop 1 = .ok (.iconst 0, 1) := by decide +kernel
theorem dX7_drop_2 : decode cX7_drop 2 = .ok (.putfield 19, 3) := by decide +kernel
theorem dX7_drop_5 : decode cX7_drop 5 = .ok (.return_, 1) := by decide +kernel
theorem dX7_append_0 : decode cX7_append 0 = .ok (.aload_n 0, 1) := by decide +kernel
theorem dX7_append_1 : decode cX7_append 1 = .ok (.getfield 19, 3) := by decide +kernel
theorem dX7_append_4 : decode cX7_append 4 = .ok (.ifCond .lt 13, 3) := by decide +kernel
theorem dX7_append_7 : decode cX7_append 7 = .ok (.aload_n 0, 1) := by decide +kernel
theorem dX7_append_8 : decode cX7_append 8 = .ok (.getfield 19, 3) := by decide +kernel
theorem dX7_append_11 : decode cX7_append 11 = .ok (.sipush 150, 3) := by decide +kernel
theorem dX7_append_14 : decode cX7_append 14 = .ok (.if_icmp .lt 6, 3) := by decide +kernel
theorem dX7_append_17 : decode cX7_append 17 = .ok (.bipush (-4), 2) := by decide +kernel
theorem dX7_append_19 : decode cX7_append 19 = .ok (.ireturn, 1) := by decide +kernel
theorem dX7_append_20 : decode cX7_append 20 = .ok (.aload_n 0, 1) := by decide +kernel
theorem dX7_append_21 : decode cX7_append 21 = .ok (.getfield 9, 3) := by decide +kernel
theorem dX7_append_24 : decode cX7_append 24 = .ok (.aload_n 0, 1) := by decide +kernel
theorem dX7_append_25 : decode cX7_append 25 = .ok (.getfield 19, 3) := by decide +kernel
theorem dX7_append_28 : decode cX7_append 28 = .ok (.iload_n 1, 1) := by decide +kernel
theorem dX7_append_29 : decode cX7_append 29 = .ok (.iastore, 1) := by decide +kernel
theorem dX7_append_30 : decode cX7_append 30 = .ok (.aload_n 0, 1) := by decide +kernel
theorem dX7_append_31 : decode cX7_append 31 = .ok (.dup, 1) := by decide +kernel
theorem dX7_append_32 : decode cX7_append 32 = .ok (.getfield 19, 3) := by decide +kernel
theorem dX7_append_35 : decode cX7_append 35 = .ok (.iconst 1, 1) := by decide +kernel
theorem dX7_append_36 : decode cX7_append 36 = .ok (.iadd, 1) := by decide +kernel
theorem dX7_append_37 : decode cX7_append 37 = .ok (.putfield 19, 3) := by decide +kernel
theorem dX7_append_40 : decode cX7_append 40 = .ok (.aload_n 0, 1) := by decide +kernel
theorem dX7_append_41 : decode cX7_append 41 = .ok (.getfield 19, 3) := by decide +kernel
theorem dX7_append_44 : decode cX7_append 44 = .ok (.ireturn, 1) := by decide +kernel
theorem dX7_faultAt_0 : decode cX7_faultAt 0 = .ok (.aload_n 0, 1) := by decide +kernel
theorem dX7_faultAt_1 : decode cX7_faultAt 1 = .ok (.getfield 15, 3) := by decide +kernel
theorem dX7_faultAt_4 : decode cX7_faultAt 4 = .ok (.ireturn, 1) := by decide +kernel
theorem dX7_readInto_0 : decode cX7_readInto 0 = .ok (.aload_n 1, 1) := by decide +kernel
theorem dX7_readInto_1 : decode cX7_readInto 1 = .ok (.invokevirtual 22, 3) := by decide +kernel
theorem dX7_readInto_4 : decode cX7_readInto 4 = .ok (.aload_n 0, 1) := by decide +kernel
theorem dX7_readInto_5 : decode cX7_readInto 5 = .ok (.iconst (-1), 1) := by decide +kernel
theorem dX7_readInto_6 : decode cX7_readInto 6 = .ok (.putfield 15, 3) := by decide +kernel
theorem dX7_readInto_9 : decode cX7_readInto 9 = .ok (.aload_n 0, 1) := by decide +kernel
theorem dX7_readInto_10 : decode cX7_readInto 10 = .ok (.iconst 0, 1) := by decide +kernel
theorem dX7_readInto_11 : decode cX7_readInto 11 = .ok (.putfield 27, 3) := by decide +kernel
theorem dX7_readInto_14 : decode cX7_readInto 14 = .ok (.aload_n 0, 1) := by decide +kernel
theorem dX7_readInto_15 : decode cX7_readInto 15 = .ok (.invokevirtual 30, 3) := by decide +kernel
theorem dX7_readInto_18 : decode cX7_readInto 18 = .ok (.aload_n 0, 1) := by decide +kernel
theorem dX7_readInto_19 : decode cX7_readInto 19 = .ok (.invokevirtual 33, 3) := by decide +kernel
theorem dX7_readInto_22 : decode cX7_readInto 22 = .ok (.iconst 1, 1) := by decide +kernel
theorem dX7_readInto_23 : decode cX7_readInto 23 = .ok (.istore_n 2, 1) := by decide +kernel
theorem dX7_readInto_24 : decode cX7_readInto 24 = .ok (.iconst 0, 1) := by decide +kernel
theorem dX7_readInto_25 : decode cX7_readInto 25 = .ok (.istore_n 3, 1) := by decide +kernel
theorem dX7_readInto_26 : decode cX7_readInto 26 = .ok (.iload_n 3, 1) := by decide +kernel
theorem dX7_readInto_27 : decode cX7_readInto 27 = .ok (.sipush 150, 3) := by decide +kernel
theorem dX7_readInto_30 : decode cX7_readInto 30 = .ok (.if_icmp .ge 91, 3) := by decide +kernel
theorem dX7_readInto_33 : decode cX7_readInto 33 = .ok (.aload_n 0, 1) := by decide +kernel
theorem dX7_readInto_34 : decode cX7_readInto 34 = .ok (.getfield 15, 3) := by decide +kernel
theorem dX7_readInto_37 : decode cX7_readInto 37 = .ok (.iconst (-1), 1) := by decide +kernel
theorem dX7_readInto_38 : decode cX7_readInto 38 = .ok (.if_icmp .ne 83, 3) := by decide +kernel
theorem dX7_readInto_41 : decode cX7_readInto 41 = .ok (.aload_n 0, 1) := by decide +kernel
theorem dX7_readInto_42 : decode cX7_readInto 42 = .ok (.getfield 36, 3) := by decide +kernel
theorem dX7_readInto_45 : decode cX7_readInto 45 = .ok (.ifCond .eq 76, 3) := by decide +kernel
theorem dX7_readInto_48 : decode cX7_readInto 48 = .ok (.iinc 2 1, 3) := by decide +kernel
theorem dX7_readInto_51 : decode cX7_readInto 51 = .ok (.aload_n 0, 1) := by decide +kernel
theorem dX7_readInto_52 : decode cX7_readInto 52 = .ok (.ldc 39, 2) := by decide +kernel
theorem dX7_readInto_54 : decode cX7_readInto 54 = .ok (.invokevirtual 41, 3) := by decide +kernel
theorem dX7_readInto_57 : decode cX7_readInto 57 = .ok (.ifCond .eq 20, 3) := by decide +kernel
theorem dX7_readInto_60 : decode cX7_readInto 60 = .ok (.aload_n 1, 1) := by decide +kernel
theorem dX7_readInto_61 : decode cX7_readInto 61 = .ok (.invokevirtual 45, 3) := by decide +kernel
theorem dX7_readInto_64 : decode cX7_readInto 64 = .ok (.bipush 6, 2) := by decide +kernel
theorem dX7_readInto_66 : decode cX7_readInto 66 = .ok (.if_icmp .ge 11, 3) := by decide +kernel
theorem dX7_readInto_69 : decode cX7_readInto 69 = .ok (.aload_n 0, 1) := by decide +kernel
theorem dX7_readInto_70 : decode cX7_readInto 70 = .ok (.aload_n 1, 1) := by decide +kernel
theorem dX7_readInto_71 : decode cX7_readInto 71 = .ok (.invokevirtual 49, 3) := by decide +kernel
theorem dX7_readInto_74 : decode cX7_readInto 74 = .ok (.goto 41, 3) := by decide +kernel
theorem dX7_readInto_77 : decode cX7_readInto 77 = .ok (.aload_n 0, 1) := by decide +kernel
theorem dX7_readInto_78 : decode cX7_readInto 78 = .ok (.ldc 53, 2) := by decide +kernel
theorem dX7_readInto_80 : decode cX7_readInto 80 = .ok (.invokevirtual 41, 3) := by decide +kernel
theorem dX7_readInto_83 : decode cX7_readInto 83 = .ok (.ifCond .eq 11, 3) := by decide +kernel
theorem dX7_readInto_86 : decode cX7_readInto 86 = .ok (.aload_n 0, 1) := by decide +kernel
theorem dX7_readInto_87 : decode cX7_readInto 87 = .ok (.aload_n 1, 1) := by decide +kernel
theorem dX7_readInto_88 : decode cX7_readInto 88 = .ok (.invokevirtual 55, 3) := by decide +kernel
theorem dX7_readInto_91 : decode cX7_readInto 91 = .ok (.goto 24, 3) := by decide +kernel
theorem dX7_readInto_94 : decode cX7_readInto 94 = .ok (.aload_n 0, 1) := by decide +kernel
theorem dX7_readInto_95 : decode cX7_readInto 95 = .ok (.ldc 58, 2) := by decide +kernel
theorem dX7_readInto_97 : decode cX7_readInto 97 = .ok (.invokevirtual 41, 3) := by decide +kernel
theorem dX7_readInto_100 : decode cX7_readInto 100 = .ok (.ifCond .eq 11, 3) := by decide +kernel
theorem dX7_readInto_103 : decode cX7_readInto 103 = .ok (.aload_n 0, 1) := by decide +kernel
theorem dX7_readInto_104 : decode cX7_readInto 104 = .ok (.aload_n 1, 1) := by decide +kernel
theorem dX7_readInto_105 : decode cX7_readInto 105 = .ok (.invokevirtual 60, 3) := by decide +kernel
theorem dX7_readInto_108 : decode cX7_readInto 108 = .ok (.goto 7, 3) := by decide +kernel
theorem dX7_readInto_111 : decode cX7_readInto 111 = .ok (.aload_n 0, 1) := by decide +kernel
theorem dX7_readInto_112 : decode cX7_readInto 112 = .ok (.invokevirtual 63, 3) := by decide +kernel
theorem dX7_readInto_115 : decode cX7_readInto 115 = .ok (.iinc 3 1, 3) := by decide +kernel
theorem dX7_readInto_118 : decode cX7_readInto 118 = .ok (.goto (-92), 3) := by decide +kernel
theorem dX7_readInto_121 : decode cX7_readInto 121 = .ok (.iload_n 2, 1) := by decide +kernel
theorem dX7_readInto_122 : decode cX7_readInto 122 = .ok (.ireturn, 1) := by decide +kernel
theorem dX7_takeGold_0 : decode cX7_takeGold 0 = .ok (.aload_n 0, 1) := by decide +kernel
theorem dX7_takeGold_1 : decode cX7_takeGold 1 = .ok (.ldc 66, 2) := by decide +kernel
theorem dX7_takeGold_3 : decode cX7_takeGold 3 = .ok (.invokevirtual 41, 3) := by decide +kernel
theorem dX7_takeGold_6 : decode cX7_takeGold 6 = .ok (.ifCond .ne 8, 3) := by decide +kernel
theorem dX7_takeGold_9 : decode cX7_takeGold 9 = .ok (.aload_n 0, 1) := by decide +kernel
theorem dX7_takeGold_10 : decode cX7_takeGold 10 = .ok (.invokevirtual 63, 3) := by decide +kernel
theorem dX7_takeGold_13 : decode cX7_takeGold 13 = .ok (.return_, 1) := by decide +kernel
theorem dX7_takeGold_14 : decode cX7_takeGold 14 = .ok (.aload_n 0, 1) := by decide +kernel
theorem dX7_takeGold_15 : decode cX7_takeGold 15 = .ok (.invokevirtual 30, 3) := by decide +kernel
theorem dX7_takeGold_18 : decode cX7_takeGold 18 = .ok (.aload_n 0, 1) := by decide +kernel
theorem dX7_takeGold_19 : decode cX7_takeGold 19 = .ok (.invokevirtual 68, 3) := by decide +kernel
theorem dX7_takeGold_22 : decode cX7_takeGold 22 = .ok (.return_, 1) := by decide +kernel
theorem dX7_takeOne_0 : decode cX7_takeOne 0 = .ok (.aload_n 0, 1) := by decide +kernel
theorem dX7_takeOne_1 : decode cX7_takeOne 1 = .ok (.invokevirtual 30, 3) := by decide +kernel
theorem dX7_takeOne_4 : decode cX7_takeOne 4 = .ok (.aload_n 0, 1) := by decide +kernel
theorem dX7_takeOne_5 : decode cX7_takeOne 5 = .ok (.iconst 0, 1) := by decide +kernel
theorem dX7_takeOne_6 : decode cX7_takeOne 6 = .ok (.iconst 5, 1) := by decide +kernel
theorem dX7_takeOne_7 : decode cX7_takeOne 7 = .ok (.invokevirtual 71, 3) := by decide +kernel
theorem dX7_takeOne_10 : decode cX7_takeOne 10 = .ok (.istore_n 2, 1) := by decide +kernel
theorem dX7_takeOne_11 : decode cX7_takeOne 11 = .ok (.aload_n 0, 1) := by decide +kernel
theorem dX7_takeOne_12 : decode cX7_takeOne 12 = .ok (.iconst 0, 1) := by decide +kernel
theorem dX7_takeOne_13 : decode cX7_takeOne 13 = .ok (.bipush 12, 2) := by decide +kernel
theorem dX7_takeOne_15 : decode cX7_takeOne 15 = .ok (.invokevirtual 71, 3) := by decide +kernel
theorem dX7_takeOne_18 : decode cX7_takeOne 18 = .ok (.istore_n 3, 1) := by decide +kernel
theorem dX7_takeOne_19 : decode cX7_takeOne 19 = .ok (.aload_n 0, 1) := by decide +kernel
theorem dX7_takeOne_20 : decode cX7_takeOne 20 = .ok (.iconst 0, 1) := by decide +kernel
theorem dX7_takeOne_21 : decode cX7_takeOne 21 = .ok (.bipush 30, 2) := by decide +kernel
theorem dX7_takeOne_23 : decode cX7_takeOne 23 = .ok (.invokevirtual 71, 3) := by decide +kernel
theorem dX7_takeOne_26 : decode cX7_takeOne 26 = .ok (.istore 4, 2) := by decide +kernel
theorem dX7_takeOne_28 : decode cX7_takeOne 28 = .ok (.aload_n 0, 1) := by decide +kernel
theorem dX7_takeOne_29 : decode cX7_takeOne 29 = .ok (.iconst 0, 1) := by decide +kernel
theorem dX7_takeOne_30 : decode cX7_takeOne 30 = .ok (.bipush 20, 2) := by decide +kernel
theorem dX7_takeOne_32 : decode cX7_takeOne 32 = .ok (.invokevirtual 71, 3) := by decide +kernel
theorem dX7_takeOne_35 : decode cX7_takeOne 35 = .ok (.istore 5, 2) := by decide +kernel
theorem dX7_takeOne_37 : decode cX7_takeOne 37 = .ok (.aload_n 0, 1) := by decide +kernel
theorem dX7_takeOne_38 : decode cX7_takeOne 38 = .ok (.invokevirtual 68, 3) := by decide +kernel
theorem dX7_takeOne_41 : decode cX7_takeOne 41 = .ok (.aload_n 1, 1) := by decide +kernel
theorem dX7_takeOne_42 : decode cX7_takeOne 42 = .ok (.iload_n 2, 1) := by decide +kernel
theorem dX7_takeOne_43 : decode cX7_takeOne 43 = .ok (.iload_n 3, 1) := by decide +kernel
theorem dX7_takeOne_44 : decode cX7_takeOne 44 = .ok (.iload 4, 2) := by decide +kernel
theorem dX7_takeOne_46 : decode cX7_takeOne 46 = .ok (.iload 5, 2) := by decide +kernel
theorem dX7_takeOne_48 : decode cX7_takeOne 48 = .ok (.invokevirtual 75, 3) := by decide +kernel
theorem dX7_takeOne_51 : decode cX7_takeOne 51 = .ok (.pop, 1) := by decide +kernel
theorem dX7_takeOne_52 : decode cX7_takeOne 52 = .ok (.return_, 1) := by decide +kernel
theorem dX7_takeHands_0 : decode cX7_takeHands 0 = .ok (.aload_n 0, 1) := by decide +kernel
theorem dX7_takeHands_1 : decode cX7_takeHands 1 = .ok (.invokevirtual 30, 3) := by decide +kernel
theorem dX7_takeHands_4 : decode cX7_takeHands 4 = .ok (.aload_n 1, 1) := by decide +kernel
theorem dX7_takeHands_5 : decode cX7_takeHands 5 = .ok (.invokevirtual 45, 3) := by decide +kernel
theorem dX7_takeHands_8 : decode cX7_takeHands 8 = .ok (.iconst 1, 1) := by decide +kernel
theorem dX7_takeHands_9 : decode cX7_takeHands 9 = .ok (.isub, 1) := by decide +kernel
theorem dX7_takeHands_10 : decode cX7_takeHands 10 = .ok (.istore_n 2, 1) := by decide +kernel
theorem dX7_takeHands_11 : decode cX7_takeHands 11 = .ok (.aload_n 0, 1) := by decide +kernel
theorem dX7_takeHands_12 : decode cX7_takeHands 12 = .ok (.iconst 0, 1) := by decide +kernel
theorem dX7_takeHands_13 : decode cX7_takeHands 13 = .ok (.iload_n 2, 1) := by decide +kernel
theorem dX7_takeHands_14 : decode cX7_takeHands 14 = .ok (.invokevirtual 71, 3) := by decide +kernel
theorem dX7_takeHands_17 : decode cX7_takeHands 17 = .ok (.istore_n 3, 1) := by decide +kernel
theorem dX7_takeHands_18 : decode cX7_takeHands 18 = .ok (.iconst 0, 1) := by decide +kernel
theorem dX7_takeHands_19 : decode cX7_takeHands 19 = .ok (.istore 4, 2) := by decide +kernel
theorem dX7_takeHands_21 : decode cX7_takeHands 21 = .ok (.iconst 0, 1) := by decide +kernel
theorem dX7_takeHands_22 : decode cX7_takeHands 22 = .ok (.istore 5, 2) := by decide +kernel
theorem dX7_takeHands_24 : decode cX7_takeHands 24 = .ok (.iload 5, 2) := by decide +kernel
theorem dX7_takeHands_26 : decode cX7_takeHands 26 = .ok (.sipush 150, 3) := by decide +kernel
theorem dX7_takeHands_29 : decode cX7_takeHands 29 = .ok (.if_icmp .ge 53, 3) := by decide +kernel
theorem dX7_takeHands_32 : decode cX7_takeHands 32 = .ok (.aload_n 0, 1) := by decide +kernel
theorem dX7_takeHands_33 : decode cX7_takeHands 33 = .ok (.getfield 15, 3) := by decide +kernel
theorem dX7_takeHands_36 : decode cX7_takeHands 36 = .ok (.iconst (-1), 1) := by decide +kernel
theorem dX7_takeHands_37 : decode cX7_takeHands 37 = .ok (.if_icmp .ne 45, 3) := by decide +kernel
theorem dX7_takeHands_40 : decode cX7_takeHands 40 = .ok (.aload_n 0, 1) := by decide +kernel
theorem dX7_takeHands_41 : decode cX7_takeHands 41 = .ok (.getfield 36, 3) := by decide +kernel
theorem dX7_takeHands_44 : decode cX7_takeHands 44 = .ok (.iconst 2, 1) := by decide +kernel
theorem dX7_takeHands_45 : decode cX7_takeHands 45 = .ok (.if_icmp .ne 37, 3) := by decide +kernel
theorem dX7_takeHands_48 : decode cX7_takeHands 48 = .ok (.aload_n 0, 1) := by decide +kernel
theorem dX7_takeHands_49 : decode cX7_takeHands 49 = .ok (.getfield 79, 3) := by decide +kernel
theorem dX7_takeHands_52 : decode cX7_takeHands 52 = .ok (.iload_n 3, 1) := by decide +kernel
theorem dX7_takeHands_53 : decode cX7_takeHands 53 = .ok (.if_icmp .ne 10, 3) := by decide +kernel
theorem dX7_takeHands_56 : decode cX7_takeHands 56 = .ok (.aload_n 0, 1) := by decide +kernel
theorem dX7_takeHands_57 : decode cX7_takeHands 57 = .ok (.invokevirtual 63, 3) := by decide +kernel
theorem dX7_takeHands_60 : decode cX7_takeHands 60 = .ok (.goto 16, 3) := by decide +kernel
theorem dX7_takeHands_63 : decode cX7_takeHands 63 = .ok (.iload 4, 2) := by decide +kernel
theorem dX7_takeHands_65 : decode cX7_takeHands 65 = .ok (.iconst 1, 1) := by decide +kernel
theorem dX7_takeHands_66 : decode cX7_takeHands 66 = .ok (.aload_n 0, 1) := by decide +kernel
theorem dX7_takeHands_67 : decode cX7_takeHands 67 = .ok (.iconst 0, 1) := by decide +kernel
theorem dX7_takeHands_68 : decode cX7_takeHands 68 = .ok (.iload_n 2, 1) := by decide +kernel
theorem dX7_takeHands_69 : decode cX7_takeHands 69 = .ok (.invokevirtual 71, 3) := by decide +kernel
theorem dX7_takeHands_72 : decode cX7_takeHands 72 = .ok (.ishl, 1) := by decide +kernel
theorem dX7_takeHands_73 : decode cX7_takeHands 73 = .ok (.ior, 1) := by decide +kernel
theorem dX7_takeHands_74 : decode cX7_takeHands 74 = .ok (.istore 4, 2) := by decide +kernel
theorem dX7_takeHands_76 : decode cX7_takeHands 76 = .ok (.iinc 5 1, 3) := by decide +kernel
theorem dX7_takeHands_79 : decode cX7_takeHands 79 = .ok (.goto (-55), 3) := by decide +kernel
theorem dX7_takeHands_82 : decode cX7_takeHands 82 = .ok (.aload_n 0, 1) := by decide +kernel
theorem dX7_takeHands_83 : decode cX7_takeHands 83 = .ok (.invokevirtual 68, 3) := by decide +kernel
theorem dX7_takeHands_86 : decode cX7_takeHands 86 = .ok (.aload_n 1, 1) := by decide +kernel
theorem dX7_takeHands_87 : decode cX7_takeHands 87 = .ok (.iload_n 3, 1) := by decide +kernel
theorem dX7_takeHands_88 : decode cX7_takeHands 88 = .ok (.iload 4, 2) := by decide +kernel
theorem dX7_takeHands_90 : decode cX7_takeHands 90 = .ok (.invokevirtual 82, 3) := by decide +kernel
theorem dX7_takeHands_93 : decode cX7_takeHands 93 = .ok (.return_, 1) := by decide +kernel
theorem dX7_takeLie_0 : decode cX7_takeLie 0 = .ok (.aload_n 0, 1) := by decide +kernel
theorem dX7_takeLie_1 : decode cX7_takeLie 1 = .ok (.invokevirtual 30, 3) := by decide +kernel
theorem dX7_takeLie_4 : decode cX7_takeLie 4 = .ok (.aload_n 0, 1) := by decide +kernel
theorem dX7_takeLie_5 : decode cX7_takeLie 5 = .ok (.iconst 0, 1) := by decide +kernel
theorem dX7_takeLie_6 : decode cX7_takeLie 6 = .ok (.aload_n 1, 1) := by decide +kernel
theorem dX7_takeLie_7 : decode cX7_takeLie 7 = .ok (.invokevirtual 45, 3) := by decide +kernel
theorem dX7_takeLie_10 : decode cX7_takeLie 10 = .ok (.iconst 1, 1) := by decide +kernel
theorem dX7_takeLie_11 : decode cX7_takeLie 11 = .ok (.isub, 1) := by decide +kernel
theorem dX7_takeLie_12 : decode cX7_takeLie 12 = .ok (.invokevirtual 71, 3) := by decide +kernel
theorem dX7_takeLie_15 : decode cX7_takeLie 15 = .ok (.istore_n 2, 1) := by decide +kernel
theorem dX7_takeLie_16 : decode cX7_takeLie 16 = .ok (.aload_n 0, 1) := by decide +kernel
theorem dX7_takeLie_17 : decode cX7_takeLie 17 = .ok (.iconst 1, 1) := by decide +kernel
theorem dX7_takeLie_18 : decode cX7_takeLie 18 = .ok (.iconst 4, 1) := by decide +kernel
theorem dX7_takeLie_19 : decode cX7_takeLie 19 = .ok (.invokevirtual 71, 3) := by decide +kernel
theorem dX7_takeLie_22 : decode cX7_takeLie 22 = .ok (.istore_n 3, 1) := by decide +kernel
theorem dX7_takeLie_23 : decode cX7_takeLie 23 = .ok (.aload_n 0, 1) := by decide +kernel
theorem dX7_takeLie_24 : decode cX7_takeLie 24 = .ok (.invokevirtual 68, 3) := by decide +kernel
theorem dX7_takeLie_27 : decode cX7_takeLie 27 = .ok (.aload_n 1, 1) := by decide +kernel
theorem dX7_takeLie_28 : decode cX7_takeLie 28 = .ok (.iload_n 2, 1) := by decide +kernel
theorem dX7_takeLie_29 : decode cX7_takeLie 29 = .ok (.iload_n 3, 1) := by decide +kernel
theorem dX7_takeLie_30 : decode cX7_takeLie 30 = .ok (.invokevirtual 86, 3) := by decide +kernel
theorem dX7_takeLie_33 : decode cX7_takeLie 33 = .ok (.return_, 1) := by decide +kernel
theorem dX7_takeNumber_0 : decode cX7_takeNumber 0 = .ok (.aload_n 0, 1) := by decide +kernel
theorem dX7_takeNumber_1 : decode cX7_takeNumber 1 = .ok (.getfield 36, 3) := by decide +kernel
theorem dX7_takeNumber_4 : decode cX7_takeNumber 4 = .ok (.iconst 2, 1) := by decide +kernel
theorem dX7_takeNumber_5 : decode cX7_takeNumber 5 = .ok (.if_icmp .ne 19, 3) := by decide +kernel
theorem dX7_takeNumber_8 : decode cX7_takeNumber 8 = .ok (.aload_n 0, 1) := by decide +kernel
theorem dX7_takeNumber_9 : decode cX7_takeNumber 9 = .ok (.getfield 79, 3) := by decide +kernel
theorem dX7_takeNumber_12 : decode cX7_takeNumber 12 = .ok (.iload_n 1, 1) := by decide +kernel
theorem dX7_takeNumber_13 : decode cX7_takeNumber 13 = .ok (.if_icmp .lt 11, 3) := by decide +kernel
theorem dX7_takeNumber_16 : decode cX7_takeNumber 16 = .ok (.aload_n 0, 1) := by decide +kernel
theorem dX7_takeNumber_17 : decode cX7_takeNumber 17 = .ok (.getfield 79, 3) := by decide +kernel
theorem dX7_takeNumber_20 : decode cX7_takeNumber 20 = .ok (.iload_n 2, 1) := by decide +kernel
theorem dX7_takeNumber_21 : decode cX7_takeNumber 21 = .ok (.if_icmp .le 7, 3) := by decide +kernel
theorem dX7_takeNumber_24 : decode cX7_takeNumber 24 = .ok (.aload_n 0, 1) := by decide +kernel
theorem dX7_takeNumber_25 : decode cX7_takeNumber 25 = .ok (.invokevirtual 63, 3) := by decide +kernel
theorem dX7_takeNumber_28 : decode cX7_takeNumber 28 = .ok (.aload_n 0, 1) := by decide +kernel
theorem dX7_takeNumber_29 : decode cX7_takeNumber 29 = .ok (.getfield 15, 3) := by decide +kernel
theorem dX7_takeNumber_32 : decode cX7_takeNumber 32 = .ok (.iconst (-1), 1) := by decide +kernel
theorem dX7_takeNumber_33 : decode cX7_takeNumber 33 = .ok (.if_icmp .eq 5, 3) := by decide +kernel
theorem dX7_takeNumber_36 : decode cX7_takeNumber 36 = .ok (.iconst 0, 1) := by decide +kernel
theorem dX7_takeNumber_37 : decode cX7_takeNumber 37 = .ok (.ireturn, 1) := by decide +kernel
theorem dX7_takeNumber_38 : decode cX7_takeNumber 38 = .ok (.aload_n 0, 1) := by decide +kernel
theorem dX7_takeNumber_39 : decode cX7_takeNumber 39 = .ok (.getfield 79, 3) := by decide +kernel
theorem dX7_takeNumber_42 : decode cX7_takeNumber 42 = .ok (.istore_n 3, 1) := by decide +kernel
theorem dX7_takeNumber_43 : decode cX7_takeNumber 43 = .ok (.aload_n 0, 1) := by decide +kernel
theorem dX7_takeNumber_44 : decode cX7_takeNumber 44 = .ok (.invokevirtual 30, 3) := by decide +kernel
theorem dX7_takeNumber_47 : decode cX7_takeNumber 47 = .ok (.iload_n 3, 1) := by decide +kernel
theorem dX7_takeNumber_48 : decode cX7_takeNumber 48 = .ok (.ireturn, 1) := by decide +kernel
theorem dX7_takeStop_0 : decode cX7_takeStop 0 = .ok (.aload_n 0, 1) := by decide +kernel
theorem dX7_takeStop_1 : decode cX7_takeStop 1 = .ok (.getfield 36, 3) := by decide +kernel
theorem dX7_takeStop_4 : decode cX7_takeStop 4 = .ok (.iconst 3, 1) := by decide +kernel
theorem dX7_takeStop_5 : decode cX7_takeStop 5 = .ok (.if_icmp .eq 7, 3) := by decide +kernel
theorem dX7_takeStop_8 : decode cX7_takeStop 8 = .ok (.aload_n 0, 1) := by decide +kernel
theorem dX7_takeStop_9 : decode cX7_takeStop 9 = .ok (.invokevirtual 63, 3) := by decide +kernel
theorem dX7_takeStop_12 : decode cX7_takeStop 12 = .ok (.aload_n 0, 1) := by decide +kernel
theorem dX7_takeStop_13 : decode cX7_takeStop 13 = .ok (.getfield 15, 3) := by decide +kernel
theorem dX7_takeStop_16 : decode cX7_takeStop 16 = .ok (.iconst (-1), 1) := by decide +kernel
theorem dX7_takeStop_17 : decode cX7_takeStop 17 = .ok (.if_icmp .ne 7, 3) := by decide +kernel
theorem dX7_takeStop_20 : decode cX7_takeStop 20 = .ok (.aload_n 0, 1) := by decide +kernel
theorem dX7_takeStop_21 : decode cX7_takeStop 21 = .ok (.invokevirtual 30, 3) := by decide +kernel
theorem dX7_takeStop_24 : decode cX7_takeStop 24 = .ok (.return_, 1) := by decide +kernel
theorem dX7_failHere_0 : decode cX7_failHere 0 = .ok (.aload_n 0, 1) := by decide +kernel
theorem dX7_failHere_1 : decode cX7_failHere 1 = .ok (.getfield 15, 3) := by decide +kernel
theorem dX7_failHere_4 : decode cX7_failHere 4 = .ok (.iconst (-1), 1) := by decide +kernel
theorem dX7_failHere_5 : decode cX7_failHere 5 = .ok (.if_icmp .ne 11, 3) := by decide +kernel
theorem dX7_failHere_8 : decode cX7_failHere 8 = .ok (.aload_n 0, 1) := by decide +kernel
theorem dX7_failHere_9 : decode cX7_failHere 9 = .ok (.aload_n 0, 1) := by decide +kernel
theorem dX7_failHere_10 : decode cX7_failHere 10 = .ok (.getfield 89, 3) := by decide +kernel
theorem dX7_failHere_13 : decode cX7_failHere 13 = .ok (.putfield 15, 3) := by decide +kernel
theorem dX7_failHere_16 : decode cX7_failHere 16 = .ok (.return_, 1) := by decide +kernel
theorem dX7_isWord_0 : decode cX7_isWord 0 = .ok (.aload_n 0, 1) := by decide +kernel
theorem dX7_isWord_1 : decode cX7_isWord 1 = .ok (.getfield 36, 3) := by decide +kernel
theorem dX7_isWord_4 : decode cX7_isWord 4 = .ok (.iconst 1, 1) := by decide +kernel
theorem dX7_isWord_5 : decode cX7_isWord 5 = .ok (.if_icmp .ne 19, 3) := by decide +kernel
theorem dX7_isWord_8 : decode cX7_isWord 8 = .ok (.aload_n 0, 1) := by decide +kernel
theorem dX7_isWord_9 : decode cX7_isWord 9 = .ok (.getfield 27, 3) := by decide +kernel
theorem dX7_isWord_12 : decode cX7_isWord 12 = .ok (.aload_n 0, 1) := by decide +kernel
theorem dX7_isWord_13 : decode cX7_isWord 13 = .ok (.getfield 89, 3) := by decide +kernel
theorem dX7_isWord_16 : decode cX7_isWord 16 = .ok (.isub, 1) := by decide +kernel
theorem dX7_isWord_17 : decode cX7_isWord 17 = .ok (.aload_n 1, 1) := by decide +kernel
theorem dX7_isWord_18 : decode cX7_isWord 18 = .ok (.invokevirtual 92, 3) := by decide +kernel
theorem dX7_isWord_21 : decode cX7_isWord 21 = .ok (.if_icmp .eq 5, 3) := by decide +kernel
theorem dX7_isWord_24 : decode cX7_isWord 24 = .ok (.iconst 0, 1) := by decide +kernel
theorem dX7_isWord_25 : decode cX7_isWord 25 = .ok (.ireturn, 1) := by decide +kernel
theorem dX7_isWord_26 : decode cX7_isWord 26 = .ok (.iconst 0, 1) := by decide +kernel
theorem dX7_isWord_27 : decode cX7_isWord 27 = .ok (.istore_n 2, 1) := by decide +kernel
theorem dX7_isWord_28 : decode cX7_isWord 28 = .ok (.iload_n 2, 1) := by decide +kernel
theorem dX7_isWord_29 : decode cX7_isWord 29 = .ok (.aload_n 1, 1) := by decide +kernel
theorem dX7_isWord_30 : decode cX7_isWord 30 = .ok (.invokevirtual 92, 3) := by decide +kernel
theorem dX7_isWord_33 : decode cX7_isWord 33 = .ok (.if_icmp .ge 29, 3) := by decide +kernel
theorem dX7_isWord_36 : decode cX7_isWord 36 = .ok (.aload_n 0, 1) := by decide +kernel
theorem dX7_isWord_37 : decode cX7_isWord 37 = .ok (.aload_n 0, 1) := by decide +kernel
theorem dX7_isWord_38 : decode cX7_isWord 38 = .ok (.getfield 89, 3) := by decide +kernel
theorem dX7_isWord_41 : decode cX7_isWord 41 = .ok (.iload_n 2, 1) := by decide +kernel
theorem dX7_isWord_42 : decode cX7_isWord 42 = .ok (.iadd, 1) := by decide +kernel
theorem dX7_isWord_43 : decode cX7_isWord 43 = .ok (.invokevirtual 96, 3) := by decide +kernel
theorem dX7_isWord_46 : decode cX7_isWord 46 = .ok (.aload_n 1, 1) := by decide +kernel
theorem dX7_isWord_47 : decode cX7_isWord 47 = .ok (.iload_n 2, 1) := by decide +kernel
theorem dX7_isWord_48 : decode cX7_isWord 48 = .ok (.invokevirtual 100, 3) := by decide +kernel
theorem dX7_isWord_51 : decode cX7_isWord 51 = .ok (.if_icmp .eq 5, 3) := by decide +kernel
theorem dX7_isWord_54 : decode cX7_isWord 54 = .ok (.iconst 0, 1) := by decide +kernel
theorem dX7_isWord_55 : decode cX7_isWord 55 = .ok (.ireturn, 1) := by decide +kernel
theorem dX7_isWord_56 : decode cX7_isWord 56 = .ok (.iinc 2 1, 3) := by decide +kernel
theorem dX7_isWord_59 : decode cX7_isWord 59 = .ok (.goto (-31), 3) := by decide +kernel
theorem dX7_isWord_62 : decode cX7_isWord 62 = .ok (.iconst 1, 1) := by decide +kernel
theorem dX7_isWord_63 : decode cX7_isWord 63 = .ok (.ireturn, 1) := by decide +kernel
theorem dX7_step_0 : decode cX7_step 0 = .ok (.aload_n 0, 1) := by decide +kernel
theorem dX7_step_1 : decode cX7_step 1 = .ok (.aload_n 0, 1) := by decide +kernel
theorem dX7_step_2 : decode cX7_step 2 = .ok (.aload_n 0, 1) := by decide +kernel
theorem dX7_step_3 : decode cX7_step 3 = .ok (.getfield 27, 3) := by decide +kernel
theorem dX7_step_6 : decode cX7_step 6 = .ok (.bipush 32, 2) := by decide +kernel
theorem dX7_step_8 : decode cX7_step 8 = .ok (.bipush 32, 2) := by decide +kernel
theorem dX7_step_10 : decode cX7_step 10 = .ok (.invokevirtual 104, 3) := by decide +kernel
theorem dX7_step_13 : decode cX7_step 13 = .ok (.putfield 89, 3) := by decide +kernel
theorem dX7_step_16 : decode cX7_step 16 = .ok (.aload_n 0, 1) := by decide +kernel
theorem dX7_step_17 : decode cX7_step 17 = .ok (.aload_n 0, 1) := by decide +kernel
theorem dX7_step_18 : decode cX7_step 18 = .ok (.getfield 89, 3) := by decide +kernel
theorem dX7_step_21 : decode cX7_step 21 = .ok (.invokevirtual 96, 3) := by decide +kernel
theorem dX7_step_24 : decode cX7_step 24 = .ok (.istore_n 1, 1) := by decide +kernel
theorem dX7_step_25 : decode cX7_step 25 = .ok (.iload_n 1, 1) := by decide +kernel
theorem dX7_step_26 : decode cX7_step 26 = .ok (.iconst (-1), 1) := by decide +kernel
theorem dX7_step_27 : decode cX7_step 27 = .ok (.if_icmp .ne 19, 3) := by decide +kernel
theorem dX7_step_30 : decode cX7_step 30 = .ok (.aload_n 0, 1) := by decide +kernel
theorem dX7_step_31 : decode cX7_step 31 = .ok (.iconst 0, 1) := by decide +kernel
theorem dX7_step_32 : decode cX7_step 32 = .ok (.putfield 36, 3) := by decide +kernel
theorem dX7_step_35 : decode cX7_step 35 = .ok (.aload_n 0, 1) := by decide +kernel
theorem dX7_step_36 : decode cX7_step 36 = .ok (.aload_n 0, 1) := by decide +kernel
theorem dX7_step_37 : decode cX7_step 37 = .ok (.getfield 89, 3) := by decide +kernel
theorem dX7_step_40 : decode cX7_step 40 = .ok (.putfield 27, 3) := by decide +kernel
theorem dX7_step_43 : decode cX7_step 43 = .ok (.goto 116, 3) := by decide +kernel
theorem dX7_step_46 : decode cX7_step 46 = .ok (.iload_n 1, 1) := by decide +kernel
theorem dX7_step_47 : decode cX7_step 47 = .ok (.bipush 97, 2) := by decide +kernel
theorem dX7_step_49 : decode cX7_step 49 = .ok (.if_icmp .lt 33, 3) := by decide +kernel
theorem dX7_step_52 : decode cX7_step 52 = .ok (.iload_n 1, 1) := by decide +kernel
theorem dX7_step_53 : decode cX7_step 53 = .ok (.bipush 122, 2) := by decide +kernel
theorem dX7_step_55 : decode cX7_step 55 = .ok (.if_icmp .gt 27, 3) := by decide +kernel
theorem dX7_step_58 : decode cX7_step 58 = .ok (.aload_n 0, 1) := by decide +kernel
theorem dX7_step_59 : decode cX7_step 59 = .ok (.iconst 1, 1) := by decide +kernel
theorem dX7_step_60 : decode cX7_step 60 = .ok (.putfield 36, 3) := by decide +kernel
theorem dX7_step_63 : decode cX7_step 63 = .ok (.aload_n 0, 1) := by decide +kernel
theorem dX7_step_64 : decode cX7_step 64 = .ok (.aload_n 0, 1) := by decide +kernel
theorem dX7_step_65 : decode cX7_step 65 = .ok (.aload_n 0, 1) := by decide +kernel
theorem dX7_step_66 : decode cX7_step 66 = .ok (.getfield 89, 3) := by decide +kernel
theorem dX7_step_69 : decode cX7_step 69 = .ok (.bipush 97, 2) := by decide +kernel
theorem dX7_step_71 : decode cX7_step 71 = .ok (.bipush 122, 2) := by decide +kernel
theorem dX7_step_73 : decode cX7_step 73 = .ok (.invokevirtual 104, 3) := by decide +kernel
theorem dX7_step_76 : decode cX7_step 76 = .ok (.putfield 27, 3) := by decide +kernel
theorem dX7_step_79 : decode cX7_step 79 = .ok (.goto 80, 3) := by decide +kernel
theorem dX7_step_82 : decode cX7_step 82 = .ok (.iload_n 1, 1) := by decide +kernel
theorem dX7_step_83 : decode cX7_step 83 = .ok (.bipush 48, 2) := by decide +kernel
theorem dX7_step_85 : decode cX7_step 85 = .ok (.if_icmp .lt 49, 3) := by decide +kernel
theorem dX7_step_88 : decode cX7_step 88 = .ok (.iload_n 1, 1) := by decide +kernel
theorem dX7_step_89 : decode cX7_step 89 = .ok (.bipush 57, 2) := by decide +kernel
theorem dX7_step_91 : decode cX7_step 91 = .ok (.if_icmp .gt 43, 3) := by decide +kernel
theorem dX7_step_94 : decode cX7_step 94 = .ok (.aload_n 0, 1) := by decide +kernel
theorem dX7_step_95 : decode cX7_step 95 = .ok (.iconst 2, 1) := by decide +kernel
theorem dX7_step_96 : decode cX7_step 96 = .ok (.putfield 36, 3) := by decide +kernel
theorem dX7_step_99 : decode cX7_step 99 = .ok (.aload_n 0, 1) := by decide +kernel
theorem dX7_step_100 : decode cX7_step 100 = .ok (.aload_n 0, 1) := by decide +kernel
theorem dX7_step_101 : decode cX7_step 101 = .ok (.aload_n 0, 1) := by decide +kernel
theorem dX7_step_102 : decode cX7_step 102 = .ok (.getfield 89, 3) := by decide +kernel
theorem dX7_step_105 : decode cX7_step 105 = .ok (.bipush 48, 2) := by decide +kernel
theorem dX7_step_107 : decode cX7_step 107 = .ok (.bipush 57, 2) := by decide +kernel
theorem dX7_step_109 : decode cX7_step 109 = .ok (.invokevirtual 104, 3) := by decide +kernel
theorem dX7_step_112 : decode cX7_step 112 = .ok (.putfield 27, 3) := by decide +kernel
theorem dX7_step_115 : decode cX7_step 115 = .ok (.aload_n 0, 1) := by decide +kernel
theorem dX7_step_116 : decode cX7_step 116 = .ok (.aload_n 0, 1) := by decide +kernel
theorem dX7_step_117 : decode cX7_step 117 = .ok (.aload_n 0, 1) := by decide +kernel
theorem dX7_step_118 : decode cX7_step 118 = .ok (.getfield 89, 3) := by decide +kernel
theorem dX7_step_121 : decode cX7_step 121 = .ok (.aload_n 0, 1) := by decide +kernel
theorem dX7_step_122 : decode cX7_step 122 = .ok (.getfield 27, 3) := by decide +kernel
theorem dX7_step_125 : decode cX7_step 125 = .ok (.invokevirtual 108, 3) := by decide +kernel
theorem dX7_step_128 : decode cX7_step 128 = .ok (.putfield 79, 3) := by decide +kernel
theorem dX7_step_131 : decode cX7_step 131 = .ok (.goto 28, 3) := by decide +kernel
theorem dX7_step_134 : decode cX7_step 134 = .ok (.aload_n 0, 1) := by decide +kernel
theorem dX7_step_135 : decode cX7_step 135 = .ok (.iload_n 1, 1) := by decide +kernel
theorem dX7_step_136 : decode cX7_step 136 = .ok (.bipush 59, 2) := by decide +kernel
theorem dX7_step_138 : decode cX7_step 138 = .ok (.if_icmp .ne 7, 3) := by decide +kernel
theorem dX7_step_141 : decode cX7_step 141 = .ok (.iconst 3, 1) := by decide +kernel
theorem dX7_step_142 : decode cX7_step 142 = .ok (.goto 4, 3) := by decide +kernel
theorem dX7_step_145 : decode cX7_step 145 = .ok (.iconst 4, 1) := by decide +kernel
theorem dX7_step_146 : decode cX7_step 146 = .ok (.putfield 36, 3) := by decide +kernel
theorem dX7_step_149 : decode cX7_step 149 = .ok (.aload_n 0, 1) := by decide +kernel
theorem dX7_step_150 : decode cX7_step 150 = .ok (.aload_n 0, 1) := by decide +kernel
theorem dX7_step_151 : decode cX7_step 151 = .ok (.getfield 89, 3) := by decide +kernel
theorem dX7_step_154 : decode cX7_step 154 = .ok (.iconst 1, 1) := by decide +kernel
theorem dX7_step_155 : decode cX7_step 155 = .ok (.iadd, 1) := by decide +kernel
theorem dX7_step_156 : decode cX7_step 156 = .ok (.putfield 27, 3) := by decide +kernel
theorem dX7_step_159 : decode cX7_step 159 = .ok (.return_, 1) := by decide +kernel
theorem dX7_runEnd_0 : decode cX7_runEnd 0 = .ok (.iload_n 1, 1) := by decide +kernel
theorem dX7_runEnd_1 : decode cX7_runEnd 1 = .ok (.istore 4, 2) := by decide +kernel
theorem dX7_runEnd_3 : decode cX7_runEnd 3 = .ok (.iload 4, 2) := by decide +kernel
theorem dX7_runEnd_5 : decode cX7_runEnd 5 = .ok (.aload_n 0, 1) := by decide +kernel
theorem dX7_runEnd_6 : decode cX7_runEnd 6 = .ok (.getfield 19, 3) := by decide +kernel
theorem dX7_runEnd_9 : decode cX7_runEnd 9 = .ok (.if_icmp .ge 29, 3) := by decide +kernel
theorem dX7_runEnd_12 : decode cX7_runEnd 12 = .ok (.aload_n 0, 1) := by decide +kernel
theorem dX7_runEnd_13 : decode cX7_runEnd 13 = .ok (.iload 4, 2) := by decide +kernel
theorem dX7_runEnd_15 : decode cX7_runEnd 15 = .ok (.invokevirtual 96, 3) := by decide +kernel
theorem dX7_runEnd_18 : decode cX7_runEnd 18 = .ok (.iload_n 2, 1) := by decide +kernel
theorem dX7_runEnd_19 : decode cX7_runEnd 19 = .ok (.if_icmp .lt 19, 3) := by decide +kernel
theorem dX7_runEnd_22 : decode cX7_runEnd 22 = .ok (.aload_n 0, 1) := by decide +kernel
theorem dX7_runEnd_23 : decode cX7_runEnd 23 = .ok (.iload 4, 2) := by decide +kernel
theorem dX7_runEnd_25 : decode cX7_runEnd 25 = .ok (.invokevirtual 96, 3) := by decide +kernel
theorem dX7_runEnd_28 : decode cX7_runEnd 28 = .ok (.iload_n 3, 1) := by decide +kernel
theorem dX7_runEnd_29 : decode cX7_runEnd 29 = .ok (.if_icmp .gt 9, 3) := by decide +kernel
theorem dX7_runEnd_32 : decode cX7_runEnd 32 = .ok (.iinc 4 1, 3) := by decide +kernel
theorem dX7_runEnd_35 : decode cX7_runEnd 35 = .ok (.goto (-32), 3) := by decide +kernel
theorem dX7_runEnd_38 : decode cX7_runEnd 38 = .ok (.iload 4, 2) := by decide +kernel
theorem dX7_runEnd_40 : decode cX7_runEnd 40 = .ok (.ireturn, 1) := by decide +kernel
theorem dX7_numberBetween_0 : decode cX7_numberBetween 0 = .ok (.aload_n 0, 1) := by decide +kernel
theorem dX7_numberBetween_1 : decode cX7_numberBetween 1 = .ok (.iload_n 2, 1) := by decide +kernel
theorem dX7_numberBetween_2 : decode cX7_numberBetween 2 = .ok (.iconst 1, 1) := by decide +kernel
theorem dX7_numberBetween_3 : decode cX7_numberBetween 3 = .ok (.isub, 1) := by decide +kernel
theorem dX7_numberBetween_4 : decode cX7_numberBetween 4 = .ok (.invokevirtual 96, 3) := by decide +kernel
theorem dX7_numberBetween_7 : decode cX7_numberBetween 7 = .ok (.bipush 48, 2) := by decide +kernel
theorem dX7_numberBetween_9 : decode cX7_numberBetween 9 = .ok (.isub, 1) := by decide +kernel
theorem dX7_numberBetween_10 : decode cX7_numberBetween 10 = .ok (.istore_n 3, 1) := by decide +kernel
theorem dX7_numberBetween_11 : decode cX7_numberBetween 11 = .ok (.iload_n 2, 1) := by decide +kernel
theorem dX7_numberBetween_12 : decode cX7_numberBetween 12 = .ok (.iload_n 1, 1) := by decide +kernel
theorem dX7_numberBetween_13 : decode cX7_numberBetween 13 = .ok (.isub, 1) := by decide +kernel
theorem dX7_numberBetween_14 : decode cX7_numberBetween 14 = .ok (.lookupswitch 42 #[(1, 26), (2, 28)], 26) := by decide +kernel
theorem dX7_numberBetween_40 : decode cX7_numberBetween 40 = .ok (.iload_n 3, 1) := by decide +kernel
theorem dX7_numberBetween_41 : decode cX7_numberBetween 41 = .ok (.ireturn, 1) := by decide +kernel
theorem dX7_numberBetween_42 : decode cX7_numberBetween 42 = .ok (.bipush 10, 2) := by decide +kernel
theorem dX7_numberBetween_44 : decode cX7_numberBetween 44 = .ok (.aload_n 0, 1) := by decide +kernel
theorem dX7_numberBetween_45 : decode cX7_numberBetween 45 = .ok (.iload_n 1, 1) := by decide +kernel
theorem dX7_numberBetween_46 : decode cX7_numberBetween 46 = .ok (.invokevirtual 96, 3) := by decide +kernel
theorem dX7_numberBetween_49 : decode cX7_numberBetween 49 = .ok (.bipush 48, 2) := by decide +kernel
theorem dX7_numberBetween_51 : decode cX7_numberBetween 51 = .ok (.isub, 1) := by decide +kernel
theorem dX7_numberBetween_52 : decode cX7_numberBetween 52 = .ok (.imul, 1) := by decide +kernel
theorem dX7_numberBetween_53 : decode cX7_numberBetween 53 = .ok (.iload_n 3, 1) := by decide +kernel
theorem dX7_numberBetween_54 : decode cX7_numberBetween 54 = .ok (.iadd, 1) := by decide +kernel
theorem dX7_numberBetween_55 : decode cX7_numberBetween 55 = .ok (.ireturn, 1) := by decide +kernel
theorem dX7_numberBetween_56 : decode cX7_numberBetween 56 = .ok (.iconst (-1), 1) := by decide +kernel
theorem dX7_numberBetween_57 : decode cX7_numberBetween 57 = .ok (.ireturn, 1) := by decide +kernel
theorem dX7_byteAt_0 : decode cX7_byteAt 0 = .ok (.iload_n 1, 1) := by decide +kernel
theorem dX7_byteAt_1 : decode cX7_byteAt 1 = .ok (.ifCond .lt 27, 3) := by decide +kernel
theorem dX7_byteAt_4 : decode cX7_byteAt 4 = .ok (.iload_n 1, 1) := by decide +kernel
theorem dX7_byteAt_5 : decode cX7_byteAt 5 = .ok (.aload_n 0, 1) := by decide +kernel
theorem dX7_byteAt_6 : decode cX7_byteAt 6 = .ok (.getfield 19, 3) := by decide +kernel
theorem dX7_byteAt_9 : decode cX7_byteAt 9 = .ok (.if_icmp .ge 19, 3) := by decide +kernel
theorem dX7_byteAt_12 : decode cX7_byteAt 12 = .ok (.iload_n 1, 1) := by decide +kernel
theorem dX7_byteAt_13 : decode cX7_byteAt 13 = .ok (.sipush 150, 3) := by decide +kernel
theorem dX7_byteAt_16 : decode cX7_byteAt 16 = .ok (.if_icmp .ge 12, 3) := by decide +kernel
theorem dX7_byteAt_19 : decode cX7_byteAt 19 = .ok (.aload_n 0, 1) := by decide +kernel
theorem dX7_byteAt_20 : decode cX7_byteAt 20 = .ok (.getfield 9, 3) := by decide +kernel
theorem dX7_byteAt_23 : decode cX7_byteAt 23 = .ok (.iload_n 1, 1) := by decide +kernel
theorem dX7_byteAt_24 : decode cX7_byteAt 24 = .ok (.iaload, 1) := by decide +kernel
theorem dX7_byteAt_25 : decode cX7_byteAt 25 = .ok (.goto 4, 3) := by decide +kernel
theorem dX7_byteAt_28 : decode cX7_byteAt 28 = .ok (.iconst (-1), 1) := by decide +kernel
theorem dX7_byteAt_29 : decode cX7_byteAt 29 = .ok (.ireturn, 1) := by decide +kernel
theorem dX8_init_0 : decode cX8_init 0 = .ok (.aload_n 0, 1) := by decide +kernel
theorem dX8_init_1 : decode cX8_init 1 = .ok (.invokespecial 1, 3) := by decide +kernel
theorem dX8_init_4 : decode cX8_init 4 = .ok (.return_, 1) := by decide +kernel
theorem dX8_weight_0 : decode cX8_weight 0 = .ok (.aload_n 0, 1) := by decide +kernel
theorem dX8_weight_1 : decode cX8_weight 1 = .ok (.iload_n 1, 1) := by decide +kernel
theorem dX8_weight_2 : decode cX8_weight 2 = .ok (.iload_n 2, 1) := by decide +kernel
theorem dX8_weight_3 : decode cX8_weight 3 = .ok (.iload_n 3, 1) := by decide +kernel
theorem dX8_weight_4 : decode cX8_weight 4 = .ok (.invokespecial 7, 3) := by decide +kernel
theorem dX8_weight_7 : decode cX8_weight 7 = .ok (.iload_n 1, 1) := by decide +kernel
theorem dX8_weight_8 : decode cX8_weight 8 = .ok (.iadd, 1) := by decide +kernel
theorem dX8_weight_9 : decode cX8_weight 9 = .ok (.ireturn, 1) := by decide +kernel
theorem dX8_loss_0 : decode cX8_loss 0 = .ok (.iconst 2, 1) := by decide +kernel
theorem dX8_loss_1 : decode cX8_loss 1 = .ok (.aload_n 0, 1) := by decide +kernel
theorem dX8_loss_2 : decode cX8_loss 2 = .ok (.iload_n 1, 1) := by decide +kernel
theorem dX8_loss_3 : decode cX8_loss 3 = .ok (.invokespecial 11, 3) := by decide +kernel
theorem dX8_loss_6 : decode cX8_loss 6 = .ok (.imul, 1) := by decide +kernel
theorem dX8_loss_7 : decode cX8_loss 7 = .ok (.ireturn, 1) := by decide +kernel
theorem dX9_init_0 : decode cX9_init 0 = .ok (.aload_n 0, 1) := by decide +kernel
theorem dX9_init_1 : decode cX9_init 1 = .ok (.invokespecial 3, 3) := by decide +kernel
theorem dX9_init_4 : decode cX9_init 4 = .ok (.aload_n 0, 1) := by decide +kernel
theorem dX9_init_5 : decode cX9_init 5 = .ok (.new 9, 3) := by decide +kernel
theorem dX9_init_8 : decode cX9_init 8 = .ok (.dup, 1) := by decide +kernel
theorem dX9_init_9 : decode cX9_init 9 = .ok (.invokespecial 11, 3) := by decide +kernel
theorem dX9_init_12 : decode cX9_init 12 = .ok (.putfield 12, 3) := by decide +kernel
theorem dX9_init_15 : decode cX9_init 15 = .ok (.aload_n 0, 1) := by decide +kernel
theorem dX9_init_16 : decode cX9_init 16 = .ok (.bipush 6, 2) := by decide +kernel
theorem dX9_init_18 : decode cX9_init 18 = .ok (.anewarray 9, 3) := by decide +kernel
theorem dX9_init_21 : decode cX9_init 21 = .ok (.dup, 1) := by decide +kernel
theorem dX9_init_22 : decode cX9_init 22 = .ok (.iconst 0, 1) := by decide +kernel
theorem dX9_init_23 : decode cX9_init 23 = .ok (.aload_n 0, 1) := by decide +kernel
theorem dX9_init_24 : decode cX9_init 24 = .ok (.getfield 12, 3) := by decide +kernel
theorem dX9_init_27 : decode cX9_init 27 = .ok (.aastore, 1) := by decide +kernel
theorem dX9_init_28 : decode cX9_init 28 = .ok (.dup, 1) := by decide +kernel
theorem dX9_init_29 : decode cX9_init 29 = .ok (.iconst 1, 1) := by decide +kernel
theorem dX9_init_30 : decode cX9_init 30 = .ok (.new 18, 3) := by decide +kernel
theorem dX9_init_33 : decode cX9_init 33 = .ok (.dup, 1) := by decide +kernel
theorem dX9_init_34 : decode cX9_init 34 = .ok (.invokespecial 20, 3) := by decide +kernel
theorem dX9_init_37 : decode cX9_init 37 = .ok (.aastore, 1) := by decide +kernel
theorem dX9_init_38 : decode cX9_init 38 = .ok (.dup, 1) := by decide +kernel
theorem dX9_init_39 : decode cX9_init 39 = .ok (.iconst 2, 1) := by decide +kernel
theorem dX9_init_40 : decode cX9_init 40 = .ok (.new 21, 3) := by decide +kernel
theorem dX9_init_43 : decode cX9_init 43 = .ok (.dup, 1) := by decide +kernel
theorem dX9_init_44 : decode cX9_init 44 = .ok (.invokespecial 23, 3) := by decide +kernel
theorem dX9_init_47 : decode cX9_init 47 = .ok (.aastore, 1) := by decide +kernel
theorem dX9_init_48 : decode cX9_init 48 = .ok (.dup, 1) := by decide +kernel
theorem dX9_init_49 : decode cX9_init 49 = .ok (.iconst 3, 1) := by decide +kernel
theorem dX9_init_50 : decode cX9_init 50 = .ok (.new 24, 3) := by decide +kernel
theorem dX9_init_53 : decode cX9_init 53 = .ok (.dup, 1) := by decide +kernel
theorem dX9_init_54 : decode cX9_init 54 = .ok (.invokespecial 26, 3) := by decide +kernel
theorem dX9_init_57 : decode cX9_init 57 = .ok (.aastore, 1) := by decide +kernel
theorem dX9_init_58 : decode cX9_init 58 = .ok (.dup, 1) := by decide +kernel
theorem dX9_init_59 : decode cX9_init 59 = .ok (.iconst 4, 1) := by decide +kernel
theorem dX9_init_60 : decode cX9_init 60 = .ok (.new 27, 3) := by decide +kernel
theorem dX9_init_63 : decode cX9_init 63 = .ok (.dup, 1) := by decide +kernel
theorem dX9_init_64 : decode cX9_init 64 = .ok (.invokespecial 29, 3) := by decide +kernel
theorem dX9_init_67 : decode cX9_init 67 = .ok (.aastore, 1) := by decide +kernel
theorem dX9_init_68 : decode cX9_init 68 = .ok (.dup, 1) := by decide +kernel
theorem dX9_init_69 : decode cX9_init 69 = .ok (.iconst 5, 1) := by decide +kernel
theorem dX9_init_70 : decode cX9_init 70 = .ok (.new 30, 3) := by decide +kernel
theorem dX9_init_73 : decode cX9_init 73 = .ok (.dup, 1) := by decide +kernel
theorem dX9_init_74 : decode cX9_init 74 = .ok (.invokespecial 32, 3) := by decide +kernel
theorem dX9_init_77 : decode cX9_init 77 = .ok (.aastore, 1) := by decide +kernel
theorem dX9_init_78 : decode cX9_init 78 = .ok (.putfield 33, 3) := by decide +kernel
theorem dX9_init_81 : decode cX9_init 81 = .ok (.aload_n 0, 1) := by decide +kernel
theorem dX9_init_82 : decode cX9_init 82 = .ok (.bipush 6, 2) := by decide +kernel
theorem dX9_init_84 : decode cX9_init 84 = .ok (.newarray .int, 2) := by decide +kernel
theorem dX9_init_86 : decode cX9_init 86 = .ok (.putfield 37, 3) := by decide +kernel
theorem dX9_init_89 : decode cX9_init 89 = .ok (.aload_n 0, 1) := by decide +kernel
theorem dX9_init_90 : decode cX9_init 90 = .ok (.bipush 6, 2) := by decide +kernel
theorem dX9_init_92 : decode cX9_init 92 = .ok (.newarray .int, 2) := by decide +kernel
theorem dX9_init_94 : decode cX9_init 94 = .ok (.putfield 41, 3) := by decide +kernel
theorem dX9_init_97 : decode cX9_init 97 = .ok (.aload_n 0, 1) := by decide +kernel
theorem dX9_init_98 : decode cX9_init 98 = .ok (.bipush 6, 2) := by decide +kernel
theorem dX9_init_100 : decode cX9_init 100 = .ok (.newarray .int, 2) := by decide +kernel
theorem dX9_init_102 : decode cX9_init 102 = .ok (.putfield 44, 3) := by decide +kernel
theorem dX9_init_105 : decode cX9_init 105 = .ok (.aload_n 0, 1) := by decide +kernel
theorem dX9_init_106 : decode cX9_init 106 = .ok (.bipush 6, 2) := by decide +kernel
theorem dX9_init_108 : decode cX9_init 108 = .ok (.newarray .int, 2) := by decide +kernel
theorem dX9_init_110 : decode cX9_init 110 = .ok (.putfield 47, 3) := by decide +kernel
theorem dX9_init_113 : decode cX9_init 113 = .ok (.aload_n 0, 1) := by decide +kernel
theorem dX9_init_114 : decode cX9_init 114 = .ok (.bipush 6, 2) := by decide +kernel
theorem dX9_init_116 : decode cX9_init 116 = .ok (.newarray .int, 2) := by decide +kernel
theorem dX9_init_118 : decode cX9_init 118 = .ok (.putfield 50, 3) := by decide +kernel
theorem dX9_init_121 : decode cX9_init 121 = .ok (.aload_n 0, 1) := by decide +kernel
theorem dX9_init_122 : decode cX9_init 122 = .ok (.new 53, 3) := by decide +kernel
theorem dX9_init_125 : decode cX9_init 125 = .ok (.dup, 1) := by decide +kernel
theorem dX9_init_126 : decode cX9_init 126 = .ok (.invokespecial 55, 3) := by decide +kernel
theorem dX9_init_129 : decode cX9_init 129 = .ok (.putfield 56, 3) := by decide +kernel
theorem dX9_init_132 : decode cX9_init 132 = .ok (.aload_n 0, 1) := by decide +kernel
theorem dX9_init_133 : decode cX9_init 133 = .ok (.new 60, 3) := by decide +kernel
theorem dX9_init_136 : decode cX9_init 136 = .ok (.dup, 1) := by decide +kernel
theorem dX9_init_137 : decode cX9_init 137 = .ok (.invokespecial 62, 3) := by decide +kernel
theorem dX9_init_140 : decode cX9_init 140 = .ok (.putfield 63, 3) := by decide +kernel
theorem dX9_init_143 : decode cX9_init 143 = .ok (.return_, 1) := by decide +kernel
theorem dX9_empty_0 : decode cX9_empty 0 = .ok (.aload_n 0, 1) := by decide +kernel
theorem dX9_empty_1 : decode cX9_empty 1 = .ok (.iconst 0, 1) := by decide +kernel
theorem dX9_empty_2 : decode cX9_empty 2 = .ok (.putfield 67, 3) := by decide +kernel
theorem dX9_empty_5 : decode cX9_empty 5 = .ok (.aload_n 0, 1) := by decide +kernel
theorem dX9_empty_6 : decode cX9_empty 6 = .ok (.iconst 0, 1) := by decide +kernel
theorem dX9_empty_7 : decode cX9_empty 7 = .ok (.putfield 71, 3) := by decide +kernel
theorem dX9_empty_10 : decode cX9_empty 10 = .ok (.aload_n 0, 1) := by decide +kernel
theorem dX9_empty_11 : decode cX9_empty 11 = .ok (.iconst 0, 1) := by decide +kernel
theorem dX9_empty_12 : decode cX9_empty 12 = .ok (.putfield 74, 3) := by decide +kernel
theorem dX9_empty_15 : decode cX9_empty 15 = .ok (.aload_n 0, 1) := by decide +kernel
theorem dX9_empty_16 : decode cX9_empty 16 = .ok (.getfield 56, 3) := by decide +kernel
theorem dX9_empty_19 : decode cX9_empty 19 = .ok (.invokevirtual 77, 3) := by decide +kernel
theorem dX9_empty_22 : decode cX9_empty 22 = .ok (.aload_n 0, 1) := by decide +kernel
theorem dX9_empty_23 : decode cX9_empty 23 = .ok (.getfield 63, 3) := by decide +kernel
theorem dX9_empty_26 : decode cX9_empty 26 = .ok (.invokevirtual 80, 3) := by decide +kernel
theorem dX9_empty_29 : decode cX9_empty 29 = .ok (.return_, 1) := by decide +kernel
theorem dX9_copyFrom_0 : decode cX9_copyFrom 0 = .ok (.aload_n 1, 1) := by decide +kernel
theorem dX9_copyFrom_1 : decode cX9_copyFrom 1 = .ok (.ifnonnull 4, 3) := by decide +kernel
theorem dX9_copyFrom_4 : decode cX9_copyFrom 4 = .ok (.return_, 1) := by decide +kernel
theorem dX9_copyFrom_5 : decode cX9_copyFrom 5 = .ok (.iconst 0, 1) := by decide +kernel
theorem dX9_copyFrom_6 : decode cX9_copyFrom 6 = .ok (.istore_n 2, 1) := by decide +kernel
theorem dX9_copyFrom_7 : decode cX9_copyFrom 7 = .ok (.iload_n 2, 1) := by decide +kernel
theorem dX9_copyFrom_8 : decode cX9_copyFrom 8 = .ok (.bipush 6, 2) := by decide +kernel
theorem dX9_copyFrom_10 : decode cX9_copyFrom 10 = .ok (.if_icmp .ge 69, 3) := by decide +kernel
theorem dX9_copyFrom_13 : decode cX9_copyFrom 13 = .ok (.aload_n 0, 1) := by decide +kernel
theorem dX9_copyFrom_14 : decode cX9_copyFrom 14 = .ok (.getfield 37, 3) := by decide +kernel
theorem dX9_copyFrom_17 : decode cX9_copyFrom 17 = .ok (.iload_n 2, 1) := by decide +kernel
theorem dX9_copyFrom_18 : decode cX9_copyFrom 18 = .ok (.aload_n 1, 1) := by decide +kernel
theorem dX9_copyFrom_19 : decode cX9_copyFrom 19 = .ok (.getfield 37, 3) := by decide +kernel
theorem dX9_copyFrom_22 : decode cX9_copyFrom 22 = .ok (.iload_n 2, 1) := by decide +kernel
theorem dX9_copyFrom_23 : decode cX9_copyFrom 23 = .ok (.iaload, 1) := by decide +kernel
theorem dX9_copyFrom_24 : decode cX9_copyFrom 24 = .ok (.iastore, 1) := by decide +kernel
theorem dX9_copyFrom_25 : decode cX9_copyFrom 25 = .ok (.aload_n 0, 1) := by decide +kernel
theorem dX9_copyFrom_26 : decode cX9_copyFrom 26 = .ok (.getfield 41, 3) := by decide +kernel
theorem dX9_copyFrom_29 : decode cX9_copyFrom 29 = .ok (.iload_n 2, 1) := by decide +kernel
theorem dX9_copyFrom_30 : decode cX9_copyFrom 30 = .ok (.aload_n 1, 1) := by decide +kernel
theorem dX9_copyFrom_31 : decode cX9_copyFrom 31 = .ok (.getfield 41, 3) := by decide +kernel
theorem dX9_copyFrom_34 : decode cX9_copyFrom 34 = .ok (.iload_n 2, 1) := by decide +kernel
theorem dX9_copyFrom_35 : decode cX9_copyFrom 35 = .ok (.iaload, 1) := by decide +kernel
theorem dX9_copyFrom_36 : decode cX9_copyFrom 36 = .ok (.iastore, 1) := by decide +kernel
theorem dX9_copyFrom_37 : decode cX9_copyFrom 37 = .ok (.aload_n 0, 1) := by decide +kernel
theorem dX9_copyFrom_38 : decode cX9_copyFrom 38 = .ok (.getfield 44, 3) := by decide +kernel
theorem dX9_copyFrom_41 : decode cX9_copyFrom 41 = .ok (.iload_n 2, 1) := by decide +kernel
theorem dX9_copyFrom_42 : decode cX9_copyFrom 42 = .ok (.aload_n 1, 1) := by decide +kernel
theorem dX9_copyFrom_43 : decode cX9_copyFrom 43 = .ok (.getfield 44, 3) := by decide +kernel
theorem dX9_copyFrom_46 : decode cX9_copyFrom 46 = .ok (.iload_n 2, 1) := by decide +kernel
theorem dX9_copyFrom_47 : decode cX9_copyFrom 47 = .ok (.iaload, 1) := by decide +kernel
theorem dX9_copyFrom_48 : decode cX9_copyFrom 48 = .ok (.iastore, 1) := by decide +kernel
theorem dX9_copyFrom_49 : decode cX9_copyFrom 49 = .ok (.aload_n 0, 1) := by decide +kernel
theorem dX9_copyFrom_50 : decode cX9_copyFrom 50 = .ok (.getfield 47, 3) := by decide +kernel
theorem dX9_copyFrom_53 : decode cX9_copyFrom 53 = .ok (.iload_n 2, 1) := by decide +kernel
theorem dX9_copyFrom_54 : decode cX9_copyFrom 54 = .ok (.aload_n 1, 1) := by decide +kernel
theorem dX9_copyFrom_55 : decode cX9_copyFrom 55 = .ok (.getfield 47, 3) := by decide +kernel
theorem dX9_copyFrom_58 : decode cX9_copyFrom 58 = .ok (.iload_n 2, 1) := by decide +kernel
theorem dX9_copyFrom_59 : decode cX9_copyFrom 59 = .ok (.iaload, 1) := by decide +kernel
theorem dX9_copyFrom_60 : decode cX9_copyFrom 60 = .ok (.iastore, 1) := by decide +kernel
theorem dX9_copyFrom_61 : decode cX9_copyFrom 61 = .ok (.aload_n 0, 1) := by decide +kernel
theorem dX9_copyFrom_62 : decode cX9_copyFrom 62 = .ok (.getfield 50, 3) := by decide +kernel
theorem dX9_copyFrom_65 : decode cX9_copyFrom 65 = .ok (.iload_n 2, 1) := by decide +kernel
theorem dX9_copyFrom_66 : decode cX9_copyFrom 66 = .ok (.aload_n 1, 1) := by decide +kernel
theorem dX9_copyFrom_67 : decode cX9_copyFrom 67 = .ok (.getfield 50, 3) := by decide +kernel
theorem dX9_copyFrom_70 : decode cX9_copyFrom 70 = .ok (.iload_n 2, 1) := by decide +kernel
theorem dX9_copyFrom_71 : decode cX9_copyFrom 71 = .ok (.iaload, 1) := by decide +kernel
theorem dX9_copyFrom_72 : decode cX9_copyFrom 72 = .ok (.iastore, 1) := by decide +kernel
theorem dX9_copyFrom_73 : decode cX9_copyFrom 73 = .ok (.iinc 2 1, 3) := by decide +kernel
theorem dX9_copyFrom_76 : decode cX9_copyFrom 76 = .ok (.goto (-69), 3) := by decide +kernel
theorem dX9_copyFrom_79 : decode cX9_copyFrom 79 = .ok (.aload_n 0, 1) := by decide +kernel
theorem dX9_copyFrom_80 : decode cX9_copyFrom 80 = .ok (.aload_n 1, 1) := by decide +kernel
theorem dX9_copyFrom_81 : decode cX9_copyFrom 81 = .ok (.getfield 67, 3) := by decide +kernel
theorem dX9_copyFrom_84 : decode cX9_copyFrom 84 = .ok (.putfield 67, 3) := by decide +kernel
theorem dX9_copyFrom_87 : decode cX9_copyFrom 87 = .ok (.aload_n 0, 1) := by decide +kernel
theorem dX9_copyFrom_88 : decode cX9_copyFrom 88 = .ok (.aload_n 1, 1) := by decide +kernel
theorem dX9_copyFrom_89 : decode cX9_copyFrom 89 = .ok (.getfield 71, 3) := by decide +kernel
theorem dX9_copyFrom_92 : decode cX9_copyFrom 92 = .ok (.putfield 71, 3) := by decide +kernel
theorem dX9_copyFrom_95 : decode cX9_copyFrom 95 = .ok (.aload_n 0, 1) := by decide +kernel
theorem dX9_copyFrom_96 : decode cX9_copyFrom 96 = .ok (.aload_n 1, 1) := by decide +kernel
theorem dX9_copyFrom_97 : decode cX9_copyFrom 97 = .ok (.getfield 74, 3) := by decide +kernel
theorem dX9_copyFrom_100 : decode cX9_copyFrom 100 = .ok (.putfield 74, 3) := by decide +kernel
theorem dX9_copyFrom_103 : decode cX9_copyFrom 103 = .ok (.aload_n 0, 1) := by decide +kernel
theorem dX9_copyFrom_104 : decode cX9_copyFrom 104 = .ok (.getfield 56, 3) := by decide +kernel
theorem dX9_copyFrom_107 : decode cX9_copyFrom 107 = .ok (.aload_n 1, 1) := by decide +kernel
theorem dX9_copyFrom_108 : decode cX9_copyFrom 108 = .ok (.getfield 56, 3) := by decide +kernel
theorem dX9_copyFrom_111 : decode cX9_copyFrom 111 = .ok (.invokevirtual 81, 3) := by decide +kernel
theorem dX9_copyFrom_114 : decode cX9_copyFrom 114 = .ok (.aload_n 0, 1) := by decide +kernel
theorem dX9_copyFrom_115 : decode cX9_copyFrom 115 = .ok (.getfield 63, 3) := by decide +kernel
theorem dX9_copyFrom_118 : decode cX9_copyFrom 118 = .ok (.aload_n 1, 1) := by decide +kernel
theorem dX9_copyFrom_119 : decode cX9_copyFrom 119 = .ok (.getfield 63, 3) := by decide +kernel
theorem dX9_copyFrom_122 : decode cX9_copyFrom 122 = .ok (.invokevirtual 85, 3) := by decide +kernel
theorem dX9_copyFrom_125 : decode cX9_copyFrom 125 = .ok (.return_, 1) := by decide +kernel
theorem dX9_people_0 : decode cX9_people 0 = .ok (.aload_n 0, 1) := by decide +kernel
theorem dX9_people_1 : decode cX9_people 1 = .ok (.getfield 67, 3) := by decide +kernel
theorem dX9_people_4 : decode cX9_people 4 = .ok (.ireturn, 1) := by decide +kernel
theorem dX9_isThere_0 : decode cX9_isThere 0 = .ok (.iload_n 1, 1) := by decide +kernel
theorem dX9_isThere_1 : decode cX9_isThere 1 = .ok (.ifCond .lt 21, 3) := by decide +kernel
theorem dX9_isThere_4 : decode cX9_isThere 4 = .ok (.iload_n 1, 1) := by decide +kernel
theorem dX9_isThere_5 : decode cX9_isThere 5 = .ok (.aload_n 0, 1) := by decide +kernel
theorem dX9_isThere_6 : decode cX9_isThere 6 = .ok (.getfield 67, 3) := by decide +kernel
theorem dX9_isThere_9 : decode cX9_isThere 9 = .ok (.if_icmp .ge 13, 3) := by decide +kernel
theorem dX9_isThere_12 : decode cX9_isThere 12 = .ok (.iload_n 1, 1) := by decide +kernel
theorem dX9_isThere_13 : decode cX9_isThere 13 = .ok (.bipush 6, 2) := by decide +kernel
theorem dX9_isThere_15 : decode cX9_isThere 15 = .ok (.if_icmp .ge 7, 3) := by decide +kernel
theorem dX9_isThere_18 : decode cX9_isThere 18 = .ok (.iconst 1, 1) := by decide +kernel
theorem dX9_isThere_19 : decode cX9_isThere 19 = .ok (.goto 4, 3) := by decide +kernel
theorem dX9_isThere_22 : decode cX9_isThere 22 = .ok (.iconst 0, 1) := by decide +kernel
theorem dX9_isThere_23 : decode cX9_isThere 23 = .ok (.ireturn, 1) := by decide +kernel
theorem dX9_kindOf_0 : decode cX9_kindOf 0 = .ok (.aload_n 0, 1) := by decide +kernel
theorem dX9_kindOf_1 : decode cX9_kindOf 1 = .ok (.iload_n 1, 1) := by decide +kernel
theorem dX9_kindOf_2 : decode cX9_kindOf 2 = .ok (.invokevirtual 88, 3) := by decide +kernel
theorem dX9_kindOf_5 : decode cX9_kindOf 5 = .ok (.ifCond .eq 12, 3) := by decide +kernel
theorem dX9_kindOf_8 : decode cX9_kindOf 8 = .ok (.aload_n 0, 1) := by decide +kernel
theorem dX9_kindOf_9 : decode cX9_kindOf 9 = .ok (.getfield 37, 3) := by decide +kernel
theorem dX9_kindOf_12 : decode cX9_kindOf 12 = .ok (.iload_n 1, 1) := by decide +kernel
theorem dX9_kindOf_13 : decode cX9_kindOf 13 = .ok (.iaload, 1) := by decide +kernel
theorem dX9_kindOf_14 : decode cX9_kindOf 14 = .ok (.goto 4, 3) := by decide +kernel
theorem dX9_kindOf_17 : decode cX9_kindOf 17 = .ok (.iconst 0, 1) := by decide +kernel
theorem dX9_kindOf_18 : decode cX9_kindOf 18 = .ok (.ireturn, 1) := by decide +kernel
theorem dX9_honestyOf_0 : decode cX9_honestyOf 0 = .ok (.aload_n 0, 1) := by decide +kernel
theorem dX9_honestyOf_1 : decode cX9_honestyOf 1 = .ok (.iload_n 1, 1) := by decide +kernel
theorem dX9_honestyOf_2 : decode cX9_honestyOf 2 = .ok (.invokevirtual 88, 3) := by decide +kernel
theorem dX9_honestyOf_5 : decode cX9_honestyOf 5 = .ok (.ifCond .eq 12, 3) := by decide +kernel
theorem dX9_honestyOf_8 : decode cX9_honestyOf 8 = .ok (.aload_n 0, 1) := by decide +kernel
theorem dX9_honestyOf_9 : decode cX9_honestyOf 9 = .ok (.getfield 41, 3) := by decide +kernel
theorem dX9_honestyOf_12 : decode cX9_honestyOf 12 = .ok (.iload_n 1, 1) := by decide +kernel
theorem dX9_honestyOf_13 : decode cX9_honestyOf 13 = .ok (.iaload, 1) := by decide +kernel
theorem dX9_honestyOf_14 : decode cX9_honestyOf 14 = .ok (.goto 4, 3) := by decide +kernel
theorem dX9_honestyOf_17 : decode cX9_honestyOf 17 = .ok (.iconst 0, 1) := by decide +kernel
theorem dX9_honestyOf_18 : decode cX9_honestyOf 18 = .ok (.ireturn, 1) := by decide +kernel
theorem dX9_piecesOf_0 : decode cX9_piecesOf 0 = .ok (.aload_n 0, 1) := by decide +kernel
theorem dX9_piecesOf_1 : decode cX9_piecesOf 1 = .ok (.iload_n 1, 1) := by decide +kernel
theorem dX9_piecesOf_2 : decode cX9_piecesOf 2 = .ok (.invokevirtual 88, 3) := by decide +kernel
theorem dX9_piecesOf_5 : decode cX9_piecesOf 5 = .ok (.ifCond .eq 12, 3) := by decide +kernel
theorem dX9_piecesOf_8 : decode cX9_piecesOf 8 = .ok (.aload_n 0, 1) := by decide +kernel
theorem dX9_piecesOf_9 : decode cX9_piecesOf 9 = .ok (.getfield 44, 3) := by decide +kernel
theorem dX9_piecesOf_12 : decode cX9_piecesOf 12 = .ok (.iload_n 1, 1) := by decide +kernel
theorem dX9_piecesOf_13 : decode cX9_piecesOf 13 = .ok (.iaload, 1) := by decide +kernel
theorem dX9_piecesOf_14 : decode cX9_piecesOf 14 = .ok (.goto 4, 3) := by decide +kernel
theorem dX9_piecesOf_17 : decode cX9_piecesOf 17 = .ok (.iconst 0, 1) := by decide +kernel
theorem dX9_piecesOf_18 : decode cX9_piecesOf 18 = .ok (.ireturn, 1) := by decide +kernel
theorem dX9_payOf_0 : decode cX9_payOf 0 = .ok (.aload_n 0, 1) := by decide +kernel
theorem dX9_payOf_1 : decode cX9_payOf 1 = .ok (.iload_n 1, 1) := by decide +kernel
theorem dX9_payOf_2 : decode cX9_payOf 2 = .ok (.invokevirtual 88, 3) := by decide +kernel
theorem dX9_payOf_5 : decode cX9_payOf 5 = .ok (.ifCond .eq 12, 3) := by decide +kernel
theorem dX9_payOf_8 : decode cX9_payOf 8 = .ok (.aload_n 0, 1) := by decide +kernel
theorem dX9_payOf_9 : decode cX9_payOf 9 = .ok (.getfield 47, 3) := by decide +kernel
theorem dX9_payOf_12 : decode cX9_payOf 12 = .ok (.iload_n 1, 1) := by decide +kernel
theorem dX9_payOf_13 : decode cX9_payOf 13 = .ok (.iaload, 1) := by decide +kernel
theorem dX9_payOf_14 : decode cX9_payOf 14 = .ok (.goto 4, 3) := by decide +kernel
theorem dX9_payOf_17 : decode cX9_payOf 17 = .ok (.iconst 0, 1) := by decide +kernel
theorem dX9_payOf_18 : decode cX9_payOf 18 = .ok (.ireturn, 1) := by decide +kernel
theorem dX9_handsOf_0 : decode cX9_handsOf 0 = .ok (.aload_n 0, 1) := by decide +kernel
theorem dX9_handsOf_1 : decode cX9_handsOf 1 = .ok (.iload_n 1, 1) := by decide +kernel
theorem dX9_handsOf_2 : decode cX9_handsOf 2 = .ok (.invokevirtual 88, 3) := by decide +kernel
theorem dX9_handsOf_5 : decode cX9_handsOf 5 = .ok (.ifCond .eq 12, 3) := by decide +kernel
theorem dX9_handsOf_8 : decode cX9_handsOf 8 = .ok (.aload_n 0, 1) := by decide +kernel
theorem dX9_handsOf_9 : decode cX9_handsOf 9 = .ok (.getfield 50, 3) := by decide +kernel
theorem dX9_handsOf_12 : decode cX9_handsOf 12 = .ok (.iload_n 1, 1) := by decide +kernel
theorem dX9_handsOf_13 : decode cX9_handsOf 13 = .ok (.iaload, 1) := by decide +kernel
theorem dX9_handsOf_14 : decode cX9_handsOf 14 = .ok (.goto 4, 3) := by decide +kernel
theorem dX9_handsOf_17 : decode cX9_handsOf 17 = .ok (.iconst 0, 1) := by decide +kernel
theorem dX9_handsOf_18 : decode cX9_handsOf 18 = .ok (.ireturn, 1) := by decide +kernel
theorem dX9_liedOf_0 : decode cX9_liedOf 0 = .ok (.aload_n 0, 1) := by decide +kernel
theorem dX9_liedOf_1 : decode cX9_liedOf 1 = .ok (.iload_n 1, 1) := by decide +kernel
theorem dX9_liedOf_2 : decode cX9_liedOf 2 = .ok (.invokevirtual 88, 3) := by decide +kernel
theorem dX9_liedOf_5 : decode cX9_liedOf 5 = .ok (.ifCond .eq 14, 3) := by decide +kernel
theorem dX9_liedOf_8 : decode cX9_liedOf 8 = .ok (.aload_n 0, 1) := by decide +kernel
theorem dX9_liedOf_9 : decode cX9_liedOf 9 = .ok (.getfield 74, 3) := by decide +kernel
theorem dX9_liedOf_12 : decode cX9_liedOf 12 = .ok (.iload_n 1, 1) := by decide +kernel
theorem dX9_liedOf_13 : decode cX9_liedOf 13 = .ok (.ishr, 1) := by decide +kernel
theorem dX9_liedOf_14 : decode cX9_liedOf 14 = .ok (.iconst 1, 1) := by decide +kernel
theorem dX9_liedOf_15 : decode cX9_liedOf 15 = .ok (.iand, 1) := by decide +kernel
theorem dX9_liedOf_16 : decode cX9_liedOf 16 = .ok (.goto 4, 3) := by decide +kernel
theorem dX9_liedOf_19 : decode cX9_liedOf 19 = .ok (.iconst 0, 1) := by decide +kernel
theorem dX9_liedOf_20 : decode cX9_liedOf 20 = .ok (.ireturn, 1) := by decide +kernel
theorem dX9_today_0 : decode cX9_today 0 = .ok (.aload_n 0, 1) := by decide +kernel
theorem dX9_today_1 : decode cX9_today 1 = .ok (.getfield 71, 3) := by decide +kernel
theorem dX9_today_4 : decode cX9_today 4 = .ok (.ireturn, 1) := by decide +kernel
theorem dX9_liars_0 : decode cX9_liars 0 = .ok (.aload_n 0, 1) := by decide +kernel
theorem dX9_liars_1 : decode cX9_liars 1 = .ok (.getfield 74, 3) := by decide +kernel
theorem dX9_liars_4 : decode cX9_liars 4 = .ok (.invokestatic 92, 3) := by decide +kernel
theorem dX9_liars_7 : decode cX9_liars 7 = .ok (.ireturn, 1) := by decide +kernel
theorem dX9_notes_0 : decode cX9_notes 0 = .ok (.aload_n 0, 1) := by decide +kernel
theorem dX9_notes_1 : decode cX9_notes 1 = .ok (.getfield 56, 3) := by decide +kernel
theorem dX9_notes_4 : decode cX9_notes 4 = .ok (.areturn, 1) := by decide +kernel
theorem dX9_allPieces_0 : decode cX9_allPieces 0 = .ok (.iconst 0, 1) := by decide +kernel
theorem dX9_allPieces_1 : decode cX9_allPieces 1 = .ok (.istore_n 1, 1) := by decide +kernel
theorem dX9_allPieces_2 : decode cX9_allPieces 2 = .ok (.iconst 0, 1) := by decide +kernel
theorem dX9_allPieces_3 : decode cX9_allPieces 3 = .ok (.istore_n 2, 1) := by decide +kernel
theorem dX9_allPieces_4 : decode cX9_allPieces 4 = .ok (.iload_n 2, 1) := by decide +kernel
theorem dX9_allPieces_5 : decode cX9_allPieces 5 = .ok (.aload_n 0, 1) := by decide +kernel
theorem dX9_allPieces_6 : decode cX9_allPieces 6 = .ok (.getfield 67, 3) := by decide +kernel
theorem dX9_allPieces_9 : decode cX9_allPieces 9 = .ok (.if_icmp .ge 17, 3) := by decide +kernel
theorem dX9_allPieces_12 : decode cX9_allPieces 12 = .ok (.iload_n 1, 1) := by decide +kernel
theorem dX9_allPieces_13 : decode cX9_allPieces 13 = .ok (.aload_n 0, 1) := by decide +kernel
theorem dX9_allPieces_14 : decode cX9_allPieces 14 = .ok (.iload_n 2, 1) := by decide +kernel
theorem dX9_allPieces_15 : decode cX9_allPieces 15 = .ok (.invokevirtual 98, 3) := by decide +kernel
theorem dX9_allPieces_18 : decode cX9_allPieces 18 = .ok (.iadd, 1) := by decide +kernel
theorem dX9_allPieces_19 : decode cX9_allPieces 19 = .ok (.istore_n 1, 1) := by decide +kernel
theorem dX9_allPieces_20 : decode cX9_allPieces 20 = .ok (.iinc 2 1, 3) := by decide +kernel
theorem dX9_allPieces_23 : decode cX9_allPieces 23 = .ok (.goto (-19), 3) := by decide +kernel
theorem dX9_allPieces_26 : decode cX9_allPieces 26 = .ok (.iload_n 1, 1) := by decide +kernel
theorem dX9_allPieces_27 : decode cX9_allPieces 27 = .ok (.ireturn, 1) := by decide +kernel
theorem dX9_join_0 : decode cX9_join 0 = .ok (.aload_n 0, 1) := by decide +kernel
theorem dX9_join_1 : decode cX9_join 1 = .ok (.getfield 67, 3) := by decide +kernel
theorem dX9_join_4 : decode cX9_join 4 = .ok (.istore 5, 2) := by decide +kernel
theorem dX9_join_6 : decode cX9_join 6 = .ok (.iload 5, 2) := by decide +kernel
theorem dX9_join_8 : decode cX9_join 8 = .ok (.ifCond .lt 10, 3) := by decide +kernel
theorem dX9_join_11 : decode cX9_join 11 = .ok (.iload 5, 2) := by decide +kernel
theorem dX9_join_13 : decode cX9_join 13 = .ok (.bipush 6, 2) := by decide +kernel
theorem dX9_join_15 : decode cX9_join 15 = .ok (.if_icmp .lt 6, 3) := by decide +kernel
theorem dX9_join_18 : decode cX9_join 18 = .ok (.bipush (-4), 2) := by decide +kernel
theorem dX9_join_20 : decode cX9_join 20 = .ok (.ireturn, 1) := by decide +kernel
theorem dX9_join_21 : decode cX9_join 21 = .ok (.aload_n 0, 1) := by decide +kernel
theorem dX9_join_22 : decode cX9_join 22 = .ok (.getfield 37, 3) := by decide +kernel
theorem dX9_join_25 : decode cX9_join 25 = .ok (.iload 5, 2) := by decide +kernel
theorem dX9_join_27 : decode cX9_join 27 = .ok (.iload_n 1, 1) := by decide +kernel
theorem dX9_join_28 : decode cX9_join 28 = .ok (.iastore, 1) := by decide +kernel
theorem dX9_join_29 : decode cX9_join 29 = .ok (.aload_n 0, 1) := by decide +kernel
theorem dX9_join_30 : decode cX9_join 30 = .ok (.getfield 41, 3) := by decide +kernel
theorem dX9_join_33 : decode cX9_join 33 = .ok (.iload 5, 2) := by decide +kernel
theorem dX9_join_35 : decode cX9_join 35 = .ok (.iload_n 2, 1) := by decide +kernel
theorem dX9_join_36 : decode cX9_join 36 = .ok (.iastore, 1) := by decide +kernel
theorem dX9_join_37 : decode cX9_join 37 = .ok (.aload_n 0, 1) := by decide +kernel
theorem dX9_join_38 : decode cX9_join 38 = .ok (.getfield 44, 3) := by decide +kernel
theorem dX9_join_41 : decode cX9_join 41 = .ok (.iload 5, 2) := by decide +kernel
theorem dX9_join_43 : decode cX9_join 43 = .ok (.iload_n 3, 1) := by decide +kernel
theorem dX9_join_44 : decode cX9_join 44 = .ok (.iastore, 1) := by decide +kernel
theorem dX9_join_45 : decode cX9_join 45 = .ok (.aload_n 0, 1) := by decide +kernel
theorem dX9_join_46 : decode cX9_join 46 = .ok (.getfield 47, 3) := by decide +kernel
theorem dX9_join_49 : decode cX9_join 49 = .ok (.iload 5, 2) := by decide +kernel
theorem dX9_join_51 : decode cX9_join 51 = .ok (.iload 4, 2) := by decide +kernel
theorem dX9_join_53 : decode cX9_join 53 = .ok (.iastore, 1) := by decide +kernel
theorem dX9_join_54 : decode cX9_join 54 = .ok (.aload_n 0, 1) := by decide +kernel
theorem dX9_join_55 : decode cX9_join 55 = .ok (.getfield 50, 3) := by decide +kernel
theorem dX9_join_58 : decode cX9_join 58 = .ok (.iload 5, 2) := by decide +kernel
theorem dX9_join_60 : decode cX9_join 60 = .ok (.iconst 0, 1) := by decide +kernel
theorem dX9_join_61 : decode cX9_join 61 = .ok (.iastore, 1) := by decide +kernel
theorem dX9_join_62 : decode cX9_join 62 = .ok (.aload_n 0, 1) := by decide +kernel
theorem dX9_join_63 : decode cX9_join 63 = .ok (.iload 5, 2) := by decide +kernel
theorem dX9_join_65 : decode cX9_join 65 = .ok (.iconst 1, 1) := by decide +kernel
theorem dX9_join_66 : decode cX9_join 66 = .ok (.iadd, 1) := by decide +kernel
theorem dX9_join_67 : decode cX9_join 67 = .ok (.putfield 67, 3) := by decide +kernel
theorem dX9_join_70 : decode cX9_join 70 = .ok (.iload 5, 2) := by decide +kernel
theorem dX9_join_72 : decode cX9_join 72 = .ok (.ireturn, 1) := by decide +kernel
theorem dX9_tellHands_0 : decode cX9_tellHands 0 = .ok (.aload_n 0, 1) := by decide +kernel
theorem dX9_tellHands_1 : decode cX9_tellHands 1 = .ok (.iload_n 1, 1) := by decide +kernel
theorem dX9_tellHands_2 : decode cX9_tellHands 2 = .ok (.invokevirtual 88, 3) := by decide +kernel
theorem dX9_tellHands_5 : decode cX9_tellHands 5 = .ok (.ifCond .eq 10, 3) := by decide +kernel
theorem dX9_tellHands_8 : decode cX9_tellHands 8 = .ok (.aload_n 0, 1) := by decide +kernel
theorem dX9_tellHands_9 : decode cX9_tellHands 9 = .ok (.getfield 50, 3) := by decide +kernel
theorem dX9_tellHands_12 : decode cX9_tellHands 12 = .ok (.iload_n 1, 1) := by decide +kernel
theorem dX9_tellHands_13 : decode cX9_tellHands 13 = .ok (.iload_n 2, 1) := by decide +kernel
theorem dX9_tellHands_14 : decode cX9_tellHands 14 = .ok (.iastore, 1) := by decide +kernel
theorem dX9_tellHands_15 : decode cX9_tellHands 15 = .ok (.return_, 1) := by decide +kernel
theorem dX9_tellLie_0 : decode cX9_tellLie 0 = .ok (.aload_n 0, 1) := by decide +kernel
theorem dX9_tellLie_1 : decode cX9_tellLie 1 = .ok (.iload_n 1, 1) := by decide +kernel
theorem dX9_tellLie_2 : decode cX9_tellLie 2 = .ok (.invokevirtual 88, 3) := by decide +kernel
theorem dX9_tellLie_5 : decode cX9_tellLie 5 = .ok (.ifCond .eq 27, 3) := by decide +kernel
theorem dX9_tellLie_8 : decode cX9_tellLie 8 = .ok (.aload_n 0, 1) := by decide +kernel
theorem dX9_tellLie_9 : decode cX9_tellLie 9 = .ok (.getfield 41, 3) := by decide +kernel
theorem dX9_tellLie_12 : decode cX9_tellLie 12 = .ok (.iload_n 1, 1) := by decide +kernel
theorem dX9_tellLie_13 : decode cX9_tellLie 13 = .ok (.aload_n 0, 1) := by decide +kernel
theorem dX9_tellLie_14 : decode cX9_tellLie 14 = .ok (.iload_n 1, 1) := by decide +kernel
theorem dX9_tellLie_15 : decode cX9_tellLie 15 = .ok (.iload_n 2, 1) := by decide +kernel
theorem dX9_tellLie_16 : decode cX9_tellLie 16 = .ok (.invokevirtual 101, 3) := by decide +kernel
theorem dX9_tellLie_19 : decode cX9_tellLie 19 = .ok (.iastore, 1) := by decide +kernel
theorem dX9_tellLie_20 : decode cX9_tellLie 20 = .ok (.aload_n 0, 1) := by decide +kernel
theorem dX9_tellLie_21 : decode cX9_tellLie 21 = .ok (.dup, 1) := by decide +kernel
theorem dX9_tellLie_22 : decode cX9_tellLie 22 = .ok (.getfield 74, 3) := by decide +kernel
theorem dX9_tellLie_25 : decode cX9_tellLie 25 = .ok (.iconst 1, 1) := by decide +kernel
theorem dX9_tellLie_26 : decode cX9_tellLie 26 = .ok (.iload_n 1, 1) := by decide +kernel
theorem dX9_tellLie_27 : decode cX9_tellLie 27 = .ok (.ishl, 1) := by decide +kernel
theorem dX9_tellLie_28 : decode cX9_tellLie 28 = .ok (.ior, 1) := by decide +kernel
theorem dX9_tellLie_29 : decode cX9_tellLie 29 = .ok (.putfield 74, 3) := by decide +kernel
theorem dX9_tellLie_32 : decode cX9_tellLie 32 = .ok (.return_, 1) := by decide +kernel
theorem dX9_handOn_0 : decode cX9_handOn 0 = .ok (.aload_n 0, 1) := by decide +kernel
theorem dX9_handOn_1 : decode cX9_handOn 1 = .ok (.iload_n 1, 1) := by decide +kernel
theorem dX9_handOn_2 : decode cX9_handOn 2 = .ok (.invokevirtual 88, 3) := by decide +kernel
theorem dX9_handOn_5 : decode cX9_handOn 5 = .ok (.ifCond .eq 31, 3) := by decide +kernel
theorem dX9_handOn_8 : decode cX9_handOn 8 = .ok (.aload_n 0, 1) := by decide +kernel
theorem dX9_handOn_9 : decode cX9_handOn 9 = .ok (.iload_n 2, 1) := by decide +kernel
theorem dX9_handOn_10 : decode cX9_handOn 10 = .ok (.invokevirtual 88, 3) := by decide +kernel
theorem dX9_handOn_13 : decode cX9_handOn 13 = .ok (.ifCond .eq 23, 3) := by decide +kernel
theorem dX9_handOn_16 : decode cX9_handOn 16 = .ok (.aload_n 0, 1) := by decide +kernel
theorem dX9_handOn_17 : decode cX9_handOn 17 = .ok (.getfield 44, 3) := by decide +kernel
theorem dX9_handOn_20 : decode cX9_handOn 20 = .ok (.iload_n 1, 1) := by decide +kernel
theorem dX9_handOn_21 : decode cX9_handOn 21 = .ok (.dup2, 1) := by decide +kernel
theorem dX9_handOn_22 : decode cX9_handOn 22 = .ok (.iaload, 1) := by decide +kernel
theorem dX9_handOn_23 : decode cX9_handOn 23 = .ok (.iload_n 3, 1) := by decide +kernel
theorem dX9_handOn_24 : decode cX9_handOn 24 = .ok (.isub, 1) := by decide +kernel
theorem dX9_handOn_25 : decode cX9_handOn 25 = .ok (.iastore, 1) := by decide +kernel
theorem dX9_handOn_26 : decode cX9_handOn 26 = .ok (.aload_n 0, 1) := by decide +kernel
theorem dX9_handOn_27 : decode cX9_handOn 27 = .ok (.getfield 44, 3) := by decide +kernel
theorem dX9_handOn_30 : decode cX9_handOn 30 = .ok (.iload_n 2, 1) := by decide +kernel
theorem dX9_handOn_31 : decode cX9_handOn 31 = .ok (.dup2, 1) := by decide +kernel
theorem dX9_handOn_32 : decode cX9_handOn 32 = .ok (.iaload, 1) := by decide +kernel
theorem dX9_handOn_33 : decode cX9_handOn 33 = .ok (.iload_n 3, 1) := by decide +kernel
theorem dX9_handOn_34 : decode cX9_handOn 34 = .ok (.iadd, 1) := by decide +kernel
theorem dX9_handOn_35 : decode cX9_handOn 35 = .ok (.iastore, 1) := by decide +kernel
theorem dX9_handOn_36 : decode cX9_handOn 36 = .ok (.return_, 1) := by decide +kernel
theorem dX9_passDay_0 : decode cX9_passDay 0 = .ok (.iconst 0, 1) := by decide +kernel
theorem dX9_passDay_1 : decode cX9_passDay 1 = .ok (.istore_n 1, 1) := by decide +kernel
theorem dX9_passDay_2 : decode cX9_passDay 2 = .ok (.iload_n 1, 1) := by decide +kernel
theorem dX9_passDay_3 : decode cX9_passDay 3 = .ok (.aload_n 0, 1) := by decide +kernel
theorem dX9_passDay_4 : decode cX9_passDay 4 = .ok (.getfield 67, 3) := by decide +kernel
theorem dX9_passDay_7 : decode cX9_passDay 7 = .ok (.if_icmp .ge 29, 3) := by decide +kernel
theorem dX9_passDay_10 : decode cX9_passDay 10 = .ok (.aload_n 0, 1) := by decide +kernel
theorem dX9_passDay_11 : decode cX9_passDay 11 = .ok (.iload_n 1, 1) := by decide +kernel
theorem dX9_passDay_12 : decode cX9_passDay 12 = .ok (.invokevirtual 88, 3) := by decide +kernel
theorem dX9_passDay_15 : decode cX9_passDay 15 = .ok (.ifCond .eq 15, 3) := by decide +kernel
theorem dX9_passDay_18 : decode cX9_passDay 18 = .ok (.aload_n 0, 1) := by decide +kernel
theorem dX9_passDay_19 : decode cX9_passDay 19 = .ok (.getfield 41, 3) := by decide +kernel
theorem dX9_passDay_22 : decode cX9_passDay 22 = .ok (.iload_n 1, 1) := by decide +kernel
theorem dX9_passDay_23 : decode cX9_passDay 23 = .ok (.aload_n 0, 1) := by decide +kernel
theorem dX9_passDay_24 : decode cX9_passDay 24 = .ok (.iload_n 1, 1) := by decide +kernel
theorem dX9_passDay_25 : decode cX9_passDay 25 = .ok (.iconst 1, 1) := by decide +kernel
theorem dX9_passDay_26 : decode cX9_passDay 26 = .ok (.invokevirtual 105, 3) := by decide +kernel
theorem dX9_passDay_29 : decode cX9_passDay 29 = .ok (.iastore, 1) := by decide +kernel
theorem dX9_passDay_30 : decode cX9_passDay 30 = .ok (.iinc 1 1, 3) := by decide +kernel
theorem dX9_passDay_33 : decode cX9_passDay 33 = .ok (.goto (-31), 3) := by decide +kernel
theorem dX9_passDay_36 : decode cX9_passDay 36 = .ok (.aload_n 0, 1) := by decide +kernel
theorem dX9_passDay_37 : decode cX9_passDay 37 = .ok (.iconst 0, 1) := by decide +kernel
theorem dX9_passDay_38 : decode cX9_passDay 38 = .ok (.putfield 74, 3) := by decide +kernel
theorem dX9_passDay_41 : decode cX9_passDay 41 = .ok (.aload_n 0, 1) := by decide +kernel
theorem dX9_passDay_42 : decode cX9_passDay 42 = .ok (.sipush 999, 3) := by decide +kernel
theorem dX9_passDay_45 : decode cX9_passDay 45 = .ok (.aload_n 0, 1) := by decide +kernel
theorem dX9_passDay_46 : decode cX9_passDay 46 = .ok (.getfield 71, 3) := by decide +kernel
theorem dX9_passDay_49 : decode cX9_passDay 49 = .ok (.iconst 1, 1) := by decide +kernel
theorem dX9_passDay_50 : decode cX9_passDay 50 = .ok (.iadd, 1) := by decide +kernel
theorem dX9_passDay_51 : decode cX9_passDay 51 = .ok (.invokestatic 108, 3) := by decide +kernel
theorem dX9_passDay_54 : decode cX9_passDay 54 = .ok (.putfield 71, 3) := by decide +kernel
theorem dX9_passDay_57 : decode cX9_passDay 57 = .ok (.return_, 1) := by decide +kernel
theorem dX9_steps_0 : decode cX9_steps 0 = .ok (.aload_n 0, 1) := by decide +kernel
theorem dX9_steps_1 : decode cX9_steps 1 = .ok (.getfield 63, 3) := by decide +kernel
theorem dX9_steps_4 : decode cX9_steps 4 = .ok (.invokevirtual 113, 3) := by decide +kernel
theorem dX9_steps_7 : decode cX9_steps 7 = .ok (.ireturn, 1) := by decide +kernel
theorem dX9_forgetSteps_0 : decode cX9_forgetSteps 0 = .ok (.aload_n 0, 1) := by decide +kernel
theorem dX9_forgetSteps_1 : decode cX9_forgetSteps 1 = .ok (.getfield 63, 3) := by decide +kernel
theorem dX9_forgetSteps_4 : decode cX9_forgetSteps 4 = .ok (.invokevirtual 80, 3) := by decide +kernel
theorem dX9_forgetSteps_7 : decode cX9_forgetSteps 7 = .ok (.return_, 1) := by decide +kernel
theorem dX9_keepStep_0 : decode cX9_keepStep 0 = .ok (.aload_n 0, 1) := by decide +kernel
theorem dX9_keepStep_1 : decode cX9_keepStep 1 = .ok (.getfield 63, 3) := by decide +kernel
theorem dX9_keepStep_4 : decode cX9_keepStep 4 = .ok (.invokevirtual 117, 3) := by decide +kernel
theorem dX9_keepStep_7 : decode cX9_keepStep 7 = .ok (.iconst 0, 1) := by decide +kernel
theorem dX9_keepStep_8 : decode cX9_keepStep 8 = .ok (.istore_n 1, 1) := by decide +kernel
theorem dX9_keepStep_9 : decode cX9_keepStep 9 = .ok (.iload_n 1, 1) := by decide +kernel
theorem dX9_keepStep_10 : decode cX9_keepStep 10 = .ok (.bipush 6, 2) := by decide +kernel
theorem dX9_keepStep_12 : decode cX9_keepStep 12 = .ok (.if_icmp .ge 40, 3) := by decide +kernel
theorem dX9_keepStep_15 : decode cX9_keepStep 15 = .ok (.aload_n 0, 1) := by decide +kernel
theorem dX9_keepStep_16 : decode cX9_keepStep 16 = .ok (.getfield 63, 3) := by decide +kernel
theorem dX9_keepStep_19 : decode cX9_keepStep 19 = .ok (.iload_n 1, 1) := by decide +kernel
theorem dX9_keepStep_20 : decode cX9_keepStep 20 = .ok (.aload_n 0, 1) := by decide +kernel
theorem dX9_keepStep_21 : decode cX9_keepStep 21 = .ok (.getfield 41, 3) := by decide +kernel
theorem dX9_keepStep_24 : decode cX9_keepStep 24 = .ok (.iload_n 1, 1) := by decide +kernel
theorem dX9_keepStep_25 : decode cX9_keepStep 25 = .ok (.iaload, 1) := by decide +kernel
theorem dX9_keepStep_26 : decode cX9_keepStep 26 = .ok (.invokevirtual 120, 3) := by decide +kernel
theorem dX9_keepStep_29 : decode cX9_keepStep 29 = .ok (.aload_n 0, 1) := by decide +kernel
theorem dX9_keepStep_30 : decode cX9_keepStep 30 = .ok (.getfield 63, 3) := by decide +kernel
theorem dX9_keepStep_33 : decode cX9_keepStep 33 = .ok (.bipush 6, 2) := by decide +kernel
theorem dX9_keepStep_35 : decode cX9_keepStep 35 = .ok (.iload_n 1, 1) := by decide +kernel
theorem dX9_keepStep_36 : decode cX9_keepStep 36 = .ok (.iadd, 1) := by decide +kernel
theorem dX9_keepStep_37 : decode cX9_keepStep 37 = .ok (.aload_n 0, 1) := by decide +kernel
theorem dX9_keepStep_38 : decode cX9_keepStep 38 = .ok (.getfield 44, 3) := by decide +kernel
theorem dX9_keepStep_41 : decode cX9_keepStep 41 = .ok (.iload_n 1, 1) := by decide +kernel
theorem dX9_keepStep_42 : decode cX9_keepStep 42 = .ok (.iaload, 1) := by decide +kernel
theorem dX9_keepStep_43 : decode cX9_keepStep 43 = .ok (.invokevirtual 120, 3) := by decide +kernel
theorem dX9_keepStep_46 : decode cX9_keepStep 46 = .ok (.iinc 1 1, 3) := by decide +kernel
theorem dX9_keepStep_49 : decode cX9_keepStep 49 = .ok (.goto (-40), 3) := by decide +kernel
theorem dX9_keepStep_52 : decode cX9_keepStep 52 = .ok (.aload_n 0, 1) := by decide +kernel
theorem dX9_keepStep_53 : decode cX9_keepStep 53 = .ok (.getfield 63, 3) := by decide +kernel
theorem dX9_keepStep_56 : decode cX9_keepStep 56 = .ok (.bipush 12, 2) := by decide +kernel
theorem dX9_keepStep_58 : decode cX9_keepStep 58 = .ok (.aload_n 0, 1) := by decide +kernel
theorem dX9_keepStep_59 : decode cX9_keepStep 59 = .ok (.getfield 74, 3) := by decide +kernel
theorem dX9_keepStep_62 : decode cX9_keepStep 62 = .ok (.invokevirtual 120, 3) := by decide +kernel
theorem dX9_keepStep_65 : decode cX9_keepStep 65 = .ok (.aload_n 0, 1) := by decide +kernel
theorem dX9_keepStep_66 : decode cX9_keepStep 66 = .ok (.getfield 63, 3) := by decide +kernel
theorem dX9_keepStep_69 : decode cX9_keepStep 69 = .ok (.bipush 13, 2) := by decide +kernel
theorem dX9_keepStep_71 : decode cX9_keepStep 71 = .ok (.aload_n 0, 1) := by decide +kernel
theorem dX9_keepStep_72 : decode cX9_keepStep 72 = .ok (.getfield 71, 3) := by decide +kernel
theorem dX9_keepStep_75 : decode cX9_keepStep 75 = .ok (.invokevirtual 120, 3) := by decide +kernel
theorem dX9_keepStep_78 : decode cX9_keepStep 78 = .ok (.return_, 1) := by decide +kernel
theorem dX9_stepBack_0 : decode cX9_stepBack 0 = .ok (.aload_n 0, 1) := by decide +kernel
theorem dX9_stepBack_1 : decode cX9_stepBack 1 = .ok (.getfield 63, 3) := by decide +kernel
theorem dX9_stepBack_4 : decode cX9_stepBack 4 = .ok (.invokevirtual 113, 3) := by decide +kernel
theorem dX9_stepBack_7 : decode cX9_stepBack 7 = .ok (.ifCond .ne 4, 3) := by decide +kernel
theorem dX9_stepBack_10 : decode cX9_stepBack 10 = .ok (.return_, 1) := by decide +kernel
theorem dX9_stepBack_11 : decode cX9_stepBack 11 = .ok (.iconst 0, 1) := by decide +kernel
theorem dX9_stepBack_12 : decode cX9_stepBack 12 = .ok (.istore_n 1, 1) := by decide +kernel
theorem dX9_stepBack_13 : decode cX9_stepBack 13 = .ok (.iload_n 1, 1) := by decide +kernel
theorem dX9_stepBack_14 : decode cX9_stepBack 14 = .ok (.bipush 6, 2) := by decide +kernel
theorem dX9_stepBack_16 : decode cX9_stepBack 16 = .ok (.if_icmp .ge 40, 3) := by decide +kernel
theorem dX9_stepBack_19 : decode cX9_stepBack 19 = .ok (.aload_n 0, 1) := by decide +kernel
theorem dX9_stepBack_20 : decode cX9_stepBack 20 = .ok (.getfield 41, 3) := by decide +kernel
theorem dX9_stepBack_23 : decode cX9_stepBack 23 = .ok (.iload_n 1, 1) := by decide +kernel
theorem dX9_stepBack_24 : decode cX9_stepBack 24 = .ok (.aload_n 0, 1) := by decide +kernel
theorem dX9_stepBack_25 : decode cX9_stepBack 25 = .ok (.getfield 63, 3) := by decide +kernel
theorem dX9_stepBack_28 : decode cX9_stepBack 28 = .ok (.iload_n 1, 1) := by decide +kernel
theorem dX9_stepBack_29 : decode cX9_stepBack 29 = .ok (.invokevirtual 124, 3) := by decide +kernel
theorem dX9_stepBack_32 : decode cX9_stepBack 32 = .ok (.iastore, 1) := by decide +kernel
theorem dX9_stepBack_33 : decode cX9_stepBack 33 = .ok (.aload_n 0, 1) := by decide +kernel
theorem dX9_stepBack_34 : decode cX9_stepBack 34 = .ok (.getfield 44, 3) := by decide +kernel
theorem dX9_stepBack_37 : decode cX9_stepBack 37 = .ok (.iload_n 1, 1) := by decide +kernel
theorem dX9_stepBack_38 : decode cX9_stepBack 38 = .ok (.aload_n 0, 1) := by decide +kernel
theorem dX9_stepBack_39 : decode cX9_stepBack 39 = .ok (.getfield 63, 3) := by decide +kernel
theorem dX9_stepBack_42 : decode cX9_stepBack 42 = .ok (.bipush 6, 2) := by decide +kernel
theorem dX9_stepBack_44 : decode cX9_stepBack 44 = .ok (.iload_n 1, 1) := by decide +kernel
theorem dX9_stepBack_45 : decode cX9_stepBack 45 = .ok (.iadd, 1) := by decide +kernel
theorem dX9_stepBack_46 : decode cX9_stepBack 46 = .ok (.invokevirtual 124, 3) := by decide +kernel
theorem dX9_stepBack_49 : decode cX9_stepBack 49 = .ok (.iastore, 1) := by decide +kernel
theorem dX9_stepBack_50 : decode cX9_stepBack 50 = .ok (.iinc 1 1, 3) := by decide +kernel
theorem dX9_stepBack_53 : decode cX9_stepBack 53 = .ok (.goto (-40), 3) := by decide +kernel
theorem dX9_stepBack_56 : decode cX9_stepBack 56 = .ok (.aload_n 0, 1) := by decide +kernel
theorem dX9_stepBack_57 : decode cX9_stepBack 57 = .ok (.aload_n 0, 1) := by decide +kernel
theorem dX9_stepBack_58 : decode cX9_stepBack 58 = .ok (.getfield 63, 3) := by decide +kernel
theorem dX9_stepBack_61 : decode cX9_stepBack 61 = .ok (.bipush 12, 2) := by decide +kernel
theorem dX9_stepBack_63 : decode cX9_stepBack 63 = .ok (.invokevirtual 124, 3) := by decide +kernel
theorem dX9_stepBack_66 : decode cX9_stepBack 66 = .ok (.putfield 74, 3) := by decide +kernel
theorem dX9_stepBack_69 : decode cX9_stepBack 69 = .ok (.aload_n 0, 1) := by decide +kernel
theorem dX9_stepBack_70 : decode cX9_stepBack 70 = .ok (.aload_n 0, 1) := by decide +kernel
theorem dX9_stepBack_71 : decode cX9_stepBack 71 = .ok (.getfield 63, 3) := by decide +kernel
theorem dX9_stepBack_74 : decode cX9_stepBack 74 = .ok (.bipush 13, 2) := by decide +kernel
theorem dX9_stepBack_76 : decode cX9_stepBack 76 = .ok (.invokevirtual 124, 3) := by decide +kernel
theorem dX9_stepBack_79 : decode cX9_stepBack 79 = .ok (.putfield 71, 3) := by decide +kernel
theorem dX9_stepBack_82 : decode cX9_stepBack 82 = .ok (.aload_n 0, 1) := by decide +kernel
theorem dX9_stepBack_83 : decode cX9_stepBack 83 = .ok (.getfield 63, 3) := by decide +kernel
theorem dX9_stepBack_86 : decode cX9_stepBack 86 = .ok (.invokevirtual 127, 3) := by decide +kernel
theorem dX9_stepBack_89 : decode cX9_stepBack 89 = .ok (.return_, 1) := by decide +kernel
theorem dX9_weightBy_0 : decode cX9_weightBy 0 = .ok (.aload_n 0, 1) := by decide +kernel
theorem dX9_weightBy_1 : decode cX9_weightBy 1 = .ok (.iload_n 1, 1) := by decide +kernel
theorem dX9_weightBy_2 : decode cX9_weightBy 2 = .ok (.invokevirtual 130, 3) := by decide +kernel
theorem dX9_weightBy_5 : decode cX9_weightBy 5 = .ok (.iload_n 2, 1) := by decide +kernel
theorem dX9_weightBy_6 : decode cX9_weightBy 6 = .ok (.iload_n 3, 1) := by decide +kernel
theorem dX9_weightBy_7 : decode cX9_weightBy 7 = .ok (.iload 4, 2) := by decide +kernel
theorem dX9_weightBy_9 : decode cX9_weightBy 9 = .ok (.invokevirtual 134, 3) := by decide +kernel
theorem dX9_weightBy_12 : decode cX9_weightBy 12 = .ok (.ireturn, 1) := by decide +kernel
theorem dX9_weightWith_0 : decode cX9_weightWith 0 = .ok (.aload_n 0, 1) := by decide +kernel
theorem dX9_weightWith_1 : decode cX9_weightWith 1 = .ok (.aload_n 0, 1) := by decide +kernel
theorem dX9_weightWith_2 : decode cX9_weightWith 2 = .ok (.iload_n 1, 1) := by decide +kernel
theorem dX9_weightWith_3 : decode cX9_weightWith 3 = .ok (.invokevirtual 138, 3) := by decide +kernel
theorem dX9_weightWith_6 : decode cX9_weightWith 6 = .ok (.invokevirtual 130, 3) := by decide +kernel
theorem dX9_weightWith_9 : decode cX9_weightWith 9 = .ok (.iload_n 2, 1) := by decide +kernel
theorem dX9_weightWith_10 : decode cX9_weightWith 10 = .ok (.aload_n 0, 1) := by decide +kernel
theorem dX9_weightWith_11 : decode cX9_weightWith 11 = .ok (.iload_n 1, 1) := by decide +kernel
theorem dX9_weightWith_12 : decode cX9_weightWith 12 = .ok (.invokevirtual 141, 3) := by decide +kernel
theorem dX9_weightWith_15 : decode cX9_weightWith 15 = .ok (.aload_n 0, 1) := by decide +kernel
theorem dX9_weightWith_16 : decode cX9_weightWith 16 = .ok (.getfield 71, 3) := by decide +kernel
theorem dX9_weightWith_19 : decode cX9_weightWith 19 = .ok (.invokevirtual 134, 3) := by decide +kernel
theorem dX9_weightWith_22 : decode cX9_weightWith 22 = .ok (.ireturn, 1) := by decide +kernel
theorem dX9_ownWeight_0 : decode cX9_ownWeight 0 = .ok (.aload_n 0, 1) := by decide +kernel
theorem dX9_ownWeight_1 : decode cX9_ownWeight 1 = .ok (.iload_n 1, 1) := by decide +kernel
theorem dX9_ownWeight_2 : decode cX9_ownWeight 2 = .ok (.aload_n 0, 1) := by decide +kernel
theorem dX9_ownWeight_3 : decode cX9_ownWeight 3 = .ok (.iload_n 1, 1) := by decide +kernel
theorem dX9_ownWeight_4 : decode cX9_ownWeight 4 = .ok (.invokevirtual 98, 3) := by decide +kernel
theorem dX9_ownWeight_7 : decode cX9_ownWeight 7 = .ok (.invokevirtual 144, 3) := by decide +kernel
theorem dX9_ownWeight_10 : decode cX9_ownWeight 10 = .ok (.ireturn, 1) := by decide +kernel
theorem dX9_allWeight_0 : decode cX9_allWeight 0 = .ok (.iconst 0, 1) := by decide +kernel
theorem dX9_allWeight_1 : decode cX9_allWeight 1 = .ok (.istore_n 1, 1) := by decide +kernel
theorem dX9_allWeight_2 : decode cX9_allWeight 2 = .ok (.iconst 0, 1) := by decide +kernel
theorem dX9_allWeight_3 : decode cX9_allWeight 3 = .ok (.istore_n 2, 1) := by decide +kernel
theorem dX9_allWeight_4 : decode cX9_allWeight 4 = .ok (.iload_n 2, 1) := by decide +kernel
theorem dX9_allWeight_5 : decode cX9_allWeight 5 = .ok (.aload_n 0, 1) := by decide +kernel
theorem dX9_allWeight_6 : decode cX9_allWeight 6 = .ok (.getfield 67, 3) := by decide +kernel
theorem dX9_allWeight_9 : decode cX9_allWeight 9 = .ok (.if_icmp .ge 17, 3) := by decide +kernel
theorem dX9_allWeight_12 : decode cX9_allWeight 12 = .ok (.iload_n 1, 1) := by decide +kernel
theorem dX9_allWeight_13 : decode cX9_allWeight 13 = .ok (.aload_n 0, 1) := by decide +kernel
theorem dX9_allWeight_14 : decode cX9_allWeight 14 = .ok (.iload_n 2, 1) := by decide +kernel
theorem dX9_allWeight_15 : decode cX9_allWeight 15 = .ok (.invokevirtual 147, 3) := by decide +kernel
theorem dX9_allWeight_18 : decode cX9_allWeight 18 = .ok (.iadd, 1) := by decide +kernel
theorem dX9_allWeight_19 : decode cX9_allWeight 19 = .ok (.istore_n 1, 1) := by decide +kernel
theorem dX9_allWeight_20 : decode cX9_allWeight 20 = .ok (.iinc 2 1, 3) := by decide +kernel
theorem dX9_allWeight_23 : decode cX9_allWeight 23 = .ok (.goto (-19), 3) := by decide +kernel
theorem dX9_allWeight_26 : decode cX9_allWeight 26 = .ok (.iload_n 1, 1) := by decide +kernel
theorem dX9_allWeight_27 : decode cX9_allWeight 27 = .ok (.ireturn, 1) := by decide +kernel
theorem dX9_daysUntil_0 : decode cX9_daysUntil 0 = .ok (.iconst 0, 1) := by decide +kernel
theorem dX9_daysUntil_1 : decode cX9_daysUntil 1 = .ok (.istore_n 3, 1) := by decide +kernel
theorem dX9_daysUntil_2 : decode cX9_daysUntil 2 = .ok (.iload_n 3, 1) := by decide +kernel
theorem dX9_daysUntil_3 : decode cX9_daysUntil 3 = .ok (.bipush 60, 2) := by decide +kernel
theorem dX9_daysUntil_5 : decode cX9_daysUntil 5 = .ok (.if_icmp .gt 41, 3) := by decide +kernel
theorem dX9_daysUntil_8 : decode cX9_daysUntil 8 = .ok (.aload_n 0, 1) := by decide +kernel
theorem dX9_daysUntil_9 : decode cX9_daysUntil 9 = .ok (.aload_n 0, 1) := by decide +kernel
theorem dX9_daysUntil_10 : decode cX9_daysUntil 10 = .ok (.iload_n 1, 1) := by decide +kernel
theorem dX9_daysUntil_11 : decode cX9_daysUntil 11 = .ok (.invokevirtual 138, 3) := by decide +kernel
theorem dX9_daysUntil_14 : decode cX9_daysUntil 14 = .ok (.aload_n 0, 1) := by decide +kernel
theorem dX9_daysUntil_15 : decode cX9_daysUntil 15 = .ok (.iload_n 1, 1) := by decide +kernel
theorem dX9_daysUntil_16 : decode cX9_daysUntil 16 = .ok (.invokevirtual 98, 3) := by decide +kernel
theorem dX9_daysUntil_19 : decode cX9_daysUntil 19 = .ok (.aload_n 0, 1) := by decide +kernel
theorem dX9_daysUntil_20 : decode cX9_daysUntil 20 = .ok (.iload_n 1, 1) := by decide +kernel
theorem dX9_daysUntil_21 : decode cX9_daysUntil 21 = .ok (.iload_n 3, 1) := by decide +kernel
theorem dX9_daysUntil_22 : decode cX9_daysUntil 22 = .ok (.invokevirtual 105, 3) := by decide +kernel
theorem dX9_daysUntil_25 : decode cX9_daysUntil 25 = .ok (.aload_n 0, 1) := by decide +kernel
theorem dX9_daysUntil_26 : decode cX9_daysUntil 26 = .ok (.getfield 71, 3) := by decide +kernel
theorem dX9_daysUntil_29 : decode cX9_daysUntil 29 = .ok (.iload_n 3, 1) := by decide +kernel
theorem dX9_daysUntil_30 : decode cX9_daysUntil 30 = .ok (.iadd, 1) := by decide +kernel
theorem dX9_daysUntil_31 : decode cX9_daysUntil 31 = .ok (.invokevirtual 150, 3) := by decide +kernel
theorem dX9_daysUntil_34 : decode cX9_daysUntil 34 = .ok (.iload_n 2, 1) := by decide +kernel
theorem dX9_daysUntil_35 : decode cX9_daysUntil 35 = .ok (.if_icmp .lt 5, 3) := by decide +kernel
theorem dX9_daysUntil_38 : decode cX9_daysUntil 38 = .ok (.iload_n 3, 1) := by decide +kernel
theorem dX9_daysUntil_39 : decode cX9_daysUntil 39 = .ok (.ireturn, 1) := by decide +kernel
theorem dX9_daysUntil_40 : decode cX9_daysUntil 40 = .ok (.iinc 3 1, 3) := by decide +kernel
theorem dX9_daysUntil_43 : decode cX9_daysUntil 43 = .ok (.goto (-41), 3) := by decide +kernel
theorem dX9_daysUntil_46 : decode cX9_daysUntil 46 = .ok (.iconst (-1), 1) := by decide +kernel
theorem dX9_daysUntil_47 : decode cX9_daysUntil 47 = .ok (.ireturn, 1) := by decide +kernel
theorem dX9_fewestPieces_0 : decode cX9_fewestPieces 0 = .ok (.iconst 0, 1) := by decide +kernel
theorem dX9_fewestPieces_1 : decode cX9_fewestPieces 1 = .ok (.istore_n 3, 1) := by decide +kernel
theorem dX9_fewestPieces_2 : decode cX9_fewestPieces 2 = .ok (.iload_n 3, 1) := by decide +kernel
theorem dX9_fewestPieces_3 : decode cX9_fewestPieces 3 = .ok (.bipush 99, 2) := by decide +kernel
theorem dX9_fewestPieces_5 : decode cX9_fewestPieces 5 = .ok (.if_icmp .gt 21, 3) := by decide +kernel
theorem dX9_fewestPieces_8 : decode cX9_fewestPieces 8 = .ok (.aload_n 0, 1) := by decide +kernel
theorem dX9_fewestPieces_9 : decode cX9_fewestPieces 9 = .ok (.iload_n 1, 1) := by decide +kernel
theorem dX9_fewestPieces_10 : decode cX9_fewestPieces 10 = .ok (.iload_n 3, 1) := by decide +kernel
theorem dX9_fewestPieces_11 : decode cX9_fewestPieces 11 = .ok (.invokevirtual 144, 3) := by decide +kernel
theorem dX9_fewestPieces_14 : decode cX9_fewestPieces 14 = .ok (.iload_n 2, 1) := by decide +kernel
theorem dX9_fewestPieces_15 : decode cX9_fewestPieces 15 = .ok (.if_icmp .lt 5, 3) := by decide +kernel
theorem dX9_fewestPieces_18 : decode cX9_fewestPieces 18 = .ok (.iload_n 3, 1) := by decide +kernel
theorem dX9_fewestPieces_19 : decode cX9_fewestPieces 19 = .ok (.ireturn, 1) := by decide +kernel
theorem dX9_fewestPieces_20 : decode cX9_fewestPieces 20 = .ok (.iinc 3 1, 3) := by decide +kernel
theorem dX9_fewestPieces_23 : decode cX9_fewestPieces 23 = .ok (.goto (-21), 3) := by decide +kernel
theorem dX9_fewestPieces_26 : decode cX9_fewestPieces 26 = .ok (.iconst (-1), 1) := by decide +kernel
theorem dX9_fewestPieces_27 : decode cX9_fewestPieces 27 = .ok (.ireturn, 1) := by decide +kernel
theorem dX9_truthWorth_0 : decode cX9_truthWorth 0 = .ok (.aload_n 0, 1) := by decide +kernel
theorem dX9_truthWorth_1 : decode cX9_truthWorth 1 = .ok (.aload_n 0, 1) := by decide +kernel
theorem dX9_truthWorth_2 : decode cX9_truthWorth 2 = .ok (.iload_n 1, 1) := by decide +kernel
theorem dX9_truthWorth_3 : decode cX9_truthWorth 3 = .ok (.invokevirtual 138, 3) := by decide +kernel
theorem dX9_truthWorth_6 : decode cX9_truthWorth 6 = .ok (.aload_n 0, 1) := by decide +kernel
theorem dX9_truthWorth_7 : decode cX9_truthWorth 7 = .ok (.iload_n 1, 1) := by decide +kernel
theorem dX9_truthWorth_8 : decode cX9_truthWorth 8 = .ok (.invokevirtual 98, 3) := by decide +kernel
theorem dX9_truthWorth_11 : decode cX9_truthWorth 11 = .ok (.aload_n 0, 1) := by decide +kernel
theorem dX9_truthWorth_12 : decode cX9_truthWorth 12 = .ok (.iload_n 1, 1) := by decide +kernel
theorem dX9_truthWorth_13 : decode cX9_truthWorth 13 = .ok (.iconst 2, 1) := by decide +kernel
theorem dX9_truthWorth_14 : decode cX9_truthWorth 14 = .ok (.invokevirtual 101, 3) := by decide +kernel
theorem dX9_truthWorth_17 : decode cX9_truthWorth 17 = .ok (.aload_n 0, 1) := by decide +kernel
theorem dX9_truthWorth_18 : decode cX9_truthWorth 18 = .ok (.getfield 71, 3) := by decide +kernel
theorem dX9_truthWorth_21 : decode cX9_truthWorth 21 = .ok (.invokevirtual 150, 3) := by decide +kernel
theorem dX9_truthWorth_24 : decode cX9_truthWorth 24 = .ok (.istore_n 2, 1) := by decide +kernel
theorem dX9_truthWorth_25 : decode cX9_truthWorth 25 = .ok (.aload_n 0, 1) := by decide +kernel
theorem dX9_truthWorth_26 : decode cX9_truthWorth 26 = .ok (.iload_n 1, 1) := by decide +kernel
theorem dX9_truthWorth_27 : decode cX9_truthWorth 27 = .ok (.invokevirtual 147, 3) := by decide +kernel
theorem dX9_truthWorth_30 : decode cX9_truthWorth 30 = .ok (.iload_n 2, 1) := by decide +kernel
theorem dX9_truthWorth_31 : decode cX9_truthWorth 31 = .ok (.isub, 1) := by decide +kernel
theorem dX9_truthWorth_32 : decode cX9_truthWorth 32 = .ok (.bipush 10, 2) := by decide +kernel
theorem dX9_truthWorth_34 : decode cX9_truthWorth 34 = .ok (.idiv, 1) := by decide +kernel
theorem dX9_truthWorth_35 : decode cX9_truthWorth 35 = .ok (.ireturn, 1) := by decide +kernel
theorem dX9_mixInto_0 : decode cX9_mixInto 0 = .ok (.lload_n 1, 1) := by decide +kernel
theorem dX9_mixInto_1 : decode cX9_mixInto 1 = .ok (.lstore_n 3, 1) := by decide +kernel
theorem dX9_mixInto_2 : decode cX9_mixInto 2 = .ok (.iconst 0, 1) := by decide +kernel
theorem dX9_mixInto_3 : decode cX9_mixInto 3 = .ok (.istore 5, 2) := by decide +kernel
theorem dX9_mixInto_5 : decode cX9_mixInto 5 = .ok (.iload 5, 2) := by decide +kernel
theorem dX9_mixInto_7 : decode cX9_mixInto 7 = .ok (.aload_n 0, 1) := by decide +kernel
theorem dX9_mixInto_8 : decode cX9_mixInto 8 = .ok (.getfield 67, 3) := by decide +kernel
theorem dX9_mixInto_11 : decode cX9_mixInto 11 = .ok (.if_icmp .ge 93, 3) := by decide +kernel
theorem dX9_mixInto_14 : decode cX9_mixInto 14 = .ok (.ldc2_w 154, 3) := by decide +kernel
theorem dX9_mixInto_17 : decode cX9_mixInto 17 = .ok (.lload_n 3, 1) := by decide +kernel
theorem dX9_mixInto_18 : decode cX9_mixInto 18 = .ok (.lmul, 1) := by decide +kernel
theorem dX9_mixInto_19 : decode cX9_mixInto 19 = .ok (.aload_n 0, 1) := by decide +kernel
theorem dX9_mixInto_20 : decode cX9_mixInto 20 = .ok (.iload 5, 2) := by decide +kernel
theorem dX9_mixInto_22 : decode cX9_mixInto 22 = .ok (.invokevirtual 138, 3) := by decide +kernel
theorem dX9_mixInto_25 : decode cX9_mixInto 25 = .ok (.i2l, 1) := by decide +kernel
theorem dX9_mixInto_26 : decode cX9_mixInto 26 = .ok (.ladd, 1) := by decide +kernel
theorem dX9_mixInto_27 : decode cX9_mixInto 27 = .ok (.lstore_n 3, 1) := by decide +kernel
theorem dX9_mixInto_28 : decode cX9_mixInto 28 = .ok (.ldc2_w 154, 3) := by decide +kernel
theorem dX9_mixInto_31 : decode cX9_mixInto 31 = .ok (.lload_n 3, 1) := by decide +kernel
theorem dX9_mixInto_32 : decode cX9_mixInto 32 = .ok (.lmul, 1) := by decide +kernel
theorem dX9_mixInto_33 : decode cX9_mixInto 33 = .ok (.aload_n 0, 1) := by decide +kernel
theorem dX9_mixInto_34 : decode cX9_mixInto 34 = .ok (.iload 5, 2) := by decide +kernel
theorem dX9_mixInto_36 : decode cX9_mixInto 36 = .ok (.invokevirtual 141, 3) := by decide +kernel
theorem dX9_mixInto_39 : decode cX9_mixInto 39 = .ok (.i2l, 1) := by decide +kernel
theorem dX9_mixInto_40 : decode cX9_mixInto 40 = .ok (.ladd, 1) := by decide +kernel
theorem dX9_mixInto_41 : decode cX9_mixInto 41 = .ok (.lstore_n 3, 1) := by decide +kernel
theorem dX9_mixInto_42 : decode cX9_mixInto 42 = .ok (.ldc2_w 154, 3) := by decide +kernel
theorem dX9_mixInto_45 : decode cX9_mixInto 45 = .ok (.lload_n 3, 1) := by decide +kernel
theorem dX9_mixInto_46 : decode cX9_mixInto 46 = .ok (.lmul, 1) := by decide +kernel
theorem dX9_mixInto_47 : decode cX9_mixInto 47 = .ok (.aload_n 0, 1) := by decide +kernel
theorem dX9_mixInto_48 : decode cX9_mixInto 48 = .ok (.iload 5, 2) := by decide +kernel
theorem dX9_mixInto_50 : decode cX9_mixInto 50 = .ok (.invokevirtual 98, 3) := by decide +kernel
theorem dX9_mixInto_53 : decode cX9_mixInto 53 = .ok (.i2l, 1) := by decide +kernel
theorem dX9_mixInto_54 : decode cX9_mixInto 54 = .ok (.ladd, 1) := by decide +kernel
theorem dX9_mixInto_55 : decode cX9_mixInto 55 = .ok (.lstore_n 3, 1) := by decide +kernel
theorem dX9_mixInto_56 : decode cX9_mixInto 56 = .ok (.ldc2_w 154, 3) := by decide +kernel
theorem dX9_mixInto_59 : decode cX9_mixInto 59 = .ok (.lload_n 3, 1) := by decide +kernel
theorem dX9_mixInto_60 : decode cX9_mixInto 60 = .ok (.lmul, 1) := by decide +kernel
theorem dX9_mixInto_61 : decode cX9_mixInto 61 = .ok (.aload_n 0, 1) := by decide +kernel
theorem dX9_mixInto_62 : decode cX9_mixInto 62 = .ok (.iload 5, 2) := by decide +kernel
theorem dX9_mixInto_64 : decode cX9_mixInto 64 = .ok (.invokevirtual 156, 3) := by decide +kernel
theorem dX9_mixInto_67 : decode cX9_mixInto 67 = .ok (.i2l, 1) := by decide +kernel
theorem dX9_mixInto_68 : decode cX9_mixInto 68 = .ok (.ladd, 1) := by decide +kernel
theorem dX9_mixInto_69 : decode cX9_mixInto 69 = .ok (.lstore_n 3, 1) := by decide +kernel
theorem dX9_mixInto_70 : decode cX9_mixInto 70 = .ok (.ldc2_w 154, 3) := by decide +kernel
theorem dX9_mixInto_73 : decode cX9_mixInto 73 = .ok (.lload_n 3, 1) := by decide +kernel
theorem dX9_mixInto_74 : decode cX9_mixInto 74 = .ok (.lmul, 1) := by decide +kernel
theorem dX9_mixInto_75 : decode cX9_mixInto 75 = .ok (.aload_n 0, 1) := by decide +kernel
theorem dX9_mixInto_76 : decode cX9_mixInto 76 = .ok (.iload 5, 2) := by decide +kernel
theorem dX9_mixInto_78 : decode cX9_mixInto 78 = .ok (.invokevirtual 159, 3) := by decide +kernel
theorem dX9_mixInto_81 : decode cX9_mixInto 81 = .ok (.i2l, 1) := by decide +kernel
theorem dX9_mixInto_82 : decode cX9_mixInto 82 = .ok (.ladd, 1) := by decide +kernel
theorem dX9_mixInto_83 : decode cX9_mixInto 83 = .ok (.lstore_n 3, 1) := by decide +kernel
theorem dX9_mixInto_84 : decode cX9_mixInto 84 = .ok (.ldc2_w 154, 3) := by decide +kernel
theorem dX9_mixInto_87 : decode cX9_mixInto 87 = .ok (.lload_n 3, 1) := by decide +kernel
theorem dX9_mixInto_88 : decode cX9_mixInto 88 = .ok (.lmul, 1) := by decide +kernel
theorem dX9_mixInto_89 : decode cX9_mixInto 89 = .ok (.aload_n 0, 1) := by decide +kernel
theorem dX9_mixInto_90 : decode cX9_mixInto 90 = .ok (.iload 5, 2) := by decide +kernel
theorem dX9_mixInto_92 : decode cX9_mixInto 92 = .ok (.invokevirtual 162, 3) := by decide +kernel
theorem dX9_mixInto_95 : decode cX9_mixInto 95 = .ok (.i2l, 1) := by decide +kernel
theorem dX9_mixInto_96 : decode cX9_mixInto 96 = .ok (.ladd, 1) := by decide +kernel
theorem dX9_mixInto_97 : decode cX9_mixInto 97 = .ok (.lstore_n 3, 1) := by decide +kernel
theorem dX9_mixInto_98 : decode cX9_mixInto 98 = .ok (.iinc 5 1, 3) := by decide +kernel
theorem dX9_mixInto_101 : decode cX9_mixInto 101 = .ok (.goto (-96), 3) := by decide +kernel
theorem dX9_mixInto_104 : decode cX9_mixInto 104 = .ok (.aload_n 0, 1) := by decide +kernel
theorem dX9_mixInto_105 : decode cX9_mixInto 105 = .ok (.getfield 56, 3) := by decide +kernel
theorem dX9_mixInto_108 : decode cX9_mixInto 108 = .ok (.lload_n 3, 1) := by decide +kernel
theorem dX9_mixInto_109 : decode cX9_mixInto 109 = .ok (.invokevirtual 165, 3) := by decide +kernel
theorem dX9_mixInto_112 : decode cX9_mixInto 112 = .ok (.lreturn, 1) := by decide +kernel
theorem dX9_kindNumbered_0 : decode cX9_kindNumbered 0 = .ok (.iload_n 1, 1) := by decide +kernel
theorem dX9_kindNumbered_1 : decode cX9_kindNumbered 1 = .ok (.ifCond .lt 21, 3) := by decide +kernel
theorem dX9_kindNumbered_4 : decode cX9_kindNumbered 4 = .ok (.iload_n 1, 1) := by decide +kernel
theorem dX9_kindNumbered_5 : decode cX9_kindNumbered 5 = .ok (.aload_n 0, 1) := by decide +kernel
theorem dX9_kindNumbered_6 : decode cX9_kindNumbered 6 = .ok (.getfield 33, 3) := by decide +kernel
theorem dX9_kindNumbered_9 : decode cX9_kindNumbered 9 = .ok (.arraylength, 1) := by decide +kernel
theorem dX9_kindNumbered_10 : decode cX9_kindNumbered 10 = .ok (.if_icmp .ge 12, 3) := by decide +kernel
theorem dX9_kindNumbered_13 : decode cX9_kindNumbered 13 = .ok (.aload_n 0, 1) := by decide +kernel
theorem dX9_kindNumbered_14 : decode cX9_kindNumbered 14 = .ok (.getfield 33, 3) := by decide +kernel
theorem dX9_kindNumbered_17 : decode cX9_kindNumbered 17 = .ok (.iload_n 1, 1) := by decide +kernel
theorem dX9_kindNumbered_18 : decode cX9_kindNumbered 18 = .ok (.aaload, 1) := by decide +kernel
theorem dX9_kindNumbered_19 : decode cX9_kindNumbered 19 = .ok (.ifnonnull 8, 3) := by decide +kernel
theorem dX9_kindNumbered_22 : decode cX9_kindNumbered 22 = .ok (.aload_n 0, 1) := by decide +kernel
theorem dX9_kindNumbered_23 : decode cX9_kindNumbered 23 = .ok (.getfield 12, 3) := by decide +kernel
theorem dX9_kindNumbered_26 : decode cX9_kindNumbered 26 = .ok (.areturn, 1) := by decide +kernel
theorem dX9_kindNumbered_27 : decode cX9_kindNumbered 27 = .ok (.aload_n 0, 1) := by decide +kernel
theorem dX9_kindNumbered_28 : decode cX9_kindNumbered 28 = .ok (.getfield 33, 3) := by decide +kernel
theorem dX9_kindNumbered_31 : decode cX9_kindNumbered 31 = .ok (.iload_n 1, 1) := by decide +kernel
theorem dX9_kindNumbered_32 : decode cX9_kindNumbered 32 = .ok (.aaload, 1) := by decide +kernel
theorem dX9_kindNumbered_33 : decode cX9_kindNumbered 33 = .ok (.areturn, 1) := by decide +kernel
theorem dX9_honestyBehindLie_0 : decode cX9_honestyBehindLie 0 = .ok (.iconst 0, 1) := by decide +kernel
theorem dX9_honestyBehindLie_1 : decode cX9_honestyBehindLie 1 = .ok (.aload_n 0, 1) := by decide +kernel
theorem dX9_honestyBehindLie_2 : decode cX9_honestyBehindLie 2 = .ok (.iload_n 1, 1) := by decide +kernel
theorem dX9_honestyBehindLie_3 : decode cX9_honestyBehindLie 3 = .ok (.invokevirtual 141, 3) := by decide +kernel
theorem dX9_honestyBehindLie_6 : decode cX9_honestyBehindLie 6 = .ok (.aload_n 0, 1) := by decide +kernel
theorem dX9_honestyBehindLie_7 : decode cX9_honestyBehindLie 7 = .ok (.aload_n 0, 1) := by decide +kernel
theorem dX9_honestyBehindLie_8 : decode cX9_honestyBehindLie 8 = .ok (.iload_n 1, 1) := by decide +kernel
theorem dX9_honestyBehindLie_9 : decode cX9_honestyBehindLie 9 = .ok (.invokevirtual 138, 3) := by decide +kernel
theorem dX9_honestyBehindLie_12 : decode cX9_honestyBehindLie 12 = .ok (.invokevirtual 130, 3) := by decide +kernel
theorem dX9_honestyBehindLie_15 : decode cX9_honestyBehindLie 15 = .ok (.iload_n 2, 1) := by decide +kernel
theorem dX9_honestyBehindLie_16 : decode cX9_honestyBehindLie 16 = .ok (.invokevirtual 169, 3) := by decide +kernel
theorem dX9_honestyBehindLie_19 : decode cX9_honestyBehindLie 19 = .ok (.isub, 1) := by decide +kernel
theorem dX9_honestyBehindLie_20 : decode cX9_honestyBehindLie 20 = .ok (.invokestatic 172, 3) := by decide +kernel
theorem dX9_honestyBehindLie_23 : decode cX9_honestyBehindLie 23 = .ok (.ireturn, 1) := by decide +kernel
theorem dX9_honestyAfter_0 : decode cX9_honestyAfter 0 = .ok (.iconst 0, 1) := by decide +kernel
theorem dX9_honestyAfter_1 : decode cX9_honestyAfter 1 = .ok (.iload_n 2, 1) := by decide +kernel
theorem dX9_honestyAfter_2 : decode cX9_honestyAfter 2 = .ok (.aload_n 0, 1) := by decide +kernel
theorem dX9_honestyAfter_3 : decode cX9_honestyAfter 3 = .ok (.iload_n 1, 1) := by decide +kernel
theorem dX9_honestyAfter_4 : decode cX9_honestyAfter 4 = .ok (.invokevirtual 159, 3) := by decide +kernel
theorem dX9_honestyAfter_7 : decode cX9_honestyAfter 7 = .ok (.isub, 1) := by decide +kernel
theorem dX9_honestyAfter_8 : decode cX9_honestyAfter 8 = .ok (.invokestatic 172, 3) := by decide +kernel
theorem dX9_honestyAfter_11 : decode cX9_honestyAfter 11 = .ok (.istore_n 3, 1) := by decide +kernel
theorem dX9_honestyAfter_12 : decode cX9_honestyAfter 12 = .ok (.bipush 12, 2) := by decide +kernel
theorem dX9_honestyAfter_14 : decode cX9_honestyAfter 14 = .ok (.aload_n 0, 1) := by decide +kernel
theorem dX9_honestyAfter_15 : decode cX9_honestyAfter 15 = .ok (.iload_n 1, 1) := by decide +kernel
theorem dX9_honestyAfter_16 : decode cX9_honestyAfter 16 = .ok (.invokevirtual 141, 3) := by decide +kernel
theorem dX9_honestyAfter_19 : decode cX9_honestyAfter 19 = .ok (.iload_n 3, 1) := by decide +kernel
theorem dX9_honestyAfter_20 : decode cX9_honestyAfter 20 = .ok (.iadd, 1) := by decide +kernel
theorem dX9_honestyAfter_21 : decode cX9_honestyAfter 21 = .ok (.invokestatic 108, 3) := by decide +kernel
theorem dX9_honestyAfter_24 : decode cX9_honestyAfter 24 = .ok (.ireturn, 1) := by decide +kernel
theorem dX10_init_0 : decode cX10_init 0 = .ok (.aload_n 0, 1) := by decide +kernel
theorem dX10_init_1 : decode cX10_init 1 = .ok (.invokespecial 3, 3) := by decide +kernel
theorem dX10_init_4 : decode cX10_init 4 = .ok (.aload_n 0, 1) := by decide +kernel
theorem dX10_init_5 : decode cX10_init 5 = .ok (.bipush 6, 2) := by decide +kernel
theorem dX10_init_7 : decode cX10_init 7 = .ok (.newarray .int, 2) := by decide +kernel
theorem dX10_init_9 : decode cX10_init 9 = .ok (.putfield 9, 3) := by decide +kernel
theorem dX10_init_12 : decode cX10_init 12 = .ok (.aload_n 0, 1) := by decide +kernel
theorem dX10_init_13 : decode cX10_init 13 = .ok (.bipush 6, 2) := by decide +kernel
theorem dX10_init_15 : decode cX10_init 15 = .ok (.newarray .int, 2) := by decide +kernel
theorem dX10_init_17 : decode cX10_init 17 = .ok (.putfield 15, 3) := by decide +kernel
theorem dX10_init_20 : decode cX10_init 20 = .ok (.aload_n 0, 1) := by decide +kernel
theorem dX10_init_21 : decode cX10_init 21 = .ok (.bipush 64, 2) := by decide +kernel
theorem dX10_init_23 : decode cX10_init 23 = .ok (.newarray .int, 2) := by decide +kernel
theorem dX10_init_25 : decode cX10_init 25 = .ok (.putfield 18, 3) := by decide +kernel
theorem dX10_init_28 : decode cX10_init 28 = .ok (.aload_n 0, 1) := by decide +kernel
theorem dX10_init_29 : decode cX10_init 29 = .ok (.bipush 36, 2) := by decide +kernel
theorem dX10_init_31 : decode cX10_init 31 = .ok (.newarray .int, 2) := by decide +kernel
theorem dX10_init_33 : decode cX10_init 33 = .ok (.putfield 21, 3) := by decide +kernel
theorem dX10_init_36 : decode cX10_init 36 = .ok (.return_, 1) := by decide +kernel
theorem dX10_carry_0 : decode cX10_carry 0 = .ok (.aload_n 0, 1) := by decide +kernel
theorem dX10_carry_1 : decode cX10_carry 1 = .ok (.aload_n 1, 1) := by decide +kernel
theorem dX10_carry_2 : decode cX10_carry 2 = .ok (.iload 4, 2) := by decide +kernel
theorem dX10_carry_4 : decode cX10_carry 4 = .ok (.invokevirtual 24, 3) := by decide +kernel
theorem dX10_carry_7 : decode cX10_carry 7 = .ok (.iconst (-1), 1) := by decide +kernel
theorem dX10_carry_8 : decode cX10_carry 8 = .ok (.istore 5, 2) := by decide +kernel
theorem dX10_carry_10 : decode cX10_carry 10 = .ok (.iconst 0, 1) := by decide +kernel
theorem dX10_carry_11 : decode cX10_carry 11 = .ok (.istore 6, 2) := by decide +kernel
theorem dX10_carry_13 : decode cX10_carry 13 = .ok (.iload 6, 2) := by decide +kernel
theorem dX10_carry_15 : decode cX10_carry 15 = .ok (.aload_n 1, 1) := by decide +kernel
theorem dX10_carry_16 : decode cX10_carry 16 = .ok (.invokevirtual 28, 3) := by decide +kernel
theorem dX10_carry_19 : decode cX10_carry 19 = .ok (.if_icmp .ge 42, 3) := by decide +kernel
theorem dX10_carry_22 : decode cX10_carry 22 = .ok (.aload_n 0, 1) := by decide +kernel
theorem dX10_carry_23 : decode cX10_carry 23 = .ok (.iload 6, 2) := by decide +kernel
theorem dX10_carry_25 : decode cX10_carry 25 = .ok (.invokevirtual 34, 3) := by decide +kernel
theorem dX10_carry_28 : decode cX10_carry 28 = .ok (.istore 7, 2) := by decide +kernel
theorem dX10_carry_30 : decode cX10_carry 30 = .ok (.iload 7, 2) := by decide +kernel
theorem dX10_carry_32 : decode cX10_carry 32 = .ok (.iload 5, 2) := by decide +kernel
theorem dX10_carry_34 : decode cX10_carry 34 = .ok (.if_icmp .le 21, 3) := by decide +kernel
theorem dX10_carry_37 : decode cX10_carry 37 = .ok (.aload_n 0, 1) := by decide +kernel
theorem dX10_carry_38 : decode cX10_carry 38 = .ok (.aload_n 1, 1) := by decide +kernel
theorem dX10_carry_39 : decode cX10_carry 39 = .ok (.iload_n 2, 1) := by decide +kernel
theorem dX10_carry_40 : decode cX10_carry 40 = .ok (.iload_n 3, 1) := by decide +kernel
theorem dX10_carry_41 : decode cX10_carry 41 = .ok (.iload 7, 2) := by decide +kernel
theorem dX10_carry_43 : decode cX10_carry 43 = .ok (.invokevirtual 38, 3) := by decide +kernel
theorem dX10_carry_46 : decode cX10_carry 46 = .ok (.bipush 99, 2) := by decide +kernel
theorem dX10_carry_48 : decode cX10_carry 48 = .ok (.if_icmp .ge 7, 3) := by decide +kernel
theorem dX10_carry_51 : decode cX10_carry 51 = .ok (.iload 7, 2) := by decide +kernel
theorem dX10_carry_53 : decode cX10_carry 53 = .ok (.istore 5, 2) := by decide +kernel
theorem dX10_carry_55 : decode cX10_carry 55 = .ok (.iinc 6 1, 3) := by decide +kernel
theorem dX10_carry_58 : decode cX10_carry 58 = .ok (.goto (-45), 3) := by decide +kernel
theorem dX10_carry_61 : decode cX10_carry 61 = .ok (.aload_n 0, 1) := by decide +kernel
theorem dX10_carry_62 : decode cX10_carry 62 = .ok (.aload_n 1, 1) := by decide +kernel
theorem dX10_carry_63 : decode cX10_carry 63 = .ok (.iload_n 2, 1) := by decide +kernel
theorem dX10_carry_64 : decode cX10_carry 64 = .ok (.iload_n 3, 1) := by decide +kernel
theorem dX10_carry_65 : decode cX10_carry 65 = .ok (.iload 5, 2) := by decide +kernel
theorem dX10_carry_67 : decode cX10_carry 67 = .ok (.invokevirtual 38, 3) := by decide +kernel
theorem dX10_carry_70 : decode cX10_carry 70 = .ok (.pop, 1) := by decide +kernel
theorem dX10_carry_71 : decode cX10_carry 71 = .ok (.iload 5, 2) := by decide +kernel
theorem dX10_carry_73 : decode cX10_carry 73 = .ok (.ireturn, 1) := by decide +kernel
theorem dX10_handAt_0 : decode cX10_handAt 0 = .ok (.iload_n 3, 1) := by decide +kernel
theorem dX10_handAt_1 : decode cX10_handAt 1 = .ok (.aload_n 0, 1) := by decide +kernel
theorem dX10_handAt_2 : decode cX10_handAt 2 = .ok (.iload_n 2, 1) := by decide +kernel
theorem dX10_handAt_3 : decode cX10_handAt 3 = .ok (.invokevirtual 42, 3) := by decide +kernel
theorem dX10_handAt_6 : decode cX10_handAt 6 = .ok (.if_icmp .le 6, 3) := by decide +kernel
theorem dX10_handAt_9 : decode cX10_handAt 9 = .ok (.bipush (-5), 2) := by decide +kernel
theorem dX10_handAt_11 : decode cX10_handAt 11 = .ok (.ireturn, 1) := by decide +kernel
theorem dX10_handAt_12 : decode cX10_handAt 12 = .ok (.iload_n 2, 1) := by decide +kernel
theorem dX10_handAt_13 : decode cX10_handAt 13 = .ok (.istore 4, 2) := by decide +kernel
theorem dX10_handAt_15 : decode cX10_handAt 15 = .ok (.iconst 0, 1) := by decide +kernel
theorem dX10_handAt_16 : decode cX10_handAt 16 = .ok (.istore 5, 2) := by decide +kernel
theorem dX10_handAt_18 : decode cX10_handAt 18 = .ok (.iload 5, 2) := by decide +kernel
theorem dX10_handAt_20 : decode cX10_handAt 20 = .ok (.iload_n 3, 1) := by decide +kernel
theorem dX10_handAt_21 : decode cX10_handAt 21 = .ok (.if_icmp .ge 25, 3) := by decide +kernel
theorem dX10_handAt_24 : decode cX10_handAt 24 = .ok (.iload 5, 2) := by decide +kernel
theorem dX10_handAt_26 : decode cX10_handAt 26 = .ok (.bipush 6, 2) := by decide +kernel
theorem dX10_handAt_28 : decode cX10_handAt 28 = .ok (.if_icmp .ge 18, 3) := by decide +kernel
theorem dX10_handAt_31 : decode cX10_handAt 31 = .ok (.aload_n 0, 1) := by decide +kernel
theorem dX10_handAt_32 : decode cX10_handAt 32 = .ok (.aload_n 1, 1) := by decide +kernel
theorem dX10_handAt_33 : decode cX10_handAt 33 = .ok (.iload 4, 2) := by decide +kernel
theorem dX10_handAt_35 : decode cX10_handAt 35 = .ok (.invokevirtual 45, 3) := by decide +kernel
theorem dX10_handAt_38 : decode cX10_handAt 38 = .ok (.istore 4, 2) := by decide +kernel
theorem dX10_handAt_40 : decode cX10_handAt 40 = .ok (.iinc 5 1, 3) := by decide +kernel
theorem dX10_handAt_43 : decode cX10_handAt 43 = .ok (.goto (-25), 3) := by decide +kernel
theorem dX10_handAt_46 : decode cX10_handAt 46 = .ok (.iload 4, 2) := by decide +kernel
theorem dX10_handAt_48 : decode cX10_handAt 48 = .ok (.ireturn, 1) := by decide +kernel
theorem dX10_nearerHand_0 : decode cX10_nearerHand 0 = .ok (.iconst 0, 1) := by decide +kernel
theorem dX10_nearerHand_1 : decode cX10_nearerHand 1 = .ok (.istore_n 3, 1) := by decide +kernel
theorem dX10_nearerHand_2 : decode cX10_nearerHand 2 = .ok (.iload_n 3, 1) := by decide +kernel
theorem dX10_nearerHand_3 : decode cX10_nearerHand 3 = .ok (.aload_n 1, 1) := by decide +kernel
theorem dX10_nearerHand_4 : decode cX10_nearerHand 4 = .ok (.invokevirtual 28, 3) := by decide +kernel
theorem dX10_nearerHand_7 : decode cX10_nearerHand 7 = .ok (.if_icmp .ge 38, 3) := by decide +kernel
theorem dX10_nearerHand_10 : decode cX10_nearerHand 10 = .ok (.aload_n 1, 1) := by decide +kernel
theorem dX10_nearerHand_11 : decode cX10_nearerHand 11 = .ok (.iload_n 2, 1) := by decide +kernel
theorem dX10_nearerHand_12 : decode cX10_nearerHand 12 = .ok (.invokevirtual 49, 3) := by decide +kernel
theorem dX10_nearerHand_15 : decode cX10_nearerHand 15 = .ok (.iload_n 3, 1) := by decide +kernel
theorem dX10_nearerHand_16 : decode cX10_nearerHand 16 = .ok (.ishr, 1) := by decide +kernel
theorem dX10_nearerHand_17 : decode cX10_nearerHand 17 = .ok (.iconst 1, 1) := by decide +kernel
theorem dX10_nearerHand_18 : decode cX10_nearerHand 18 = .ok (.iand, 1) := by decide +kernel
theorem dX10_nearerHand_19 : decode cX10_nearerHand 19 = .ok (.ifCond .eq 20, 3) := by decide +kernel
theorem dX10_nearerHand_22 : decode cX10_nearerHand 22 = .ok (.aload_n 0, 1) := by decide +kernel
theorem dX10_nearerHand_23 : decode cX10_nearerHand 23 = .ok (.iload_n 3, 1) := by decide +kernel
theorem dX10_nearerHand_24 : decode cX10_nearerHand 24 = .ok (.invokevirtual 42, 3) := by decide +kernel
theorem dX10_nearerHand_27 : decode cX10_nearerHand 27 = .ok (.aload_n 0, 1) := by decide +kernel
theorem dX10_nearerHand_28 : decode cX10_nearerHand 28 = .ok (.iload_n 2, 1) := by decide +kernel
theorem dX10_nearerHand_29 : decode cX10_nearerHand 29 = .ok (.invokevirtual 42, 3) := by decide +kernel
theorem dX10_nearerHand_32 : decode cX10_nearerHand 32 = .ok (.iconst 1, 1) := by decide +kernel
theorem dX10_nearerHand_33 : decode cX10_nearerHand 33 = .ok (.isub, 1) := by decide +kernel
theorem dX10_nearerHand_34 : decode cX10_nearerHand 34 = .ok (.if_icmp .ne 5, 3) := by decide +kernel
theorem dX10_nearerHand_37 : decode cX10_nearerHand 37 = .ok (.iload_n 3, 1) := by decide +kernel
theorem dX10_nearerHand_38 : decode cX10_nearerHand 38 = .ok (.ireturn, 1) := by decide +kernel
theorem dX10_nearerHand_39 : decode cX10_nearerHand 39 = .ok (.iinc 3 1, 3) := by decide +kernel
theorem dX10_nearerHand_42 : decode cX10_nearerHand 42 = .ok (.goto (-40), 3) := by decide +kernel
theorem dX10_nearerHand_45 : decode cX10_nearerHand 45 = .ok (.iload_n 2, 1) := by decide +kernel
theorem dX10_nearerHand_46 : decode cX10_nearerHand 46 = .ok (.ireturn, 1) := by decide +kernel
theorem dX10_measure_0 : decode cX10_measure 0 = .ok (.iconst 0, 1) := by decide +kernel
theorem dX10_measure_1 : decode cX10_measure 1 = .ok (.istore 5, 2) := by decide +kernel
theorem dX10_measure_3 : decode cX10_measure 3 = .ok (.iload 5, 2) := by decide +kernel
theorem dX10_measure_5 : decode cX10_measure 5 = .ok (.bipush 6, 2) := by decide +kernel
theorem dX10_measure_7 : decode cX10_measure 7 = .ok (.if_icmp .ge 38, 3) := by decide +kernel
theorem dX10_measure_10 : decode cX10_measure 10 = .ok (.aload_n 0, 1) := by decide +kernel
theorem dX10_measure_11 : decode cX10_measure 11 = .ok (.getfield 15, 3) := by decide +kernel
theorem dX10_measure_14 : decode cX10_measure 14 = .ok (.iload 5, 2) := by decide +kernel
theorem dX10_measure_16 : decode cX10_measure 16 = .ok (.iload 5, 2) := by decide +kernel
theorem dX10_measure_18 : decode cX10_measure 18 = .ok (.iload_n 3, 1) := by decide +kernel
theorem dX10_measure_19 : decode cX10_measure 19 = .ok (.if_icmp .ne 17, 3) := by decide +kernel
theorem dX10_measure_22 : decode cX10_measure 22 = .ok (.aload_n 0, 1) := by decide +kernel
theorem dX10_measure_23 : decode cX10_measure 23 = .ok (.iload_n 3, 1) := by decide +kernel
theorem dX10_measure_24 : decode cX10_measure 24 = .ok (.invokevirtual 34, 3) := by decide +kernel
theorem dX10_measure_27 : decode cX10_measure 27 = .ok (.iload 4, 2) := by decide +kernel
theorem dX10_measure_29 : decode cX10_measure 29 = .ok (.if_icmp .lt 7, 3) := by decide +kernel
theorem dX10_measure_32 : decode cX10_measure 32 = .ok (.iconst 0, 1) := by decide +kernel
theorem dX10_measure_33 : decode cX10_measure 33 = .ok (.goto 5, 3) := by decide +kernel
theorem dX10_measure_36 : decode cX10_measure 36 = .ok (.bipush 99, 2) := by decide +kernel
theorem dX10_measure_38 : decode cX10_measure 38 = .ok (.iastore, 1) := by decide +kernel
theorem dX10_measure_39 : decode cX10_measure 39 = .ok (.iinc 5 1, 3) := by decide +kernel
theorem dX10_measure_42 : decode cX10_measure 42 = .ok (.goto (-39), 3) := by decide +kernel
theorem dX10_measure_45 : decode cX10_measure 45 = .ok (.iconst 1, 1) := by decide +kernel
theorem dX10_measure_46 : decode cX10_measure 46 = .ok (.istore 5, 2) := by decide +kernel
theorem dX10_measure_48 : decode cX10_measure 48 = .ok (.iload 5, 2) := by decide +kernel
theorem dX10_measure_50 : decode cX10_measure 50 = .ok (.bipush 6, 2) := by decide +kernel
theorem dX10_measure_52 : decode cX10_measure 52 = .ok (.if_icmp .ge 71, 3) := by decide +kernel
theorem dX10_measure_55 : decode cX10_measure 55 = .ok (.iconst 0, 1) := by decide +kernel
theorem dX10_measure_56 : decode cX10_measure 56 = .ok (.istore 6, 2) := by decide +kernel
theorem dX10_measure_58 : decode cX10_measure 58 = .ok (.iload 6, 2) := by decide +kernel
theorem dX10_measure_60 : decode cX10_measure 60 = .ok (.bipush 6, 2) := by decide +kernel
theorem dX10_measure_62 : decode cX10_measure 62 = .ok (.if_icmp .ge 55, 3) := by decide +kernel
theorem dX10_measure_65 : decode cX10_measure 65 = .ok (.aload_n 0, 1) := by decide +kernel
theorem dX10_measure_66 : decode cX10_measure 66 = .ok (.getfield 15, 3) := by decide +kernel
theorem dX10_measure_69 : decode cX10_measure 69 = .ok (.iload 6, 2) := by decide +kernel
theorem dX10_measure_71 : decode cX10_measure 71 = .ok (.iaload, 1) := by decide +kernel
theorem dX10_measure_72 : decode cX10_measure 72 = .ok (.bipush 99, 2) := by decide +kernel
theorem dX10_measure_74 : decode cX10_measure 74 = .ok (.if_icmp .ne 37, 3) := by decide +kernel
theorem dX10_measure_77 : decode cX10_measure 77 = .ok (.aload_n 0, 1) := by decide +kernel
theorem dX10_measure_78 : decode cX10_measure 78 = .ok (.iload 6, 2) := by decide +kernel
theorem dX10_measure_80 : decode cX10_measure 80 = .ok (.invokevirtual 34, 3) := by decide +kernel
theorem dX10_measure_83 : decode cX10_measure 83 = .ok (.iload 4, 2) := by decide +kernel
theorem dX10_measure_85 : decode cX10_measure 85 = .ok (.if_icmp .lt 26, 3) := by decide +kernel
theorem dX10_measure_88 : decode cX10_measure 88 = .ok (.aload_n 0, 1) := by decide +kernel
theorem dX10_measure_89 : decode cX10_measure 89 = .ok (.aload_n 1, 1) := by decide +kernel
theorem dX10_measure_90 : decode cX10_measure 90 = .ok (.iload 6, 2) := by decide +kernel
theorem dX10_measure_92 : decode cX10_measure 92 = .ok (.iload 5, 2) := by decide +kernel
theorem dX10_measure_94 : decode cX10_measure 94 = .ok (.iconst 1, 1) := by decide +kernel
theorem dX10_measure_95 : decode cX10_measure 95 = .ok (.isub, 1) := by decide +kernel
theorem dX10_measure_96 : decode cX10_measure 96 = .ok (.invokevirtual 52, 3) := by decide +kernel
theorem dX10_measure_99 : decode cX10_measure 99 = .ok (.ifCond .eq 12, 3) := by decide +kernel
theorem dX10_measure_102 : decode cX10_measure 102 = .ok (.aload_n 0, 1) := by decide +kernel
theorem dX10_measure_103 : decode cX10_measure 103 = .ok (.getfield 15, 3) := by decide +kernel
theorem dX10_measure_106 : decode cX10_measure 106 = .ok (.iload 6, 2) := by decide +kernel
theorem dX10_measure_108 : decode cX10_measure 108 = .ok (.iload 5, 2) := by decide +kernel
theorem dX10_measure_110 : decode cX10_measure 110 = .ok (.iastore, 1) := by decide +kernel
theorem dX10_measure_111 : decode cX10_measure 111 = .ok (.iinc 6 1, 3) := by decide +kernel
theorem dX10_measure_114 : decode cX10_measure 114 = .ok (.goto (-56), 3) := by decide +kernel
theorem dX10_measure_117 : decode cX10_measure 117 = .ok (.iinc 5 1, 3) := by decide +kernel
theorem dX10_measure_120 : decode cX10_measure 120 = .ok (.goto (-72), 3) := by decide +kernel
theorem dX10_measure_123 : decode cX10_measure 123 = .ok (.aload_n 0, 1) := by decide +kernel
theorem dX10_measure_124 : decode cX10_measure 124 = .ok (.iload_n 2, 1) := by decide +kernel
theorem dX10_measure_125 : decode cX10_measure 125 = .ok (.invokevirtual 42, 3) := by decide +kernel
theorem dX10_measure_128 : decode cX10_measure 128 = .ok (.ireturn, 1) := by decide +kernel
theorem dX10_handsToOneAt_0 : decode cX10_handsToOneAt 0 = .ok (.iconst 0, 1) := by decide +kernel
theorem dX10_handsToOneAt_1 : decode cX10_handsToOneAt 1 = .ok (.istore 4, 2) := by decide +kernel
theorem dX10_handsToOneAt_3 : decode cX10_handsToOneAt 3 = .ok (.iload 4, 2) := by decide +kernel
theorem dX10_handsToOneAt_5 : decode cX10_handsToOneAt 5 = .ok (.aload_n 1, 1) := by decide +kernel
theorem dX10_handsToOneAt_6 : decode cX10_handsToOneAt 6 = .ok (.invokevirtual 28, 3) := by decide +kernel
theorem dX10_handsToOneAt_9 : decode cX10_handsToOneAt 9 = .ok (.if_icmp .ge 34, 3) := by decide +kernel
theorem dX10_handsToOneAt_12 : decode cX10_handsToOneAt 12 = .ok (.aload_n 1, 1) := by decide +kernel
theorem dX10_handsToOneAt_13 : decode cX10_handsToOneAt 13 = .ok (.iload_n 2, 1) := by decide +kernel
theorem dX10_handsToOneAt_14 : decode cX10_handsToOneAt 14 = .ok (.invokevirtual 49, 3) := by decide +kernel
theorem dX10_handsToOneAt_17 : decode cX10_handsToOneAt 17 = .ok (.iload 4, 2) := by decide +kernel
theorem dX10_handsToOneAt_19 : decode cX10_handsToOneAt 19 = .ok (.ishr, 1) := by decide +kernel
theorem dX10_handsToOneAt_20 : decode cX10_handsToOneAt 20 = .ok (.iconst 1, 1) := by decide +kernel
theorem dX10_handsToOneAt_21 : decode cX10_handsToOneAt 21 = .ok (.iand, 1) := by decide +kernel
theorem dX10_handsToOneAt_22 : decode cX10_handsToOneAt 22 = .ok (.ifCond .eq 15, 3) := by decide +kernel
theorem dX10_handsToOneAt_25 : decode cX10_handsToOneAt 25 = .ok (.aload_n 0, 1) := by decide +kernel
theorem dX10_handsToOneAt_26 : decode cX10_handsToOneAt 26 = .ok (.iload 4, 2) := by decide +kernel
theorem dX10_handsToOneAt_28 : decode cX10_handsToOneAt 28 = .ok (.invokevirtual 42, 3) := by decide +kernel
theorem dX10_handsToOneAt_31 : decode cX10_handsToOneAt 31 = .ok (.iload_n 3, 1) := by decide +kernel
theorem dX10_handsToOneAt_32 : decode cX10_handsToOneAt 32 = .ok (.if_icmp .ne 5, 3) := by decide +kernel
theorem dX10_handsToOneAt_35 : decode cX10_handsToOneAt 35 = .ok (.iconst 1, 1) := by decide +kernel
theorem dX10_handsToOneAt_36 : decode cX10_handsToOneAt 36 = .ok (.ireturn, 1) := by decide +kernel
theorem dX10_handsToOneAt_37 : decode cX10_handsToOneAt 37 = .ok (.iinc 4 1, 3) := by decide +kernel
theorem dX10_handsToOneAt_40 : decode cX10_handsToOneAt 40 = .ok (.goto (-37), 3) := by decide +kernel
theorem dX10_handsToOneAt_43 : decode cX10_handsToOneAt 43 = .ok (.iconst 0, 1) := by decide +kernel
theorem dX10_handsToOneAt_44 : decode cX10_handsToOneAt 44 = .ok (.ireturn, 1) := by decide +kernel
theorem dX10_weighers_0 : decode cX10_weighers 0 = .ok (.aload_n 0, 1) := by decide +kernel
theorem dX10_weighers_1 : decode cX10_weighers 1 = .ok (.aload_n 1, 1) := by decide +kernel
theorem dX10_weighers_2 : decode cX10_weighers 2 = .ok (.iload_n 3, 1) := by decide +kernel
theorem dX10_weighers_3 : decode cX10_weighers 3 = .ok (.invokevirtual 24, 3) := by decide +kernel
theorem dX10_weighers_6 : decode cX10_weighers 6 = .ok (.iconst 0, 1) := by decide +kernel
theorem dX10_weighers_7 : decode cX10_weighers 7 = .ok (.istore 4, 2) := by decide +kernel
theorem dX10_weighers_9 : decode cX10_weighers 9 = .ok (.iconst 0, 1) := by decide +kernel
theorem dX10_weighers_10 : decode cX10_weighers 10 = .ok (.istore 5, 2) := by decide +kernel
theorem dX10_weighers_12 : decode cX10_weighers 12 = .ok (.iload 5, 2) := by decide +kernel
theorem dX10_weighers_14 : decode cX10_weighers 14 = .ok (.iconst 1, 1) := by decide +kernel
theorem dX10_weighers_15 : decode cX10_weighers 15 = .ok (.aload_n 1, 1) := by decide +kernel
theorem dX10_weighers_16 : decode cX10_weighers 16 = .ok (.invokevirtual 28, 3) := by decide +kernel
theorem dX10_weighers_19 : decode cX10_weighers 19 = .ok (.ishl, 1) := by decide +kernel
theorem dX10_weighers_20 : decode cX10_weighers 20 = .ok (.if_icmp .ge 38, 3) := by decide +kernel
theorem dX10_weighers_23 : decode cX10_weighers 23 = .ok (.aload_n 1, 1) := by decide +kernel
theorem dX10_weighers_24 : decode cX10_weighers 24 = .ok (.iload 5, 2) := by decide +kernel
theorem dX10_weighers_26 : decode cX10_weighers 26 = .ok (.invokestatic 56, 3) := by decide +kernel
theorem dX10_weighers_29 : decode cX10_weighers 29 = .ok (.iload_n 2, 1) := by decide +kernel
theorem dX10_weighers_30 : decode cX10_weighers 30 = .ok (.if_icmp .gt 22, 3) := by decide +kernel
theorem dX10_weighers_33 : decode cX10_weighers 33 = .ok (.aload_n 0, 1) := by decide +kernel
theorem dX10_weighers_34 : decode cX10_weighers 34 = .ok (.iload 5, 2) := by decide +kernel
theorem dX10_weighers_36 : decode cX10_weighers 36 = .ok (.invokevirtual 59, 3) := by decide +kernel
theorem dX10_weighers_39 : decode cX10_weighers 39 = .ok (.aload_n 0, 1) := by decide +kernel
theorem dX10_weighers_40 : decode cX10_weighers 40 = .ok (.iload 4, 2) := by decide +kernel
theorem dX10_weighers_42 : decode cX10_weighers 42 = .ok (.invokevirtual 59, 3) := by decide +kernel
theorem dX10_weighers_45 : decode cX10_weighers 45 = .ok (.if_icmp .le 7, 3) := by decide +kernel
theorem dX10_weighers_48 : decode cX10_weighers 48 = .ok (.iload 5, 2) := by decide +kernel
theorem dX10_weighers_50 : decode cX10_weighers 50 = .ok (.istore 4, 2) := by decide +kernel
theorem dX10_weighers_52 : decode cX10_weighers 52 = .ok (.iinc 5 1, 3) := by decide +kernel
theorem dX10_weighers_55 : decode cX10_weighers 55 = .ok (.goto (-43), 3) := by decide +kernel
theorem dX10_weighers_58 : decode cX10_weighers 58 = .ok (.iload 4, 2) := by decide +kernel
theorem dX10_weighers_60 : decode cX10_weighers 60 = .ok (.ireturn, 1) := by decide +kernel
theorem dX10_weightTogether_0 : decode cX10_weightTogether 0 = .ok (.iconst 0, 1) := by decide +kernel
theorem dX10_weightTogether_1 : decode cX10_weightTogether 1 = .ok (.istore_n 2, 1) := by decide +kernel
theorem dX10_weightTogether_2 : decode cX10_weightTogether 2 = .ok (.iconst 0, 1) := by decide +kernel
theorem dX10_weightTogether_3 : decode cX10_weightTogether 3 = .ok (.istore_n 3, 1) := by decide +kernel
theorem dX10_weightTogether_4 : decode cX10_weightTogether 4 = .ok (.iload_n 3, 1) := by decide +kernel
theorem dX10_weightTogether_5 : decode cX10_weightTogether 5 = .ok (.bipush 6, 2) := by decide +kernel
theorem dX10_weightTogether_7 : decode cX10_weightTogether 7 = .ok (.if_icmp .ge 25, 3) := by decide +kernel
theorem dX10_weightTogether_10 : decode cX10_weightTogether 10 = .ok (.iload_n 1, 1) := by decide +kernel
theorem dX10_weightTogether_11 : decode cX10_weightTogether 11 = .ok (.iload_n 3, 1) := by decide +kernel
theorem dX10_weightTogether_12 : decode cX10_weightTogether 12 = .ok (.ishr, 1) := by decide +kernel
theorem dX10_weightTogether_13 : decode cX10_weightTogether 13 = .ok (.iconst 1, 1) := by decide +kernel
theorem dX10_weightTogether_14 : decode cX10_weightTogether 14 = .ok (.iand, 1) := by decide +kernel
theorem dX10_weightTogether_15 : decode cX10_weightTogether 15 = .ok (.ifCond .eq 11, 3) := by decide +kernel
theorem dX10_weightTogether_18 : decode cX10_weightTogether 18 = .ok (.iload_n 2, 1) := by decide +kernel
theorem dX10_weightTogether_19 : decode cX10_weightTogether 19 = .ok (.aload_n 0, 1) := by decide +kernel
theorem dX10_weightTogether_20 : decode cX10_weightTogether 20 = .ok (.iload_n 3, 1) := by decide +kernel
theorem dX10_weightTogether_21 : decode cX10_weightTogether 21 = .ok (.invokevirtual 34, 3) := by decide +kernel
theorem dX10_weightTogether_24 : decode cX10_weightTogether 24 = .ok (.iadd, 1) := by decide +kernel
theorem dX10_weightTogether_25 : decode cX10_weightTogether 25 = .ok (.istore_n 2, 1) := by decide +kernel
theorem dX10_weightTogether_26 : decode cX10_weightTogether 26 = .ok (.iinc 3 1, 3) := by decide +kernel
theorem dX10_weightTogether_29 : decode cX10_weightTogether 29 = .ok (.goto (-25), 3) := by decide +kernel
theorem dX10_weightTogether_32 : decode cX10_weightTogether 32 = .ok (.iload_n 2, 1) := by decide +kernel
theorem dX10_weightTogether_33 : decode cX10_weightTogether 33 = .ok (.ireturn, 1) := by decide +kernel
theorem dX10_payTogether_0 : decode cX10_payTogether 0 = .ok (.iconst 0, 1) := by decide +kernel
theorem dX10_payTogether_1 : decode cX10_payTogether 1 = .ok (.istore_n 2, 1) := by decide +kernel
theorem dX10_payTogether_2 : decode cX10_payTogether 2 = .ok (.iconst 0, 1) := by decide +kernel
theorem dX10_payTogether_3 : decode cX10_payTogether 3 = .ok (.istore_n 3, 1) := by decide +kernel
theorem dX10_payTogether_4 : decode cX10_payTogether 4 = .ok (.iload_n 3, 1) := by decide +kernel
theorem dX10_payTogether_5 : decode cX10_payTogether 5 = .ok (.bipush 6, 2) := by decide +kernel
theorem dX10_payTogether_7 : decode cX10_payTogether 7 = .ok (.if_icmp .ge 25, 3) := by decide +kernel
theorem dX10_payTogether_10 : decode cX10_payTogether 10 = .ok (.iload_n 1, 1) := by decide +kernel
theorem dX10_payTogether_11 : decode cX10_payTogether 11 = .ok (.iload_n 3, 1) := by decide +kernel
theorem dX10_payTogether_12 : decode cX10_payTogether 12 = .ok (.ishr, 1) := by decide +kernel
theorem dX10_payTogether_13 : decode cX10_payTogether 13 = .ok (.iconst 1, 1) := by decide +kernel
theorem dX10_payTogether_14 : decode cX10_payTogether 14 = .ok (.iand, 1) := by decide +kernel
theorem dX10_payTogether_15 : decode cX10_payTogether 15 = .ok (.ifCond .eq 11, 3) := by decide +kernel
theorem dX10_payTogether_18 : decode cX10_payTogether 18 = .ok (.iload_n 2, 1) := by decide +kernel
theorem dX10_payTogether_19 : decode cX10_payTogether 19 = .ok (.aload_n 0, 1) := by decide +kernel
theorem dX10_payTogether_20 : decode cX10_payTogether 20 = .ok (.iload_n 3, 1) := by decide +kernel
theorem dX10_payTogether_21 : decode cX10_payTogether 21 = .ok (.invokevirtual 62, 3) := by decide +kernel
theorem dX10_payTogether_24 : decode cX10_payTogether 24 = .ok (.iadd, 1) := by decide +kernel
theorem dX10_payTogether_25 : decode cX10_payTogether 25 = .ok (.istore_n 2, 1) := by decide +kernel
theorem dX10_payTogether_26 : decode cX10_payTogether 26 = .ok (.iinc 3 1, 3) := by decide +kernel
theorem dX10_payTogether_29 : decode cX10_payTogether 29 = .ok (.goto (-25), 3) := by decide +kernel
theorem dX10_payTogether_32 : decode cX10_payTogether 32 = .ok (.iload_n 2, 1) := by decide +kernel
theorem dX10_payTogether_33 : decode cX10_payTogether 33 = .ok (.ireturn, 1) := by decide +kernel
theorem dX10_shelve_0 : decode cX10_shelve 0 = .ok (.aload_n 0, 1) := by decide +kernel
theorem dX10_shelve_1 : decode cX10_shelve 1 = .ok (.aload_n 1, 1) := by decide +kernel
theorem dX10_shelve_2 : decode cX10_shelve 2 = .ok (.iload_n 2, 1) := by decide +kernel
theorem dX10_shelve_3 : decode cX10_shelve 3 = .ok (.iload_n 3, 1) := by decide +kernel
theorem dX10_shelve_4 : decode cX10_shelve 4 = .ok (.invokevirtual 65, 3) := by decide +kernel
theorem dX10_shelve_7 : decode cX10_shelve 7 = .ok (.aload_n 1, 1) := by decide +kernel
theorem dX10_shelve_8 : decode cX10_shelve 8 = .ok (.invokevirtual 28, 3) := by decide +kernel
theorem dX10_shelve_11 : decode cX10_shelve 11 = .ok (.istore 4, 2) := by decide +kernel
theorem dX10_shelve_13 : decode cX10_shelve 13 = .ok (.iconst 1, 1) := by decide +kernel
theorem dX10_shelve_14 : decode cX10_shelve 14 = .ok (.iload 4, 2) := by decide +kernel
theorem dX10_shelve_16 : decode cX10_shelve 16 = .ok (.ishl, 1) := by decide +kernel
theorem dX10_shelve_17 : decode cX10_shelve 17 = .ok (.iconst 1, 1) := by decide +kernel
theorem dX10_shelve_18 : decode cX10_shelve 18 = .ok (.isub, 1) := by decide +kernel
theorem dX10_shelve_19 : decode cX10_shelve 19 = .ok (.istore 5, 2) := by decide +kernel
theorem dX10_shelve_21 : decode cX10_shelve 21 = .ok (.iload 5, 2) := by decide +kernel
theorem dX10_shelve_23 : decode cX10_shelve 23 = .ok (.istore 6, 2) := by decide +kernel
theorem dX10_shelve_25 : decode cX10_shelve 25 = .ok (.iload 6, 2) := by decide +kernel
theorem dX10_shelve_27 : decode cX10_shelve 27 = .ok (.ifCond .lt 73, 3) := by decide +kernel
theorem dX10_shelve_30 : decode cX10_shelve 30 = .ok (.iload 6, 2) := by decide +kernel
theorem dX10_shelve_32 : decode cX10_shelve 32 = .ok (.iload 5, 2) := by decide +kernel
theorem dX10_shelve_34 : decode cX10_shelve 34 = .ok (.if_icmp .ne 8, 3) := by decide +kernel
theorem dX10_shelve_37 : decode cX10_shelve 37 = .ok (.ldc 69, 2) := by decide +kernel
theorem dX10_shelve_39 : decode cX10_shelve 39 = .ok (.goto 4, 3) := by decide +kernel
theorem dX10_shelve_42 : decode cX10_shelve 42 = .ok (.iconst (-1), 1) := by decide +kernel
theorem dX10_shelve_43 : decode cX10_shelve 43 = .ok (.istore 7, 2) := by decide +kernel
theorem dX10_shelve_45 : decode cX10_shelve 45 = .ok (.iconst 0, 1) := by decide +kernel
theorem dX10_shelve_46 : decode cX10_shelve 46 = .ok (.istore 8, 2) := by decide +kernel
theorem dX10_shelve_48 : decode cX10_shelve 48 = .ok (.iload 8, 2) := by decide +kernel
theorem dX10_shelve_50 : decode cX10_shelve 50 = .ok (.iload 4, 2) := by decide +kernel
theorem dX10_shelve_52 : decode cX10_shelve 52 = .ok (.if_icmp .ge 34, 3) := by decide +kernel
theorem dX10_shelve_55 : decode cX10_shelve 55 = .ok (.iload 6, 2) := by decide +kernel
theorem dX10_shelve_57 : decode cX10_shelve 57 = .ok (.iload 8, 2) := by decide +kernel
theorem dX10_shelve_59 : decode cX10_shelve 59 = .ok (.ishr, 1) := by decide +kernel
theorem dX10_shelve_60 : decode cX10_shelve 60 = .ok (.iconst 1, 1) := by decide +kernel
theorem dX10_shelve_61 : decode cX10_shelve 61 = .ok (.iand, 1) := by decide +kernel
theorem dX10_shelve_62 : decode cX10_shelve 62 = .ok (.ifCond .ne 18, 3) := by decide +kernel
theorem dX10_shelve_65 : decode cX10_shelve 65 = .ok (.iload 7, 2) := by decide +kernel
theorem dX10_shelve_67 : decode cX10_shelve 67 = .ok (.aload_n 0, 1) := by decide +kernel
theorem dX10_shelve_68 : decode cX10_shelve 68 = .ok (.iload 6, 2) := by decide +kernel
theorem dX10_shelve_70 : decode cX10_shelve 70 = .ok (.iload 8, 2) := by decide +kernel
theorem dX10_shelve_72 : decode cX10_shelve 72 = .ok (.invokevirtual 70, 3) := by decide +kernel
theorem dX10_shelve_75 : decode cX10_shelve 75 = .ok (.invokestatic 74, 3) := by decide +kernel
theorem dX10_shelve_78 : decode cX10_shelve 78 = .ok (.istore 7, 2) := by decide +kernel
theorem dX10_shelve_80 : decode cX10_shelve 80 = .ok (.iinc 8 1, 3) := by decide +kernel
theorem dX10_shelve_83 : decode cX10_shelve 83 = .ok (.goto (-35), 3) := by decide +kernel
theorem dX10_shelve_86 : decode cX10_shelve 86 = .ok (.aload_n 0, 1) := by decide +kernel
theorem dX10_shelve_87 : decode cX10_shelve 87 = .ok (.iload 6, 2) := by decide +kernel
theorem dX10_shelve_89 : decode cX10_shelve 89 = .ok (.iload 7, 2) := by decide +kernel
theorem dX10_shelve_91 : decode cX10_shelve 91 = .ok (.invokevirtual 79, 3) := by decide +kernel
theorem dX10_shelve_94 : decode cX10_shelve 94 = .ok (.iinc 6 (-1), 3) := by decide +kernel
theorem dX10_shelve_97 : decode cX10_shelve 97 = .ok (.goto (-72), 3) := by decide +kernel
theorem dX10_shelve_100 : decode cX10_shelve 100 = .ok (.iload 4, 2) := by decide +kernel
theorem dX10_shelve_102 : decode cX10_shelve 102 = .ok (.ifCond .ne 7, 3) := by decide +kernel
theorem dX10_shelve_105 : decode cX10_shelve 105 = .ok (.iconst 0, 1) := by decide +kernel
theorem dX10_shelve_106 : decode cX10_shelve 106 = .ok (.goto 8, 3) := by decide +kernel
theorem dX10_shelve_109 : decode cX10_shelve 109 = .ok (.aload_n 0, 1) := by decide +kernel
theorem dX10_shelve_110 : decode cX10_shelve 110 = .ok (.iconst 0, 1) := by decide +kernel
theorem dX10_shelve_111 : decode cX10_shelve 111 = .ok (.invokevirtual 83, 3) := by decide +kernel
theorem dX10_shelve_114 : decode cX10_shelve 114 = .ok (.ireturn, 1) := by decide +kernel
theorem dX10_bagOf_0 : decode cX10_bagOf 0 = .ok (.iconst 0, 1) := by decide +kernel
theorem dX10_bagOf_1 : decode cX10_bagOf 1 = .ok (.istore_n 3, 1) := by decide +kernel
theorem dX10_bagOf_2 : decode cX10_bagOf 2 = .ok (.iconst 0, 1) := by decide +kernel
theorem dX10_bagOf_3 : decode cX10_bagOf 3 = .ok (.istore 4, 2) := by decide +kernel
theorem dX10_bagOf_5 : decode cX10_bagOf 5 = .ok (.iconst 0, 1) := by decide +kernel
theorem dX10_bagOf_6 : decode cX10_bagOf 6 = .ok (.istore 5, 2) := by decide +kernel
theorem dX10_bagOf_8 : decode cX10_bagOf 8 = .ok (.iload 5, 2) := by decide +kernel
theorem dX10_bagOf_10 : decode cX10_bagOf 10 = .ok (.iload_n 1, 1) := by decide +kernel
theorem dX10_bagOf_11 : decode cX10_bagOf 11 = .ok (.if_icmp .gt 31, 3) := by decide +kernel
theorem dX10_bagOf_14 : decode cX10_bagOf 14 = .ok (.iload 5, 2) := by decide +kernel
theorem dX10_bagOf_16 : decode cX10_bagOf 16 = .ok (.bipush 6, 2) := by decide +kernel
theorem dX10_bagOf_18 : decode cX10_bagOf 18 = .ok (.if_icmp .ge 24, 3) := by decide +kernel
theorem dX10_bagOf_21 : decode cX10_bagOf 21 = .ok (.aload_n 0, 1) := by decide +kernel
theorem dX10_bagOf_22 : decode cX10_bagOf 22 = .ok (.iload_n 3, 1) := by decide +kernel
theorem dX10_bagOf_23 : decode cX10_bagOf 23 = .ok (.iload_n 2, 1) := by decide +kernel
theorem dX10_bagOf_24 : decode cX10_bagOf 24 = .ok (.invokevirtual 86, 3) := by decide +kernel
theorem dX10_bagOf_27 : decode cX10_bagOf 27 = .ok (.istore 4, 2) := by decide +kernel
theorem dX10_bagOf_29 : decode cX10_bagOf 29 = .ok (.iload_n 3, 1) := by decide +kernel
theorem dX10_bagOf_30 : decode cX10_bagOf 30 = .ok (.iconst 1, 1) := by decide +kernel
theorem dX10_bagOf_31 : decode cX10_bagOf 31 = .ok (.iload 4, 2) := by decide +kernel
theorem dX10_bagOf_33 : decode cX10_bagOf 33 = .ok (.ishl, 1) := by decide +kernel
theorem dX10_bagOf_34 : decode cX10_bagOf 34 = .ok (.ior, 1) := by decide +kernel
theorem dX10_bagOf_35 : decode cX10_bagOf 35 = .ok (.istore_n 3, 1) := by decide +kernel
theorem dX10_bagOf_36 : decode cX10_bagOf 36 = .ok (.iinc 5 1, 3) := by decide +kernel
theorem dX10_bagOf_39 : decode cX10_bagOf 39 = .ok (.goto (-31), 3) := by decide +kernel
theorem dX10_bagOf_42 : decode cX10_bagOf 42 = .ok (.iload 4, 2) := by decide +kernel
theorem dX10_bagOf_44 : decode cX10_bagOf 44 = .ok (.ireturn, 1) := by decide +kernel
theorem dX10_firstBag_0 : decode cX10_firstBag 0 = .ok (.iconst 0, 1) := by decide +kernel
theorem dX10_firstBag_1 : decode cX10_firstBag 1 = .ok (.istore_n 3, 1) := by decide +kernel
theorem dX10_firstBag_2 : decode cX10_firstBag 2 = .ok (.iload_n 3, 1) := by decide +kernel
theorem dX10_firstBag_3 : decode cX10_firstBag 3 = .ok (.iload_n 2, 1) := by decide +kernel
theorem dX10_firstBag_4 : decode cX10_firstBag 4 = .ok (.if_icmp .ge 33, 3) := by decide +kernel
theorem dX10_firstBag_7 : decode cX10_firstBag 7 = .ok (.iload_n 1, 1) := by decide +kernel
theorem dX10_firstBag_8 : decode cX10_firstBag 8 = .ok (.iload_n 3, 1) := by decide +kernel
theorem dX10_firstBag_9 : decode cX10_firstBag 9 = .ok (.ishr, 1) := by decide +kernel
theorem dX10_firstBag_10 : decode cX10_firstBag 10 = .ok (.iconst 1, 1) := by decide +kernel
theorem dX10_firstBag_11 : decode cX10_firstBag 11 = .ok (.iand, 1) := by decide +kernel
theorem dX10_firstBag_12 : decode cX10_firstBag 12 = .ok (.ifCond .ne 19, 3) := by decide +kernel
theorem dX10_firstBag_15 : decode cX10_firstBag 15 = .ok (.aload_n 0, 1) := by decide +kernel
theorem dX10_firstBag_16 : decode cX10_firstBag 16 = .ok (.iload_n 1, 1) := by decide +kernel
theorem dX10_firstBag_17 : decode cX10_firstBag 17 = .ok (.iload_n 3, 1) := by decide +kernel
theorem dX10_firstBag_18 : decode cX10_firstBag 18 = .ok (.invokevirtual 70, 3) := by decide +kernel
theorem dX10_firstBag_21 : decode cX10_firstBag 21 = .ok (.aload_n 0, 1) := by decide +kernel
theorem dX10_firstBag_22 : decode cX10_firstBag 22 = .ok (.iconst 0, 1) := by decide +kernel
theorem dX10_firstBag_23 : decode cX10_firstBag 23 = .ok (.invokevirtual 83, 3) := by decide +kernel
theorem dX10_firstBag_26 : decode cX10_firstBag 26 = .ok (.if_icmp .lt 5, 3) := by decide +kernel
theorem dX10_firstBag_29 : decode cX10_firstBag 29 = .ok (.iload_n 3, 1) := by decide +kernel
theorem dX10_firstBag_30 : decode cX10_firstBag 30 = .ok (.ireturn, 1) := by decide +kernel
theorem dX10_firstBag_31 : decode cX10_firstBag 31 = .ok (.iinc 3 1, 3) := by decide +kernel
theorem dX10_firstBag_34 : decode cX10_firstBag 34 = .ok (.goto (-32), 3) := by decide +kernel
theorem dX10_firstBag_37 : decode cX10_firstBag 37 = .ok (.iconst 0, 1) := by decide +kernel
theorem dX10_firstBag_38 : decode cX10_firstBag 38 = .ok (.ireturn, 1) := by decide +kernel
theorem dX10_lightestWith_0 : decode cX10_lightestWith 0 = .ok (.iload_n 1, 1) := by decide +kernel
theorem dX10_lightestWith_1 : decode cX10_lightestWith 1 = .ok (.invokestatic 89, 3) := by decide +kernel
theorem dX10_lightestWith_4 : decode cX10_lightestWith 4 = .ok (.istore_n 3, 1) := by decide +kernel
theorem dX10_lightestWith_5 : decode cX10_lightestWith 5 = .ok (.aload_n 0, 1) := by decide +kernel
theorem dX10_lightestWith_6 : decode cX10_lightestWith 6 = .ok (.iload_n 3, 1) := by decide +kernel
theorem dX10_lightestWith_7 : decode cX10_lightestWith 7 = .ok (.iload_n 2, 1) := by decide +kernel
theorem dX10_lightestWith_8 : decode cX10_lightestWith 8 = .ok (.invokevirtual 94, 3) := by decide +kernel
theorem dX10_lightestWith_11 : decode cX10_lightestWith 11 = .ok (.aload_n 0, 1) := by decide +kernel
theorem dX10_lightestWith_12 : decode cX10_lightestWith 12 = .ok (.iload_n 1, 1) := by decide +kernel
theorem dX10_lightestWith_13 : decode cX10_lightestWith 13 = .ok (.iconst 1, 1) := by decide +kernel
theorem dX10_lightestWith_14 : decode cX10_lightestWith 14 = .ok (.iload_n 2, 1) := by decide +kernel
theorem dX10_lightestWith_15 : decode cX10_lightestWith 15 = .ok (.ishl, 1) := by decide +kernel
theorem dX10_lightestWith_16 : decode cX10_lightestWith 16 = .ok (.ior, 1) := by decide +kernel
theorem dX10_lightestWith_17 : decode cX10_lightestWith 17 = .ok (.invokevirtual 83, 3) := by decide +kernel
theorem dX10_lightestWith_20 : decode cX10_lightestWith 20 = .ok (.invokestatic 97, 3) := by decide +kernel
theorem dX10_lightestWith_23 : decode cX10_lightestWith 23 = .ok (.ireturn, 1) := by decide +kernel
theorem dX10_weighBags_0 : decode cX10_weighBags 0 = .ok (.iconst 0, 1) := by decide +kernel
theorem dX10_weighBags_1 : decode cX10_weighBags 1 = .ok (.istore 4, 2) := by decide +kernel
theorem dX10_weighBags_3 : decode cX10_weighBags 3 = .ok (.iload 4, 2) := by decide +kernel
theorem dX10_weighBags_5 : decode cX10_weighBags 5 = .ok (.bipush 6, 2) := by decide +kernel
theorem dX10_weighBags_7 : decode cX10_weighBags 7 = .ok (.if_icmp .ge 50, 3) := by decide +kernel
theorem dX10_weighBags_10 : decode cX10_weighBags 10 = .ok (.iconst 0, 1) := by decide +kernel
theorem dX10_weighBags_11 : decode cX10_weighBags 11 = .ok (.istore 5, 2) := by decide +kernel
theorem dX10_weighBags_13 : decode cX10_weighBags 13 = .ok (.iload 5, 2) := by decide +kernel
theorem dX10_weighBags_15 : decode cX10_weighBags 15 = .ok (.bipush 6, 2) := by decide +kernel
theorem dX10_weighBags_17 : decode cX10_weighBags 17 = .ok (.if_icmp .ge 34, 3) := by decide +kernel
theorem dX10_weighBags_20 : decode cX10_weighBags 20 = .ok (.aload_n 0, 1) := by decide +kernel
theorem dX10_weighBags_21 : decode cX10_weighBags 21 = .ok (.getfield 21, 3) := by decide +kernel
theorem dX10_weighBags_24 : decode cX10_weighBags 24 = .ok (.iload 4, 2) := by decide +kernel
theorem dX10_weighBags_26 : decode cX10_weighBags 26 = .ok (.bipush 6, 2) := by decide +kernel
theorem dX10_weighBags_28 : decode cX10_weighBags 28 = .ok (.imul, 1) := by decide +kernel
theorem dX10_weighBags_29 : decode cX10_weighBags 29 = .ok (.iload 5, 2) := by decide +kernel
theorem dX10_weighBags_31 : decode cX10_weighBags 31 = .ok (.iadd, 1) := by decide +kernel
theorem dX10_weighBags_32 : decode cX10_weighBags 32 = .ok (.aload_n 1, 1) := by decide +kernel
theorem dX10_weighBags_33 : decode cX10_weighBags 33 = .ok (.iload 4, 2) := by decide +kernel
theorem dX10_weighBags_35 : decode cX10_weighBags 35 = .ok (.iload_n 2, 1) := by decide +kernel
theorem dX10_weighBags_36 : decode cX10_weighBags 36 = .ok (.iload 5, 2) := by decide +kernel
theorem dX10_weighBags_38 : decode cX10_weighBags 38 = .ok (.iload_n 3, 1) := by decide +kernel
theorem dX10_weighBags_39 : decode cX10_weighBags 39 = .ok (.imul, 1) := by decide +kernel
theorem dX10_weighBags_40 : decode cX10_weighBags 40 = .ok (.iadd, 1) := by decide +kernel
theorem dX10_weighBags_41 : decode cX10_weighBags 41 = .ok (.invokevirtual 100, 3) := by decide +kernel
theorem dX10_weighBags_44 : decode cX10_weighBags 44 = .ok (.iastore, 1) := by decide +kernel
theorem dX10_weighBags_45 : decode cX10_weighBags 45 = .ok (.iinc 5 1, 3) := by decide +kernel
theorem dX10_weighBags_48 : decode cX10_weighBags 48 = .ok (.goto (-35), 3) := by decide +kernel
theorem dX10_weighBags_51 : decode cX10_weighBags 51 = .ok (.iinc 4 1, 3) := by decide +kernel
theorem dX10_weighBags_54 : decode cX10_weighBags 54 = .ok (.goto (-51), 3) := by decide +kernel
theorem dX10_weighBags_57 : decode cX10_weighBags 57 = .ok (.return_, 1) := by decide +kernel
theorem dX10_bagWeight_0 : decode cX10_bagWeight 0 = .ok (.iload_n 1, 1) := by decide +kernel
theorem dX10_bagWeight_1 : decode cX10_bagWeight 1 = .ok (.bipush 6, 2) := by decide +kernel
theorem dX10_bagWeight_3 : decode cX10_bagWeight 3 = .ok (.imul, 1) := by decide +kernel
theorem dX10_bagWeight_4 : decode cX10_bagWeight 4 = .ok (.iload_n 2, 1) := by decide +kernel
theorem dX10_bagWeight_5 : decode cX10_bagWeight 5 = .ok (.iadd, 1) := by decide +kernel
theorem dX10_bagWeight_6 : decode cX10_bagWeight 6 = .ok (.istore_n 3, 1) := by decide +kernel
theorem dX10_bagWeight_7 : decode cX10_bagWeight 7 = .ok (.iload_n 3, 1) := by decide +kernel
theorem dX10_bagWeight_8 : decode cX10_bagWeight 8 = .ok (.ifCond .lt 21, 3) := by decide +kernel
theorem dX10_bagWeight_11 : decode cX10_bagWeight 11 = .ok (.iload_n 3, 1) := by decide +kernel
theorem dX10_bagWeight_12 : decode cX10_bagWeight 12 = .ok (.aload_n 0, 1) := by decide +kernel
theorem dX10_bagWeight_13 : decode cX10_bagWeight 13 = .ok (.getfield 21, 3) := by decide +kernel
theorem dX10_bagWeight_16 : decode cX10_bagWeight 16 = .ok (.arraylength, 1) := by decide +kernel
theorem dX10_bagWeight_17 : decode cX10_bagWeight 17 = .ok (.if_icmp .ge 12, 3) := by decide +kernel
theorem dX10_bagWeight_20 : decode cX10_bagWeight 20 = .ok (.aload_n 0, 1) := by decide +kernel
theorem dX10_bagWeight_21 : decode cX10_bagWeight 21 = .ok (.getfield 21, 3) := by decide +kernel
theorem dX10_bagWeight_24 : decode cX10_bagWeight 24 = .ok (.iload_n 3, 1) := by decide +kernel
theorem dX10_bagWeight_25 : decode cX10_bagWeight 25 = .ok (.iaload, 1) := by decide +kernel
theorem dX10_bagWeight_26 : decode cX10_bagWeight 26 = .ok (.goto 4, 3) := by decide +kernel
theorem dX10_bagWeight_29 : decode cX10_bagWeight 29 = .ok (.iconst (-1), 1) := by decide +kernel
theorem dX10_bagWeight_30 : decode cX10_bagWeight 30 = .ok (.ireturn, 1) := by decide +kernel
theorem dX10_weighEach_0 : decode cX10_weighEach 0 = .ok (.iconst 0, 1) := by decide +kernel
theorem dX10_weighEach_1 : decode cX10_weighEach 1 = .ok (.istore_n 3, 1) := by decide +kernel
theorem dX10_weighEach_2 : decode cX10_weighEach 2 = .ok (.iload_n 3, 1) := by decide +kernel
theorem dX10_weighEach_3 : decode cX10_weighEach 3 = .ok (.bipush 6, 2) := by decide +kernel
theorem dX10_weighEach_5 : decode cX10_weighEach 5 = .ok (.if_icmp .ge 33, 3) := by decide +kernel
theorem dX10_weighEach_8 : decode cX10_weighEach 8 = .ok (.aload_n 0, 1) := by decide +kernel
theorem dX10_weighEach_9 : decode cX10_weighEach 9 = .ok (.getfield 9, 3) := by decide +kernel
theorem dX10_weighEach_12 : decode cX10_weighEach 12 = .ok (.iload_n 3, 1) := by decide +kernel
theorem dX10_weighEach_13 : decode cX10_weighEach 13 = .ok (.aload_n 1, 1) := by decide +kernel
theorem dX10_weighEach_14 : decode cX10_weighEach 14 = .ok (.iload_n 3, 1) := by decide +kernel
theorem dX10_weighEach_15 : decode cX10_weighEach 15 = .ok (.invokevirtual 103, 3) := by decide +kernel
theorem dX10_weighEach_18 : decode cX10_weighEach 18 = .ok (.ifCond .eq 12, 3) := by decide +kernel
theorem dX10_weighEach_21 : decode cX10_weighEach 21 = .ok (.aload_n 1, 1) := by decide +kernel
theorem dX10_weighEach_22 : decode cX10_weighEach 22 = .ok (.iload_n 3, 1) := by decide +kernel
theorem dX10_weighEach_23 : decode cX10_weighEach 23 = .ok (.iload_n 2, 1) := by decide +kernel
theorem dX10_weighEach_24 : decode cX10_weighEach 24 = .ok (.invokevirtual 100, 3) := by decide +kernel
theorem dX10_weighEach_27 : decode cX10_weighEach 27 = .ok (.goto 4, 3) := by decide +kernel
theorem dX10_weighEach_30 : decode cX10_weighEach 30 = .ok (.iconst (-1), 1) := by decide +kernel
theorem dX10_weighEach_31 : decode cX10_weighEach 31 = .ok (.iastore, 1) := by decide +kernel
theorem dX10_weighEach_32 : decode cX10_weighEach 32 = .ok (.iinc 3 1, 3) := by decide +kernel
theorem dX10_weighEach_35 : decode cX10_weighEach 35 = .ok (.goto (-33), 3) := by decide +kernel
theorem dX10_weighEach_38 : decode cX10_weighEach 38 = .ok (.return_, 1) := by decide +kernel
theorem dX10_heftOf_0 : decode cX10_heftOf 0 = .ok (.iload_n 1, 1) := by decide +kernel
theorem dX10_heftOf_1 : decode cX10_heftOf 1 = .ok (.ifCond .lt 18, 3) := by decide +kernel
theorem dX10_heftOf_4 : decode cX10_heftOf 4 = .ok (.iload_n 1, 1) := by decide +kernel
theorem dX10_heftOf_5 : decode cX10_heftOf 5 = .ok (.bipush 6, 2) := by decide +kernel
theorem dX10_heftOf_7 : decode cX10_heftOf 7 = .ok (.if_icmp .ge 12, 3) := by decide +kernel
theorem dX10_heftOf_10 : decode cX10_heftOf 10 = .ok (.aload_n 0, 1) := by decide +kernel
theorem dX10_heftOf_11 : decode cX10_heftOf 11 = .ok (.getfield 9, 3) := by decide +kernel
theorem dX10_heftOf_14 : decode cX10_heftOf 14 = .ok (.iload_n 1, 1) := by decide +kernel
theorem dX10_heftOf_15 : decode cX10_heftOf 15 = .ok (.iaload, 1) := by decide +kernel
theorem dX10_heftOf_16 : decode cX10_heftOf 16 = .ok (.goto 4, 3) := by decide +kernel
theorem dX10_heftOf_19 : decode cX10_heftOf 19 = .ok (.iconst (-1), 1) := by decide +kernel
theorem dX10_heftOf_20 : decode cX10_heftOf 20 = .ok (.ireturn, 1) := by decide +kernel
theorem dX10_farOf_0 : decode cX10_farOf 0 = .ok (.iload_n 1, 1) := by decide +kernel
theorem dX10_farOf_1 : decode cX10_farOf 1 = .ok (.ifCond .lt 18, 3) := by decide +kernel
theorem dX10_farOf_4 : decode cX10_farOf 4 = .ok (.iload_n 1, 1) := by decide +kernel
theorem dX10_farOf_5 : decode cX10_farOf 5 = .ok (.bipush 6, 2) := by decide +kernel
theorem dX10_farOf_7 : decode cX10_farOf 7 = .ok (.if_icmp .ge 12, 3) := by decide +kernel
theorem dX10_farOf_10 : decode cX10_farOf 10 = .ok (.aload_n 0, 1) := by decide +kernel
theorem dX10_farOf_11 : decode cX10_farOf 11 = .ok (.getfield 15, 3) := by decide +kernel
theorem dX10_farOf_14 : decode cX10_farOf 14 = .ok (.iload_n 1, 1) := by decide +kernel
theorem dX10_farOf_15 : decode cX10_farOf 15 = .ok (.iaload, 1) := by decide +kernel
theorem dX10_farOf_16 : decode cX10_farOf 16 = .ok (.goto 5, 3) := by decide +kernel
theorem dX10_farOf_19 : decode cX10_farOf 19 = .ok (.bipush 99, 2) := by decide +kernel
theorem dX10_farOf_21 : decode cX10_farOf 21 = .ok (.ireturn, 1) := by decide +kernel
theorem dX10_lightestOf_0 : decode cX10_lightestOf 0 = .ok (.iload_n 1, 1) := by decide +kernel
theorem dX10_lightestOf_1 : decode cX10_lightestOf 1 = .ok (.ifCond .lt 18, 3) := by decide +kernel
theorem dX10_lightestOf_4 : decode cX10_lightestOf 4 = .ok (.iload_n 1, 1) := by decide +kernel
theorem dX10_lightestOf_5 : decode cX10_lightestOf 5 = .ok (.bipush 64, 2) := by decide +kernel
theorem dX10_lightestOf_7 : decode cX10_lightestOf 7 = .ok (.if_icmp .ge 12, 3) := by decide +kernel
theorem dX10_lightestOf_10 : decode cX10_lightestOf 10 = .ok (.aload_n 0, 1) := by decide +kernel
theorem dX10_lightestOf_11 : decode cX10_lightestOf 11 = .ok (.getfield 18, 3) := by decide +kernel
theorem dX10_lightestOf_14 : decode cX10_lightestOf 14 = .ok (.iload_n 1, 1) := by decide +kernel
theorem dX10_lightestOf_15 : decode cX10_lightestOf 15 = .ok (.iaload, 1) := by decide +kernel
theorem dX10_lightestOf_16 : decode cX10_lightestOf 16 = .ok (.goto 4, 3) := by decide +kernel
theorem dX10_lightestOf_19 : decode cX10_lightestOf 19 = .ok (.iconst (-1), 1) := by decide +kernel
theorem dX10_lightestOf_20 : decode cX10_lightestOf 20 = .ok (.ireturn, 1) := by decide +kernel
theorem dX10_putLightest_0 : decode cX10_putLightest 0 = .ok (.iload_n 1, 1) := by decide +kernel
theorem dX10_putLightest_1 : decode cX10_putLightest 1 = .ok (.ifCond .lt 16, 3) := by decide +kernel
theorem dX10_putLightest_4 : decode cX10_putLightest 4 = .ok (.iload_n 1, 1) := by decide +kernel
theorem dX10_putLightest_5 : decode cX10_putLightest 5 = .ok (.bipush 64, 2) := by decide +kernel
theorem dX10_putLightest_7 : decode cX10_putLightest 7 = .ok (.if_icmp .ge 10, 3) := by decide +kernel
theorem dX10_putLightest_10 : decode cX10_putLightest 10 = .ok (.aload_n 0, 1) := by decide +kernel
theorem dX10_putLightest_11 : decode cX10_putLightest 11 = .ok (.getfield 18, 3) := by decide +kernel
theorem dX10_putLightest_14 : decode cX10_putLightest 14 = .ok (.iload_n 1, 1) := by decide +kernel
theorem dX10_putLightest_15 : decode cX10_putLightest 15 = .ok (.iload_n 2, 1) := by decide +kernel
theorem dX10_putLightest_16 : decode cX10_putLightest 16 = .ok (.iastore, 1) := by decide +kernel
theorem dX10_putLightest_17 : decode cX10_putLightest 17 = .ok (.return_, 1) := by decide +kernel
end
section
/-! THE DECODE ROWS: each instruction of each method. -/
theorem dX12_bad_0 : decode cX12_bad 0 = .ok (.aload_n 0, 1) := by decide +kernel
theorem dX12_bad_1 : decode cX12_bad 1 = .ok (.getfield 1, 3) := by decide +kernel
theorem dX12_bad_4 : decode cX12_bad 4 = .ok (.iconst 0, 1) := by decide +kernel
theorem dX12_bad_5 : decode cX12_bad 5 = .ok (.dup2, 1) := by decide +kernel
theorem dX12_bad_6 : decode cX12_bad 6 = .ok (.iaload, 1) := by decide +kernel
theorem dX12_bad_7 : decode cX12_bad 7 = .ok (.iconst 1, 1) := by decide +kernel
theorem dX12_bad_8 : decode cX12_bad 8 = .ok (.iadd, 1) := by decide +kernel
theorem dX12_bad_9 : decode cX12_bad 9 = .ok (.iastore, 1) := by decide +kernel
theorem dX12_bad_10 : decode cX12_bad 10 = .ok (.bipush (-2), 2) := by decide +kernel
theorem dX12_bad_12 : decode cX12_bad 12 = .ok (.ireturn, 1) := by decide +kernel
theorem dX12_ten_0 : decode cX12_ten 0 = .ok (.aload_n 0, 1) := by decide +kernel
theorem dX12_ten_1 : decode cX12_ten 1 = .ok (.getfield 1, 3) := by decide +kernel
theorem dX12_ten_4 : decode cX12_ten 4 = .ok (.iconst 0, 1) := by decide +kernel
theorem dX12_ten_5 : decode cX12_ten 5 = .ok (.dup2, 1) := by decide +kernel
theorem dX12_ten_6 : decode cX12_ten 6 = .ok (.iaload, 1) := by decide +kernel
theorem dX12_ten_7 : decode cX12_ten 7 = .ok (.iconst 1, 1) := by decide +kernel
theorem dX12_ten_8 : decode cX12_ten 8 = .ok (.iadd, 1) := by decide +kernel
theorem dX12_ten_9 : decode cX12_ten 9 = .ok (.iastore, 1) := by decide +kernel
theorem dX12_ten_10 : decode cX12_ten 10 = .ok (.bipush (-10), 2) := by decide +kernel
theorem dX12_ten_12 : decode cX12_ten 12 = .ok (.ireturn, 1) := by decide +kernel
theorem dX12_no_0 : decode cX12_no 0 = .ok (.aload_n 0, 1) := by decide +kernel
theorem dX12_no_1 : decode cX12_no 1 = .ok (.getfield 1, 3) := by decide +kernel
theorem dX12_no_4 : decode cX12_no 4 = .ok (.iconst 1, 1) := by decide +kernel
theorem dX12_no_5 : decode cX12_no 5 = .ok (.dup2, 1) := by decide +kernel
theorem dX12_no_6 : decode cX12_no 6 = .ok (.iaload, 1) := by decide +kernel
theorem dX12_no_7 : decode cX12_no 7 = .ok (.iconst 1, 1) := by decide +kernel
theorem dX12_no_8 : decode cX12_no 8 = .ok (.iadd, 1) := by decide +kernel
theorem dX12_no_9 : decode cX12_no 9 = .ok (.iastore, 1) := by decide +kernel
theorem dX12_no_10 : decode cX12_no 10 = .ok (.bipush (-3), 2) := by decide +kernel
theorem dX12_no_12 : decode cX12_no 12 = .ok (.ireturn, 1) := by decide +kernel
theorem dX12_full_0 : decode cX12_full 0 = .ok (.aload_n 0, 1) := by decide +kernel
theorem dX12_full_1 : decode cX12_full 1 = .ok (.getfield 1, 3) := by decide +kernel
theorem dX12_full_4 : decode cX12_full 4 = .ok (.iconst 2, 1) := by decide +kernel
theorem dX12_full_5 : decode cX12_full 5 = .ok (.dup2, 1) := by decide +kernel
theorem dX12_full_6 : decode cX12_full 6 = .ok (.iaload, 1) := by decide +kernel
theorem dX12_full_7 : decode cX12_full 7 = .ok (.iconst 1, 1) := by decide +kernel
theorem dX12_full_8 : decode cX12_full 8 = .ok (.iadd, 1) := by decide +kernel
theorem dX12_full_9 : decode cX12_full 9 = .ok (.iastore, 1) := by decide +kernel
theorem dX12_full_10 : decode cX12_full 10 = .ok (.bipush (-4), 2) := by decide +kernel
theorem dX12_full_12 : decode cX12_full 12 = .ok (.ireturn, 1) := by decide +kernel
theorem dX12_in_0 : decode cX12_in 0 = .ok (.iload_n 0, 1) := by decide +kernel
theorem dX12_in_1 : decode cX12_in 1 = .ok (.iload_n 1, 1) := by decide +kernel
theorem dX12_in_2 : decode cX12_in 2 = .ok (.if_icmp .lt 12, 3) := by decide +kernel
theorem dX12_in_5 : decode cX12_in 5 = .ok (.iload_n 0, 1) := by decide +kernel
theorem dX12_in_6 : decode cX12_in 6 = .ok (.iload_n 2, 1) := by decide +kernel
theorem dX12_in_7 : decode cX12_in 7 = .ok (.if_icmp .gt 7, 3) := by decide +kernel
theorem dX12_in_10 : decode cX12_in 10 = .ok (.iconst 1, 1) := by decide +kernel
theorem dX12_in_11 : decode cX12_in 11 = .ok (.goto 4, 3) := by decide +kernel
theorem dX12_in_14 : decode cX12_in 14 = .ok (.iconst 0, 1) := by decide +kernel
theorem dX12_in_15 : decode cX12_in 15 = .ok (.ireturn, 1) := by decide +kernel
theorem dX12_has_0 : decode cX12_has 0 = .ok (.iload_n 0, 1) := by decide +kernel
theorem dX12_has_1 : decode cX12_has 1 = .ok (.iload_n 1, 1) := by decide +kernel
theorem dX12_has_2 : decode cX12_has 2 = .ok (.ishr, 1) := by decide +kernel
theorem dX12_has_3 : decode cX12_has 3 = .ok (.iconst 1, 1) := by decide +kernel
theorem dX12_has_4 : decode cX12_has 4 = .ok (.iand, 1) := by decide +kernel
theorem dX12_has_5 : decode cX12_has 5 = .ok (.iconst 1, 1) := by decide +kernel
theorem dX12_has_6 : decode cX12_has 6 = .ok (.if_icmp .ne 7, 3) := by decide +kernel
theorem dX12_has_9 : decode cX12_has 9 = .ok (.iconst 1, 1) := by decide +kernel
theorem dX12_has_10 : decode cX12_has 10 = .ok (.goto 4, 3) := by decide +kernel
theorem dX12_has_13 : decode cX12_has 13 = .ok (.iconst 0, 1) := by decide +kernel
theorem dX12_has_14 : decode cX12_has 14 = .ok (.ireturn, 1) := by decide +kernel
theorem dX12_lesser_0 : decode cX12_lesser 0 = .ok (.iload_n 0, 1) := by decide +kernel
theorem dX12_lesser_1 : decode cX12_lesser 1 = .ok (.iload_n 1, 1) := by decide +kernel
theorem dX12_lesser_2 : decode cX12_lesser 2 = .ok (.if_icmp .ge 7, 3) := by decide +kernel
theorem dX12_lesser_5 : decode cX12_lesser 5 = .ok (.iload_n 0, 1) := by decide +kernel
theorem dX12_lesser_6 : decode cX12_lesser 6 = .ok (.goto 4, 3) := by decide +kernel
theorem dX12_lesser_9 : decode cX12_lesser 9 = .ok (.iload_n 1, 1) := by decide +kernel
theorem dX12_lesser_10 : decode cX12_lesser 10 = .ok (.ireturn, 1) := by decide +kernel
theorem dX12_init_0 : decode cX12_init 0 = .ok (.aload_n 0, 1) := by decide +kernel
theorem dX12_init_1 : decode cX12_init 1 = .ok (.invokespecial 7, 3) := by decide +kernel
theorem dX12_init_4 : decode cX12_init 4 = .ok (.aload_n 0, 1) := by decide +kernel
theorem dX12_init_5 : decode cX12_init 5 = .ok (.iconst 3, 1) := by decide +kernel
theorem dX12_init_6 : decode cX12_init 6 = .ok (.newarray .int, 2) := by decide +kernel
theorem dX12_init_8 : decode cX12_init 8 = .ok (.putfield 1, 3) := by decide +kernel
theorem dX12_init_11 : decode cX12_init 11 = .ok (.aload_n 0, 1) := by decide +kernel
theorem dX12_init_12 : decode cX12_init 12 = .ok (.bipush 6, 2) := by decide +kernel
theorem dX12_init_14 : decode cX12_init 14 = .ok (.newarray .int, 2) := by decide +kernel
theorem dX12_init_16 : decode cX12_init 16 = .ok (.putfield 13, 3) := by decide +kernel
theorem dX12_init_19 : decode cX12_init 19 = .ok (.aload_n 0, 1) := by decide +kernel
theorem dX12_init_20 : decode cX12_init 20 = .ok (.bipush 6, 2) := by decide +kernel
theorem dX12_init_22 : decode cX12_init 22 = .ok (.newarray .int, 2) := by decide +kernel
theorem dX12_init_24 : decode cX12_init 24 = .ok (.putfield 16, 3) := by decide +kernel
theorem dX12_init_27 : decode cX12_init 27 = .ok (.aload_n 0, 1) := by decide +kernel
theorem dX12_init_28 : decode cX12_init 28 = .ok (.bipush 6, 2) := by decide +kernel
theorem dX12_init_30 : decode cX12_init 30 = .ok (.newarray .int, 2) := by decide +kernel
theorem dX12_init_32 : decode cX12_init 32 = .ok (.putfield 19, 3) := by decide +kernel
theorem dX12_init_35 : decode cX12_init 35 = .ok (.aload_n 0, 1) := by decide +kernel
theorem dX12_init_36 : decode cX12_init 36 = .ok (.bipush 6, 2) := by decide +kernel
theorem dX12_init_38 : decode cX12_init 38 = .ok (.newarray .int, 2) := by decide +kernel
theorem dX12_init_40 : decode cX12_init 40 = .ok (.putfield 22, 3) := by decide +kernel
theorem dX12_init_43 : decode cX12_init 43 = .ok (.aload_n 0, 1) := by decide +kernel
theorem dX12_init_44 : decode cX12_init 44 = .ok (.bipush 6, 2) := by decide +kernel
theorem dX12_init_46 : decode cX12_init 46 = .ok (.newarray .int, 2) := by decide +kernel
theorem dX12_init_48 : decode cX12_init 48 = .ok (.putfield 25, 3) := by decide +kernel
theorem dX12_init_51 : decode cX12_init 51 = .ok (.aload_n 0, 1) := by decide +kernel
theorem dX12_init_52 : decode cX12_init 52 = .ok (.bipush 6, 2) := by decide +kernel
theorem dX12_init_54 : decode cX12_init 54 = .ok (.newarray .int, 2) := by decide +kernel
theorem dX12_init_56 : decode cX12_init 56 = .ok (.putfield 28, 3) := by decide +kernel
theorem dX12_init_59 : decode cX12_init 59 = .ok (.aload_n 0, 1) := by decide +kernel
theorem dX12_init_60 : decode cX12_init 60 = .ok (.bipush 6, 2) := by decide +kernel
theorem dX12_init_62 : decode cX12_init 62 = .ok (.newarray .int, 2) := by decide +kernel
theorem dX12_init_64 : decode cX12_init 64 = .ok (.putfield 31, 3) := by decide +kernel
theorem dX12_init_67 : decode cX12_init 67 = .ok (.aload_n 0, 1) := by decide +kernel
theorem dX12_init_68 : decode cX12_init 68 = .ok (.bipush 6, 2) := by decide +kernel
theorem dX12_init_70 : decode cX12_init 70 = .ok (.newarray .int, 2) := by decide +kernel
theorem dX12_init_72 : decode cX12_init 72 = .ok (.putfield 34, 3) := by decide +kernel
theorem dX12_init_75 : decode cX12_init 75 = .ok (.aload_n 0, 1) := by decide +kernel
theorem dX12_init_76 : decode cX12_init 76 = .ok (.bipush 6, 2) := by decide +kernel
theorem dX12_init_78 : decode cX12_init 78 = .ok (.newarray .int, 2) := by decide +kernel
theorem dX12_init_80 : decode cX12_init 80 = .ok (.putfield 37, 3) := by decide +kernel
theorem dX12_init_83 : decode cX12_init 83 = .ok (.aload_n 0, 1) := by decide +kernel
theorem dX12_init_84 : decode cX12_init 84 = .ok (.sipush 150, 3) := by decide +kernel
theorem dX12_init_87 : decode cX12_init 87 = .ok (.newarray .int, 2) := by decide +kernel
theorem dX12_init_89 : decode cX12_init 89 = .ok (.putfield 40, 3) := by decide +kernel
theorem dX12_init_92 : decode cX12_init 92 = .ok (.aload_n 0, 1) := by decide +kernel
theorem dX12_init_93 : decode cX12_init 93 = .ok (.bipush 30, 2) := by decide +kernel
theorem dX12_init_95 : decode cX12_init 95 = .ok (.newarray .int, 2) := by decide +kernel
theorem dX12_init_97 : decode cX12_init 97 = .ok (.putfield 43, 3) := by decide +kernel
theorem dX12_init_100 : decode cX12_init 100 = .ok (.aload_n 0, 1) := by decide +kernel
theorem dX12_init_101 : decode cX12_init 101 = .ok (.bipush 112, 2) := by decide +kernel
theorem dX12_init_103 : decode cX12_init 103 = .ok (.newarray .int, 2) := by decide +kernel
theorem dX12_init_105 : decode cX12_init 105 = .ok (.putfield 46, 3) := by decide +kernel
theorem dX12_init_108 : decode cX12_init 108 = .ok (.aload_n 0, 1) := by decide +kernel
theorem dX12_init_109 : decode cX12_init 109 = .ok (.bipush 14, 2) := by decide +kernel
theorem dX12_init_111 : decode cX12_init 111 = .ok (.newarray .int, 2) := by decide +kernel
theorem dX12_init_113 : decode cX12_init 113 = .ok (.putfield 49, 3) := by decide +kernel
theorem dX12_init_116 : decode cX12_init 116 = .ok (.aload_n 0, 1) := by decide +kernel
theorem dX12_init_117 : decode cX12_init 117 = .ok (.bipush 6, 2) := by decide +kernel
theorem dX12_init_119 : decode cX12_init 119 = .ok (.newarray .int, 2) := by decide +kernel
theorem dX12_init_121 : decode cX12_init 121 = .ok (.putfield 52, 3) := by decide +kernel
theorem dX12_init_124 : decode cX12_init 124 = .ok (.aload_n 0, 1) := by decide +kernel
theorem dX12_init_125 : decode cX12_init 125 = .ok (.bipush 6, 2) := by decide +kernel
theorem dX12_init_127 : decode cX12_init 127 = .ok (.newarray .int, 2) := by decide +kernel
theorem dX12_init_129 : decode cX12_init 129 = .ok (.putfield 55, 3) := by decide +kernel
theorem dX12_init_132 : decode cX12_init 132 = .ok (.aload_n 0, 1) := by decide +kernel
theorem dX12_init_133 : decode cX12_init 133 = .ok (.bipush 6, 2) := by decide +kernel
theorem dX12_init_135 : decode cX12_init 135 = .ok (.newarray .int, 2) := by decide +kernel
theorem dX12_init_137 : decode cX12_init 137 = .ok (.putfield 58, 3) := by decide +kernel
theorem dX12_init_140 : decode cX12_init 140 = .ok (.aload_n 0, 1) := by decide +kernel
theorem dX12_init_141 : decode cX12_init 141 = .ok (.bipush 6, 2) := by decide +kernel
theorem dX12_init_143 : decode cX12_init 143 = .ok (.newarray .int, 2) := by decide +kernel
theorem dX12_init_145 : decode cX12_init 145 = .ok (.putfield 61, 3) := by decide +kernel
theorem dX12_init_148 : decode cX12_init 148 = .ok (.aload_n 0, 1) := by decide +kernel
theorem dX12_init_149 : decode cX12_init 149 = .ok (.lconst 1, 1) := by decide +kernel
theorem dX12_init_150 : decode cX12_init 150 = .ok (.putfield 64, 3) := by decide +kernel
theorem dX12_init_153 : decode cX12_init 153 = .ok (.aload_n 0, 1) := by decide +kernel
theorem dX12_init_154 : decode cX12_init 154 = .ok (.sipush 360, 3) := by decide +kernel
theorem dX12_init_157 : decode cX12_init 157 = .ok (.newarray .int, 2) := by decide +kernel
theorem dX12_init_159 : decode cX12_init 159 = .ok (.putfield 68, 3) := by decide +kernel
theorem dX12_init_162 : decode cX12_init 162 = .ok (.aload_n 0, 1) := by decide +kernel
theorem dX12_init_163 : decode cX12_init 163 = .ok (.iconst 2, 1) := by decide +kernel
theorem dX12_init_164 : decode cX12_init 164 = .ok (.newarray .int, 2) := by decide +kernel
theorem dX12_init_166 : decode cX12_init 166 = .ok (.putfield 71, 3) := by decide +kernel
theorem dX12_init_169 : decode cX12_init 169 = .ok (.aload_n 0, 1) := by decide +kernel
theorem dX12_init_170 : decode cX12_init 170 = .ok (.invokevirtual 74, 3) := by decide +kernel
theorem dX12_init_173 : decode cX12_init 173 = .ok (.return_, 1) := by decide +kernel
theorem dX12_begin_0 : decode cX12_begin 0 = .ok (.aload_n 0, 1) := by decide +kernel
theorem dX12_begin_1 : decode cX12_begin 1 = .ok (.iconst 0, 1) := by decide +kernel
theorem dX12_begin_2 : decode cX12_begin 2 = .ok (.putfield 77, 3) := by decide +kernel
theorem dX12_begin_5 : decode cX12_begin 5 = .ok (.aload_n 0, 1) := by decide +kernel
theorem dX12_begin_6 : decode cX12_begin 6 = .ok (.iconst 0, 1) := by decide +kernel
theorem dX12_begin_7 : decode cX12_begin 7 = .ok (.putfield 81, 3) := by decide +kernel
theorem dX12_begin_10 : decode cX12_begin 10 = .ok (.aload_n 0, 1) := by decide +kernel
theorem dX12_begin_11 : decode cX12_begin 11 = .ok (.iconst 0, 1) := by decide +kernel
theorem dX12_begin_12 : decode cX12_begin 12 = .ok (.putfield 84, 3) := by decide +kernel
theorem dX12_begin_15 : decode cX12_begin 15 = .ok (.aload_n 0, 1) := by decide +kernel
theorem dX12_begin_16 : decode cX12_begin 16 = .ok (.iconst 0, 1) := by decide +kernel
theorem dX12_begin_17 : decode cX12_begin 17 = .ok (.putfield 87, 3) := by decide +kernel
theorem dX12_begin_20 : decode cX12_begin 20 = .ok (.aload_n 0, 1) := by decide +kernel
theorem dX12_begin_21 : decode cX12_begin 21 = .ok (.iconst 0, 1) := by decide +kernel
theorem dX12_begin_22 : decode cX12_begin 22 = .ok (.putfield 90, 3) := by decide +kernel
theorem dX12_begin_25 : decode cX12_begin 25 = .ok (.return_, 1) := by decide +kernel
theorem dX12_isOne_0 : decode cX12_isOne 0 = .ok (.iload_n 1, 1) := by decide +kernel
theorem dX12_isOne_1 : decode cX12_isOne 1 = .ok (.iconst 0, 1) := by decide +kernel
theorem dX12_isOne_2 : decode cX12_isOne 2 = .ok (.aload_n 0, 1) := by decide +kernel
theorem dX12_isOne_3 : decode cX12_isOne 3 = .ok (.getfield 77, 3) := by decide +kernel
theorem dX12_isOne_6 : decode cX12_isOne 6 = .ok (.iconst 1, 1) := by decide +kernel
theorem dX12_isOne_7 : decode cX12_isOne 7 = .ok (.isub, 1) := by decide +kernel
theorem dX12_isOne_8 : decode cX12_isOne 8 = .ok (.invokestatic 93, 3) := by decide +kernel
theorem dX12_isOne_11 : decode cX12_isOne 11 = .ok (.ireturn, 1) := by decide +kernel
theorem dX12_gold_0 : decode cX12_gold 0 = .ok (.aload_n 0, 1) := by decide +kernel
theorem dX12_gold_1 : decode cX12_gold 1 = .ok (.getfield 77, 3) := by decide +kernel
theorem dX12_gold_4 : decode cX12_gold 4 = .ok (.istore_n 1, 1) := by decide +kernel
theorem dX12_gold_5 : decode cX12_gold 5 = .ok (.aload_n 0, 1) := by decide +kernel
theorem dX12_gold_6 : decode cX12_gold 6 = .ok (.invokevirtual 74, 3) := by decide +kernel
theorem dX12_gold_9 : decode cX12_gold 9 = .ok (.iload_n 1, 1) := by decide +kernel
theorem dX12_gold_10 : decode cX12_gold 10 = .ok (.ireturn, 1) := by decide +kernel
theorem dX12_addOne_0 : decode cX12_addOne 0 = .ok (.aload_n 0, 1) := by decide +kernel
theorem dX12_addOne_1 : decode cX12_addOne 1 = .ok (.getfield 13, 3) := by decide +kernel
theorem dX12_addOne_4 : decode cX12_addOne 4 = .ok (.aload_n 0, 1) := by decide +kernel
theorem dX12_addOne_5 : decode cX12_addOne 5 = .ok (.getfield 77, 3) := by decide +kernel
theorem dX12_addOne_8 : decode cX12_addOne 8 = .ok (.iload_n 1, 1) := by decide +kernel
theorem dX12_addOne_9 : decode cX12_addOne 9 = .ok (.iastore, 1) := by decide +kernel
theorem dX12_addOne_10 : decode cX12_addOne 10 = .ok (.aload_n 0, 1) := by decide +kernel
theorem dX12_addOne_11 : decode cX12_addOne 11 = .ok (.getfield 16, 3) := by decide +kernel
theorem dX12_addOne_14 : decode cX12_addOne 14 = .ok (.aload_n 0, 1) := by decide +kernel
theorem dX12_addOne_15 : decode cX12_addOne 15 = .ok (.getfield 77, 3) := by decide +kernel
theorem dX12_addOne_18 : decode cX12_addOne 18 = .ok (.iload_n 2, 1) := by decide +kernel
theorem dX12_addOne_19 : decode cX12_addOne 19 = .ok (.iastore, 1) := by decide +kernel
theorem dX12_addOne_20 : decode cX12_addOne 20 = .ok (.aload_n 0, 1) := by decide +kernel
theorem dX12_addOne_21 : decode cX12_addOne 21 = .ok (.getfield 19, 3) := by decide +kernel
theorem dX12_addOne_24 : decode cX12_addOne 24 = .ok (.aload_n 0, 1) := by decide +kernel
theorem dX12_addOne_25 : decode cX12_addOne 25 = .ok (.getfield 77, 3) := by decide +kernel
theorem dX12_addOne_28 : decode cX12_addOne 28 = .ok (.iload_n 3, 1) := by decide +kernel
theorem dX12_addOne_29 : decode cX12_addOne 29 = .ok (.iastore, 1) := by decide +kernel
theorem dX12_addOne_30 : decode cX12_addOne 30 = .ok (.aload_n 0, 1) := by decide +kernel
theorem dX12_addOne_31 : decode cX12_addOne 31 = .ok (.getfield 22, 3) := by decide +kernel
theorem dX12_addOne_34 : decode cX12_addOne 34 = .ok (.aload_n 0, 1) := by decide +kernel
theorem dX12_addOne_35 : decode cX12_addOne 35 = .ok (.getfield 77, 3) := by decide +kernel
theorem dX12_addOne_38 : decode cX12_addOne 38 = .ok (.iload 4, 2) := by decide +kernel
theorem dX12_addOne_40 : decode cX12_addOne 40 = .ok (.iastore, 1) := by decide +kernel
theorem dX12_addOne_41 : decode cX12_addOne 41 = .ok (.aload_n 0, 1) := by decide +kernel
theorem dX12_addOne_42 : decode cX12_addOne 42 = .ok (.getfield 25, 3) := by decide +kernel
theorem dX12_addOne_45 : decode cX12_addOne 45 = .ok (.aload_n 0, 1) := by decide +kernel
theorem dX12_addOne_46 : decode cX12_addOne 46 = .ok (.getfield 77, 3) := by decide +kernel
theorem dX12_addOne_49 : decode cX12_addOne 49 = .ok (.iconst 0, 1) := by decide +kernel
theorem dX12_addOne_50 : decode cX12_addOne 50 = .ok (.iastore, 1) := by decide +kernel
theorem dX12_addOne_51 : decode cX12_addOne 51 = .ok (.aload_n 0, 1) := by decide +kernel
theorem dX12_addOne_52 : decode cX12_addOne 52 = .ok (.dup, 1) := by decide +kernel
theorem dX12_addOne_53 : decode cX12_addOne 53 = .ok (.getfield 77, 3) := by decide +kernel
theorem dX12_addOne_56 : decode cX12_addOne 56 = .ok (.iconst 1, 1) := by decide +kernel
theorem dX12_addOne_57 : decode cX12_addOne 57 = .ok (.iadd, 1) := by decide +kernel
theorem dX12_addOne_58 : decode cX12_addOne 58 = .ok (.putfield 77, 3) := by decide +kernel
theorem dX12_addOne_61 : decode cX12_addOne 61 = .ok (.aload_n 0, 1) := by decide +kernel
theorem dX12_addOne_62 : decode cX12_addOne 62 = .ok (.iconst 0, 1) := by decide +kernel
theorem dX12_addOne_63 : decode cX12_addOne 63 = .ok (.putfield 90, 3) := by decide +kernel
theorem dX12_addOne_66 : decode cX12_addOne 66 = .ok (.aload_n 0, 1) := by decide +kernel
theorem dX12_addOne_67 : decode cX12_addOne 67 = .ok (.getfield 77, 3) := by decide +kernel
theorem dX12_addOne_70 : decode cX12_addOne 70 = .ok (.iconst 1, 1) := by decide +kernel
theorem dX12_addOne_71 : decode cX12_addOne 71 = .ok (.isub, 1) := by decide +kernel
theorem dX12_addOne_72 : decode cX12_addOne 72 = .ok (.ireturn, 1) := by decide +kernel
theorem dX12_one_0 : decode cX12_one 0 = .ok (.iload_n 1, 1) := by decide +kernel
theorem dX12_one_1 : decode cX12_one 1 = .ok (.iconst 0, 1) := by decide +kernel
theorem dX12_one_2 : decode cX12_one 2 = .ok (.iconst 5, 1) := by decide +kernel
theorem dX12_one_3 : decode cX12_one 3 = .ok (.invokestatic 93, 3) := by decide +kernel
theorem dX12_one_6 : decode cX12_one 6 = .ok (.ifCond .eq 34, 3) := by decide +kernel
theorem dX12_one_9 : decode cX12_one 9 = .ok (.iload_n 2, 1) := by decide +kernel
theorem dX12_one_10 : decode cX12_one 10 = .ok (.iconst 0, 1) := by decide +kernel
theorem dX12_one_11 : decode cX12_one 11 = .ok (.bipush 12, 2) := by decide +kernel
theorem dX12_one_13 : decode cX12_one 13 = .ok (.invokestatic 93, 3) := by decide +kernel
theorem dX12_one_16 : decode cX12_one 16 = .ok (.ifCond .eq 24, 3) := by decide +kernel
theorem dX12_one_19 : decode cX12_one 19 = .ok (.iload_n 3, 1) := by decide +kernel
theorem dX12_one_20 : decode cX12_one 20 = .ok (.iconst 0, 1) := by decide +kernel
theorem dX12_one_21 : decode cX12_one 21 = .ok (.bipush 30, 2) := by decide +kernel
theorem dX12_one_23 : decode cX12_one 23 = .ok (.invokestatic 93, 3) := by decide +kernel
theorem dX12_one_26 : decode cX12_one 26 = .ok (.ifCond .eq 14, 3) := by decide +kernel
theorem dX12_one_29 : decode cX12_one 29 = .ok (.iload 4, 2) := by decide +kernel
theorem dX12_one_31 : decode cX12_one 31 = .ok (.iconst 0, 1) := by decide +kernel
theorem dX12_one_32 : decode cX12_one 32 = .ok (.bipush 20, 2) := by decide +kernel
theorem dX12_one_34 : decode cX12_one 34 = .ok (.invokestatic 93, 3) := by decide +kernel
theorem dX12_one_37 : decode cX12_one 37 = .ok (.ifCond .ne 8, 3) := by decide +kernel
theorem dX12_one_40 : decode cX12_one 40 = .ok (.aload_n 0, 1) := by decide +kernel
theorem dX12_one_41 : decode cX12_one 41 = .ok (.invokevirtual 97, 3) := by decide +kernel
theorem dX12_one_44 : decode cX12_one 44 = .ok (.ireturn, 1) := by decide +kernel
theorem dX12_one_45 : decode cX12_one 45 = .ok (.aload_n 0, 1) := by decide +kernel
theorem dX12_one_46 : decode cX12_one 46 = .ok (.getfield 77, 3) := by decide +kernel
theorem dX12_one_49 : decode cX12_one 49 = .ok (.bipush 6, 2) := by decide +kernel
theorem dX12_one_51 : decode cX12_one 51 = .ok (.if_icmp .ne 10, 3) := by decide +kernel
theorem dX12_one_54 : decode cX12_one 54 = .ok (.aload_n 0, 1) := by decide +kernel
theorem dX12_one_55 : decode cX12_one 55 = .ok (.invokevirtual 101, 3) := by decide +kernel
theorem dX12_one_58 : decode cX12_one 58 = .ok (.goto 12, 3) := by decide +kernel
theorem dX12_one_61 : decode cX12_one 61 = .ok (.aload_n 0, 1) := by decide +kernel
theorem dX12_one_62 : decode cX12_one 62 = .ok (.iload_n 1, 1) := by decide +kernel
theorem dX12_one_63 : decode cX12_one 63 = .ok (.iload_n 2, 1) := by decide +kernel
theorem dX12_one_64 : decode cX12_one 64 = .ok (.iload_n 3, 1) := by decide +kernel
theorem dX12_one_65 : decode cX12_one 65 = .ok (.iload 4, 2) := by decide +kernel
theorem dX12_one_67 : decode cX12_one 67 = .ok (.invokevirtual 104, 3) := by decide +kernel
theorem dX12_one_70 : decode cX12_one 70 = .ok (.ireturn, 1) := by decide +kernel
theorem dX12_hands_0 : decode cX12_hands 0 = .ok (.aload_n 0, 1) := by decide +kernel
theorem dX12_hands_1 : decode cX12_hands 1 = .ok (.iload_n 1, 1) := by decide +kernel
theorem dX12_hands_2 : decode cX12_hands 2 = .ok (.invokevirtual 108, 3) := by decide +kernel
theorem dX12_hands_5 : decode cX12_hands 5 = .ok (.ifCond .eq 25, 3) := by decide +kernel
theorem dX12_hands_8 : decode cX12_hands 8 = .ok (.aload_n 0, 1) := by decide +kernel
theorem dX12_hands_9 : decode cX12_hands 9 = .ok (.iload_n 2, 1) := by decide +kernel
theorem dX12_hands_10 : decode cX12_hands 10 = .ok (.invokevirtual 108, 3) := by decide +kernel
theorem dX12_hands_13 : decode cX12_hands 13 = .ok (.ifCond .eq 17, 3) := by decide +kernel
theorem dX12_hands_16 : decode cX12_hands 16 = .ok (.iload_n 1, 1) := by decide +kernel
theorem dX12_hands_17 : decode cX12_hands 17 = .ok (.iload_n 2, 1) := by decide +kernel
theorem dX12_hands_18 : decode cX12_hands 18 = .ok (.if_icmp .eq 12, 3) := by decide +kernel
theorem dX12_hands_21 : decode cX12_hands 21 = .ok (.iload_n 3, 1) := by decide +kernel
theorem dX12_hands_22 : decode cX12_hands 22 = .ok (.iconst 0, 1) := by decide +kernel
theorem dX12_hands_23 : decode cX12_hands 23 = .ok (.iconst 1, 1) := by decide +kernel
theorem dX12_hands_24 : decode cX12_hands 24 = .ok (.invokestatic 93, 3) := by decide +kernel
theorem dX12_hands_27 : decode cX12_hands 27 = .ok (.ifCond .ne 8, 3) := by decide +kernel
theorem dX12_hands_30 : decode cX12_hands 30 = .ok (.aload_n 0, 1) := by decide +kernel
theorem dX12_hands_31 : decode cX12_hands 31 = .ok (.invokevirtual 97, 3) := by decide +kernel
theorem dX12_hands_34 : decode cX12_hands 34 = .ok (.ireturn, 1) := by decide +kernel
theorem dX12_hands_35 : decode cX12_hands 35 = .ok (.aload_n 0, 1) := by decide +kernel
theorem dX12_hands_36 : decode cX12_hands 36 = .ok (.getfield 25, 3) := by decide +kernel
theorem dX12_hands_39 : decode cX12_hands 39 = .ok (.iload_n 1, 1) := by decide +kernel
theorem dX12_hands_40 : decode cX12_hands 40 = .ok (.iaload, 1) := by decide +kernel
theorem dX12_hands_41 : decode cX12_hands 41 = .ok (.iload_n 2, 1) := by decide +kernel
theorem dX12_hands_42 : decode cX12_hands 42 = .ok (.ishr, 1) := by decide +kernel
theorem dX12_hands_43 : decode cX12_hands 43 = .ok (.iconst 1, 1) := by decide +kernel
theorem dX12_hands_44 : decode cX12_hands 44 = .ok (.iand, 1) := by decide +kernel
theorem dX12_hands_45 : decode cX12_hands 45 = .ok (.istore 4, 2) := by decide +kernel
theorem dX12_hands_47 : decode cX12_hands 47 = .ok (.aload_n 0, 1) := by decide +kernel
theorem dX12_hands_48 : decode cX12_hands 48 = .ok (.getfield 25, 3) := by decide +kernel
theorem dX12_hands_51 : decode cX12_hands 51 = .ok (.iload_n 1, 1) := by decide +kernel
theorem dX12_hands_52 : decode cX12_hands 52 = .ok (.aload_n 0, 1) := by decide +kernel
theorem dX12_hands_53 : decode cX12_hands 53 = .ok (.getfield 25, 3) := by decide +kernel
theorem dX12_hands_56 : decode cX12_hands 56 = .ok (.iload_n 1, 1) := by decide +kernel
theorem dX12_hands_57 : decode cX12_hands 57 = .ok (.iaload, 1) := by decide +kernel
theorem dX12_hands_58 : decode cX12_hands 58 = .ok (.iconst 1, 1) := by decide +kernel
theorem dX12_hands_59 : decode cX12_hands 59 = .ok (.iload_n 2, 1) := by decide +kernel
theorem dX12_hands_60 : decode cX12_hands 60 = .ok (.ishl, 1) := by decide +kernel
theorem dX12_hands_61 : decode cX12_hands 61 = .ok (.iconst (-1), 1) := by decide +kernel
theorem dX12_hands_62 : decode cX12_hands 62 = .ok (.ixor, 1) := by decide +kernel
theorem dX12_hands_63 : decode cX12_hands 63 = .ok (.iand, 1) := by decide +kernel
theorem dX12_hands_64 : decode cX12_hands 64 = .ok (.iload_n 3, 1) := by decide +kernel
theorem dX12_hands_65 : decode cX12_hands 65 = .ok (.iload_n 2, 1) := by decide +kernel
theorem dX12_hands_66 : decode cX12_hands 66 = .ok (.ishl, 1) := by decide +kernel
theorem dX12_hands_67 : decode cX12_hands 67 = .ok (.ior, 1) := by decide +kernel
theorem dX12_hands_68 : decode cX12_hands 68 = .ok (.iastore, 1) := by decide +kernel
theorem dX12_hands_69 : decode cX12_hands 69 = .ok (.aload_n 0, 1) := by decide +kernel
theorem dX12_hands_70 : decode cX12_hands 70 = .ok (.iconst 0, 1) := by decide +kernel
theorem dX12_hands_71 : decode cX12_hands 71 = .ok (.putfield 90, 3) := by decide +kernel
theorem dX12_hands_74 : decode cX12_hands 74 = .ok (.iload 4, 2) := by decide +kernel
theorem dX12_hands_76 : decode cX12_hands 76 = .ok (.ireturn, 1) := by decide +kernel
theorem dX12_type_0 : decode cX12_type 0 = .ok (.iload_n 1, 1) := by decide +kernel
theorem dX12_type_1 : decode cX12_type 1 = .ok (.iconst 0, 1) := by decide +kernel
theorem dX12_type_2 : decode cX12_type 2 = .ok (.bipush 127, 2) := by decide +kernel
theorem dX12_type_4 : decode cX12_type 4 = .ok (.invokestatic 93, 3) := by decide +kernel
theorem dX12_type_7 : decode cX12_type 7 = .ok (.ifCond .ne 8, 3) := by decide +kernel
theorem dX12_type_10 : decode cX12_type 10 = .ok (.aload_n 0, 1) := by decide +kernel
theorem dX12_type_11 : decode cX12_type 11 = .ok (.invokevirtual 97, 3) := by decide +kernel
theorem dX12_type_14 : decode cX12_type 14 = .ok (.ireturn, 1) := by decide +kernel
theorem dX12_type_15 : decode cX12_type 15 = .ok (.aload_n 0, 1) := by decide +kernel
theorem dX12_type_16 : decode cX12_type 16 = .ok (.getfield 112, 3) := by decide +kernel
theorem dX12_type_19 : decode cX12_type 19 = .ok (.sipush 150, 3) := by decide +kernel
theorem dX12_type_22 : decode cX12_type 22 = .ok (.if_icmp .ne 8, 3) := by decide +kernel
theorem dX12_type_25 : decode cX12_type 25 = .ok (.aload_n 0, 1) := by decide +kernel
theorem dX12_type_26 : decode cX12_type 26 = .ok (.invokevirtual 101, 3) := by decide +kernel
theorem dX12_type_29 : decode cX12_type 29 = .ok (.ireturn, 1) := by decide +kernel
theorem dX12_type_30 : decode cX12_type 30 = .ok (.aload_n 0, 1) := by decide +kernel
theorem dX12_type_31 : decode cX12_type 31 = .ok (.getfield 40, 3) := by decide +kernel
theorem dX12_type_34 : decode cX12_type 34 = .ok (.aload_n 0, 1) := by decide +kernel
theorem dX12_type_35 : decode cX12_type 35 = .ok (.getfield 112, 3) := by decide +kernel
theorem dX12_type_38 : decode cX12_type 38 = .ok (.iload_n 1, 1) := by decide +kernel
theorem dX12_type_39 : decode cX12_type 39 = .ok (.iastore, 1) := by decide +kernel
theorem dX12_type_40 : decode cX12_type 40 = .ok (.aload_n 0, 1) := by decide +kernel
theorem dX12_type_41 : decode cX12_type 41 = .ok (.dup, 1) := by decide +kernel
theorem dX12_type_42 : decode cX12_type 42 = .ok (.getfield 112, 3) := by decide +kernel
theorem dX12_type_45 : decode cX12_type 45 = .ok (.iconst 1, 1) := by decide +kernel
theorem dX12_type_46 : decode cX12_type 46 = .ok (.iadd, 1) := by decide +kernel
theorem dX12_type_47 : decode cX12_type 47 = .ok (.putfield 112, 3) := by decide +kernel
theorem dX12_type_50 : decode cX12_type 50 = .ok (.aload_n 0, 1) := by decide +kernel
theorem dX12_type_51 : decode cX12_type 51 = .ok (.getfield 112, 3) := by decide +kernel
theorem dX12_type_54 : decode cX12_type 54 = .ok (.ireturn, 1) := by decide +kernel
theorem dX12_clear_0 : decode cX12_clear 0 = .ok (.aload_n 0, 1) := by decide +kernel
theorem dX12_clear_1 : decode cX12_clear 1 = .ok (.getfield 112, 3) := by decide +kernel
theorem dX12_clear_4 : decode cX12_clear 4 = .ok (.istore_n 1, 1) := by decide +kernel
theorem dX12_clear_5 : decode cX12_clear 5 = .ok (.aload_n 0, 1) := by decide +kernel
theorem dX12_clear_6 : decode cX12_clear 6 = .ok (.iconst 0, 1) := by decide +kernel
theorem dX12_clear_7 : decode cX12_clear 7 = .ok (.putfield 112, 3) := by decide +kernel
theorem dX12_clear_10 : decode cX12_clear 10 = .ok (.iload_n 1, 1) := by decide +kernel
theorem dX12_clear_11 : decode cX12_clear 11 = .ok (.ireturn, 1) := by decide +kernel
theorem dX12_here_0 : decode cX12_here 0 = .ok (.aload_n 0, 1) := by decide +kernel
theorem dX12_here_1 : decode cX12_here 1 = .ok (.getfield 115, 3) := by decide +kernel
theorem dX12_here_4 : decode cX12_here 4 = .ok (.aload_n 0, 1) := by decide +kernel
theorem dX12_here_5 : decode cX12_here 5 = .ok (.getfield 112, 3) := by decide +kernel
theorem dX12_here_8 : decode cX12_here 8 = .ok (.if_icmp .ge 15, 3) := by decide +kernel
theorem dX12_here_11 : decode cX12_here 11 = .ok (.aload_n 0, 1) := by decide +kernel
theorem dX12_here_12 : decode cX12_here 12 = .ok (.getfield 40, 3) := by decide +kernel
theorem dX12_here_15 : decode cX12_here 15 = .ok (.aload_n 0, 1) := by decide +kernel
theorem dX12_here_16 : decode cX12_here 16 = .ok (.getfield 115, 3) := by decide +kernel
theorem dX12_here_19 : decode cX12_here 19 = .ok (.iaload, 1) := by decide +kernel
theorem dX12_here_20 : decode cX12_here 20 = .ok (.goto 4, 3) := by decide +kernel
theorem dX12_here_23 : decode cX12_here 23 = .ok (.iconst (-1), 1) := by decide +kernel
theorem dX12_here_24 : decode cX12_here 24 = .ok (.ireturn, 1) := by decide +kernel
theorem dX12_skip_0 : decode cX12_skip 0 = .ok (.aload_n 0, 1) := by decide +kernel
theorem dX12_skip_1 : decode cX12_skip 1 = .ok (.invokevirtual 118, 3) := by decide +kernel
theorem dX12_skip_4 : decode cX12_skip 4 = .ok (.bipush 32, 2) := by decide +kernel
theorem dX12_skip_6 : decode cX12_skip 6 = .ok (.if_icmp .ne 16, 3) := by decide +kernel
theorem dX12_skip_9 : decode cX12_skip 9 = .ok (.aload_n 0, 1) := by decide +kernel
theorem dX12_skip_10 : decode cX12_skip 10 = .ok (.dup, 1) := by decide +kernel
theorem dX12_skip_11 : decode cX12_skip 11 = .ok (.getfield 115, 3) := by decide +kernel
theorem dX12_skip_14 : decode cX12_skip 14 = .ok (.iconst 1, 1) := by decide +kernel
theorem dX12_skip_15 : decode cX12_skip 15 = .ok (.iadd, 1) := by decide +kernel
theorem dX12_skip_16 : decode cX12_skip 16 = .ok (.putfield 115, 3) := by decide +kernel
theorem dX12_skip_19 : decode cX12_skip 19 = .ok (.goto (-19), 3) := by decide +kernel
theorem dX12_skip_22 : decode cX12_skip 22 = .ok (.return_, 1) := by decide +kernel
theorem dX12_isLetter_0 : decode cX12_isLetter 0 = .ok (.iload_n 0, 1) := by decide +kernel
theorem dX12_isLetter_1 : decode cX12_isLetter 1 = .ok (.bipush 97, 2) := by decide +kernel
theorem dX12_isLetter_3 : decode cX12_isLetter 3 = .ok (.bipush 122, 2) := by decide +kernel
theorem dX12_isLetter_5 : decode cX12_isLetter 5 = .ok (.invokestatic 93, 3) := by decide +kernel
theorem dX12_isLetter_8 : decode cX12_isLetter 8 = .ok (.ireturn, 1) := by decide +kernel
theorem dX12_isFigure_0 : decode cX12_isFigure 0 = .ok (.iload_n 0, 1) := by decide +kernel
theorem dX12_isFigure_1 : decode cX12_isFigure 1 = .ok (.bipush 48, 2) := by decide +kernel
theorem dX12_isFigure_3 : decode cX12_isFigure 3 = .ok (.bipush 57, 2) := by decide +kernel
theorem dX12_isFigure_5 : decode cX12_isFigure 5 = .ok (.invokestatic 93, 3) := by decide +kernel
theorem dX12_isFigure_8 : decode cX12_isFigure 8 = .ok (.ireturn, 1) := by decide +kernel
theorem dX12_wordSize_0 : decode cX12_wordSize 0 = .ok (.iconst 0, 1) := by decide +kernel
theorem dX12_wordSize_1 : decode cX12_wordSize 1 = .ok (.istore_n 1, 1) := by decide +kernel
theorem dX12_wordSize_2 : decode cX12_wordSize 2 = .ok (.aload_n 0, 1) := by decide +kernel
theorem dX12_wordSize_3 : decode cX12_wordSize 3 = .ok (.getfield 115, 3) := by decide +kernel
theorem dX12_wordSize_6 : decode cX12_wordSize 6 = .ok (.iload_n 1, 1) := by decide +kernel
theorem dX12_wordSize_7 : decode cX12_wordSize 7 = .ok (.iadd, 1) := by decide +kernel
theorem dX12_wordSize_8 : decode cX12_wordSize 8 = .ok (.aload_n 0, 1) := by decide +kernel
theorem dX12_wordSize_9 : decode cX12_wordSize 9 = .ok (.getfield 112, 3) := by decide +kernel
theorem dX12_wordSize_12 : decode cX12_wordSize 12 = .ok (.if_icmp .ge 26, 3) := by decide +kernel
theorem dX12_wordSize_15 : decode cX12_wordSize 15 = .ok (.aload_n 0, 1) := by decide +kernel
theorem dX12_wordSize_16 : decode cX12_wordSize 16 = .ok (.getfield 40, 3) := by decide +kernel
theorem dX12_wordSize_19 : decode cX12_wordSize 19 = .ok (.aload_n 0, 1) := by decide +kernel
theorem dX12_wordSize_20 : decode cX12_wordSize 20 = .ok (.getfield 115, 3) := by decide +kernel
theorem dX12_wordSize_23 : decode cX12_wordSize 23 = .ok (.iload_n 1, 1) := by decide +kernel
theorem dX12_wordSize_24 : decode cX12_wordSize 24 = .ok (.iadd, 1) := by decide +kernel
theorem dX12_wordSize_25 : decode cX12_wordSize 25 = .ok (.iaload, 1) := by decide +kernel
theorem dX12_wordSize_26 : decode cX12_wordSize 26 = .ok (.invokestatic 121, 3) := by decide +kernel
theorem dX12_wordSize_29 : decode cX12_wordSize 29 = .ok (.ifCond .eq 9, 3) := by decide +kernel
theorem dX12_wordSize_32 : decode cX12_wordSize 32 = .ok (.iinc 1 1, 3) := by decide +kernel
theorem dX12_wordSize_35 : decode cX12_wordSize 35 = .ok (.goto (-33), 3) := by decide +kernel
theorem dX12_wordSize_38 : decode cX12_wordSize 38 = .ok (.iload_n 1, 1) := by decide +kernel
theorem dX12_wordSize_39 : decode cX12_wordSize 39 = .ok (.ireturn, 1) := by decide +kernel
theorem dX12_letter_0 : decode cX12_letter 0 = .ok (.aload_n 0, 1) := by decide +kernel
theorem dX12_letter_1 : decode cX12_letter 1 = .ok (.getfield 40, 3) := by decide +kernel
theorem dX12_letter_4 : decode cX12_letter 4 = .ok (.aload_n 0, 1) := by decide +kernel
theorem dX12_letter_5 : decode cX12_letter 5 = .ok (.getfield 115, 3) := by decide +kernel
theorem dX12_letter_8 : decode cX12_letter 8 = .ok (.iload_n 1, 1) := by decide +kernel
theorem dX12_letter_9 : decode cX12_letter 9 = .ok (.iadd, 1) := by decide +kernel
theorem dX12_letter_10 : decode cX12_letter 10 = .ok (.iaload, 1) := by decide +kernel
theorem dX12_letter_11 : decode cX12_letter 11 = .ok (.ireturn, 1) := by decide +kernel
theorem dX12_spells_0 : decode cX12_spells 0 = .ok (.aload_n 0, 1) := by decide +kernel
theorem dX12_spells_1 : decode cX12_spells 1 = .ok (.iconst 0, 1) := by decide +kernel
theorem dX12_spells_2 : decode cX12_spells 2 = .ok (.invokevirtual 124, 3) := by decide +kernel
theorem dX12_spells_5 : decode cX12_spells 5 = .ok (.iload_n 1, 1) := by decide +kernel
theorem dX12_spells_6 : decode cX12_spells 6 = .ok (.if_icmp .ne 35, 3) := by decide +kernel
theorem dX12_spells_9 : decode cX12_spells 9 = .ok (.aload_n 0, 1) := by decide +kernel
theorem dX12_spells_10 : decode cX12_spells 10 = .ok (.iconst 1, 1) := by decide +kernel
theorem dX12_spells_11 : decode cX12_spells 11 = .ok (.invokevirtual 124, 3) := by decide +kernel
theorem dX12_spells_14 : decode cX12_spells 14 = .ok (.iload_n 2, 1) := by decide +kernel
theorem dX12_spells_15 : decode cX12_spells 15 = .ok (.if_icmp .ne 26, 3) := by decide +kernel
theorem dX12_spells_18 : decode cX12_spells 18 = .ok (.aload_n 0, 1) := by decide +kernel
theorem dX12_spells_19 : decode cX12_spells 19 = .ok (.iconst 2, 1) := by decide +kernel
theorem dX12_spells_20 : decode cX12_spells 20 = .ok (.invokevirtual 124, 3) := by decide +kernel
theorem dX12_spells_23 : decode cX12_spells 23 = .ok (.iload_n 3, 1) := by decide +kernel
theorem dX12_spells_24 : decode cX12_spells 24 = .ok (.if_icmp .ne 17, 3) := by decide +kernel
theorem dX12_spells_27 : decode cX12_spells 27 = .ok (.aload_n 0, 1) := by decide +kernel
theorem dX12_spells_28 : decode cX12_spells 28 = .ok (.iconst 3, 1) := by decide +kernel
theorem dX12_spells_29 : decode cX12_spells 29 = .ok (.invokevirtual 124, 3) := by decide +kernel
theorem dX12_spells_32 : decode cX12_spells 32 = .ok (.iload 4, 2) := by decide +kernel
theorem dX12_spells_34 : decode cX12_spells 34 = .ok (.if_icmp .ne 7, 3) := by decide +kernel
theorem dX12_spells_37 : decode cX12_spells 37 = .ok (.iconst 1, 1) := by decide +kernel
theorem dX12_spells_38 : decode cX12_spells 38 = .ok (.goto 4, 3) := by decide +kernel
theorem dX12_spells_41 : decode cX12_spells 41 = .ok (.iconst 0, 1) := by decide +kernel
theorem dX12_spells_42 : decode cX12_spells 42 = .ok (.ireturn, 1) := by decide +kernel
theorem dX12_wordHere_0 : decode cX12_wordHere 0 = .ok (.aload_n 0, 1) := by decide +kernel
theorem dX12_wordHere_1 : decode cX12_wordHere 1 = .ok (.invokevirtual 128, 3) := by decide +kernel
theorem dX12_wordHere_4 : decode cX12_wordHere 4 = .ok (.istore_n 1, 1) := by decide +kernel
theorem dX12_wordHere_5 : decode cX12_wordHere 5 = .ok (.iload_n 1, 1) := by decide +kernel
theorem dX12_wordHere_6 : decode cX12_wordHere 6 = .ok (.iconst 4, 1) := by decide +kernel
theorem dX12_wordHere_7 : decode cX12_wordHere 7 = .ok (.if_icmp .ne 20, 3) := by decide +kernel
theorem dX12_wordHere_10 : decode cX12_wordHere 10 = .ok (.aload_n 0, 1) := by decide +kernel
theorem dX12_wordHere_11 : decode cX12_wordHere 11 = .ok (.bipush 103, 2) := by decide +kernel
theorem dX12_wordHere_13 : decode cX12_wordHere 13 = .ok (.bipush 111, 2) := by decide +kernel
theorem dX12_wordHere_15 : decode cX12_wordHere 15 = .ok (.bipush 108, 2) := by decide +kernel
theorem dX12_wordHere_17 : decode cX12_wordHere 17 = .ok (.bipush 100, 2) := by decide +kernel
theorem dX12_wordHere_19 : decode cX12_wordHere 19 = .ok (.invokevirtual 131, 3) := by decide +kernel
theorem dX12_wordHere_22 : decode cX12_wordHere 22 = .ok (.ifCond .eq 5, 3) := by decide +kernel
theorem dX12_wordHere_25 : decode cX12_wordHere 25 = .ok (.iconst 0, 1) := by decide +kernel
theorem dX12_wordHere_26 : decode cX12_wordHere 26 = .ok (.ireturn, 1) := by decide +kernel
theorem dX12_wordHere_27 : decode cX12_wordHere 27 = .ok (.iload_n 1, 1) := by decide +kernel
theorem dX12_wordHere_28 : decode cX12_wordHere 28 = .ok (.iconst 3, 1) := by decide +kernel
theorem dX12_wordHere_29 : decode cX12_wordHere 29 = .ok (.if_icmp .ne 35, 3) := by decide +kernel
theorem dX12_wordHere_32 : decode cX12_wordHere 32 = .ok (.aload_n 0, 1) := by decide +kernel
theorem dX12_wordHere_33 : decode cX12_wordHere 33 = .ok (.iconst 0, 1) := by decide +kernel
theorem dX12_wordHere_34 : decode cX12_wordHere 34 = .ok (.invokevirtual 124, 3) := by decide +kernel
theorem dX12_wordHere_37 : decode cX12_wordHere 37 = .ok (.bipush 111, 2) := by decide +kernel
theorem dX12_wordHere_39 : decode cX12_wordHere 39 = .ok (.if_icmp .ne 25, 3) := by decide +kernel
theorem dX12_wordHere_42 : decode cX12_wordHere 42 = .ok (.aload_n 0, 1) := by decide +kernel
theorem dX12_wordHere_43 : decode cX12_wordHere 43 = .ok (.iconst 1, 1) := by decide +kernel
theorem dX12_wordHere_44 : decode cX12_wordHere 44 = .ok (.invokevirtual 124, 3) := by decide +kernel
theorem dX12_wordHere_47 : decode cX12_wordHere 47 = .ok (.bipush 110, 2) := by decide +kernel
theorem dX12_wordHere_49 : decode cX12_wordHere 49 = .ok (.if_icmp .ne 15, 3) := by decide +kernel
theorem dX12_wordHere_52 : decode cX12_wordHere 52 = .ok (.aload_n 0, 1) := by decide +kernel
theorem dX12_wordHere_53 : decode cX12_wordHere 53 = .ok (.iconst 2, 1) := by decide +kernel
theorem dX12_wordHere_54 : decode cX12_wordHere 54 = .ok (.invokevirtual 124, 3) := by decide +kernel
theorem dX12_wordHere_57 : decode cX12_wordHere 57 = .ok (.bipush 101, 2) := by decide +kernel
theorem dX12_wordHere_59 : decode cX12_wordHere 59 = .ok (.if_icmp .ne 5, 3) := by decide +kernel
theorem dX12_wordHere_62 : decode cX12_wordHere 62 = .ok (.iconst 1, 1) := by decide +kernel
theorem dX12_wordHere_63 : decode cX12_wordHere 63 = .ok (.ireturn, 1) := by decide +kernel
theorem dX12_wordHere_64 : decode cX12_wordHere 64 = .ok (.iload_n 1, 1) := by decide +kernel
theorem dX12_wordHere_65 : decode cX12_wordHere 65 = .ok (.iconst 5, 1) := by decide +kernel
theorem dX12_wordHere_66 : decode cX12_wordHere 66 = .ok (.if_icmp .ne 30, 3) := by decide +kernel
theorem dX12_wordHere_69 : decode cX12_wordHere 69 = .ok (.aload_n 0, 1) := by decide +kernel
theorem dX12_wordHere_70 : decode cX12_wordHere 70 = .ok (.bipush 104, 2) := by decide +kernel
theorem dX12_wordHere_72 : decode cX12_wordHere 72 = .ok (.bipush 97, 2) := by decide +kernel
theorem dX12_wordHere_74 : decode cX12_wordHere 74 = .ok (.bipush 110, 2) := by decide +kernel
theorem dX12_wordHere_76 : decode cX12_wordHere 76 = .ok (.bipush 100, 2) := by decide +kernel
theorem dX12_wordHere_78 : decode cX12_wordHere 78 = .ok (.invokevirtual 131, 3) := by decide +kernel
theorem dX12_wordHere_81 : decode cX12_wordHere 81 = .ok (.ifCond .eq 15, 3) := by decide +kernel
theorem dX12_wordHere_84 : decode cX12_wordHere 84 = .ok (.aload_n 0, 1) := by decide +kernel
theorem dX12_wordHere_85 : decode cX12_wordHere 85 = .ok (.iconst 4, 1) := by decide +kernel
theorem dX12_wordHere_86 : decode cX12_wordHere 86 = .ok (.invokevirtual 124, 3) := by decide +kernel
theorem dX12_wordHere_89 : decode cX12_wordHere 89 = .ok (.bipush 115, 2) := by decide +kernel
theorem dX12_wordHere_91 : decode cX12_wordHere 91 = .ok (.if_icmp .ne 5, 3) := by decide +kernel
theorem dX12_wordHere_94 : decode cX12_wordHere 94 = .ok (.iconst 2, 1) := by decide +kernel
theorem dX12_wordHere_95 : decode cX12_wordHere 95 = .ok (.ireturn, 1) := by decide +kernel
theorem dX12_wordHere_96 : decode cX12_wordHere 96 = .ok (.iload_n 1, 1) := by decide +kernel
theorem dX12_wordHere_97 : decode cX12_wordHere 97 = .ok (.iconst 3, 1) := by decide +kernel
theorem dX12_wordHere_98 : decode cX12_wordHere 98 = .ok (.if_icmp .ne 37, 3) := by decide +kernel
theorem dX12_wordHere_101 : decode cX12_wordHere 101 = .ok (.aload_n 0, 1) := by decide +kernel
theorem dX12_wordHere_102 : decode cX12_wordHere 102 = .ok (.iconst 0, 1) := by decide +kernel
theorem dX12_wordHere_103 : decode cX12_wordHere 103 = .ok (.invokevirtual 124, 3) := by decide +kernel
theorem dX12_wordHere_106 : decode cX12_wordHere 106 = .ok (.bipush 108, 2) := by decide +kernel
theorem dX12_wordHere_108 : decode cX12_wordHere 108 = .ok (.if_icmp .ne 27, 3) := by decide +kernel
theorem dX12_wordHere_111 : decode cX12_wordHere 111 = .ok (.aload_n 0, 1) := by decide +kernel
theorem dX12_wordHere_112 : decode cX12_wordHere 112 = .ok (.iconst 1, 1) := by decide +kernel
theorem dX12_wordHere_113 : decode cX12_wordHere 113 = .ok (.invokevirtual 124, 3) := by decide +kernel
theorem dX12_wordHere_116 : decode cX12_wordHere 116 = .ok (.bipush 105, 2) := by decide +kernel
theorem dX12_wordHere_118 : decode cX12_wordHere 118 = .ok (.if_icmp .ne 17, 3) := by decide +kernel
theorem dX12_wordHere_121 : decode cX12_wordHere 121 = .ok (.aload_n 0, 1) := by decide +kernel
theorem dX12_wordHere_122 : decode cX12_wordHere 122 = .ok (.iconst 2, 1) := by decide +kernel
theorem dX12_wordHere_123 : decode cX12_wordHere 123 = .ok (.invokevirtual 124, 3) := by decide +kernel
theorem dX12_wordHere_126 : decode cX12_wordHere 126 = .ok (.bipush 101, 2) := by decide +kernel
theorem dX12_wordHere_128 : decode cX12_wordHere 128 = .ok (.if_icmp .ne 7, 3) := by decide +kernel
theorem dX12_wordHere_131 : decode cX12_wordHere 131 = .ok (.iconst 3, 1) := by decide +kernel
theorem dX12_wordHere_132 : decode cX12_wordHere 132 = .ok (.goto 4, 3) := by decide +kernel
theorem dX12_wordHere_135 : decode cX12_wordHere 135 = .ok (.iconst (-1), 1) := by decide +kernel
theorem dX12_wordHere_136 : decode cX12_wordHere 136 = .ok (.ireturn, 1) := by decide +kernel
theorem dX12_number_0 : decode cX12_number 0 = .ok (.aload_n 0, 1) := by decide +kernel
theorem dX12_number_1 : decode cX12_number 1 = .ok (.invokevirtual 135, 3) := by decide +kernel
theorem dX12_number_4 : decode cX12_number 4 = .ok (.iconst 0, 1) := by decide +kernel
theorem dX12_number_5 : decode cX12_number 5 = .ok (.istore_n 3, 1) := by decide +kernel
theorem dX12_number_6 : decode cX12_number 6 = .ok (.iconst 0, 1) := by decide +kernel
theorem dX12_number_7 : decode cX12_number 7 = .ok (.istore 4, 2) := by decide +kernel
theorem dX12_number_9 : decode cX12_number 9 = .ok (.aload_n 0, 1) := by decide +kernel
theorem dX12_number_10 : decode cX12_number 10 = .ok (.getfield 115, 3) := by decide +kernel
theorem dX12_number_13 : decode cX12_number 13 = .ok (.iload_n 3, 1) := by decide +kernel
theorem dX12_number_14 : decode cX12_number 14 = .ok (.iadd, 1) := by decide +kernel
theorem dX12_number_15 : decode cX12_number 15 = .ok (.aload_n 0, 1) := by decide +kernel
theorem dX12_number_16 : decode cX12_number 16 = .ok (.getfield 112, 3) := by decide +kernel
theorem dX12_number_19 : decode cX12_number 19 = .ok (.if_icmp .ge 58, 3) := by decide +kernel
theorem dX12_number_22 : decode cX12_number 22 = .ok (.aload_n 0, 1) := by decide +kernel
theorem dX12_number_23 : decode cX12_number 23 = .ok (.getfield 40, 3) := by decide +kernel
theorem dX12_number_26 : decode cX12_number 26 = .ok (.aload_n 0, 1) := by decide +kernel
theorem dX12_number_27 : decode cX12_number 27 = .ok (.getfield 115, 3) := by decide +kernel
theorem dX12_number_30 : decode cX12_number 30 = .ok (.iload_n 3, 1) := by decide +kernel
theorem dX12_number_31 : decode cX12_number 31 = .ok (.iadd, 1) := by decide +kernel
theorem dX12_number_32 : decode cX12_number 32 = .ok (.iaload, 1) := by decide +kernel
theorem dX12_number_33 : decode cX12_number 33 = .ok (.invokestatic 138, 3) := by decide +kernel
theorem dX12_number_36 : decode cX12_number 36 = .ok (.ifCond .eq 41, 3) := by decide +kernel
theorem dX12_number_39 : decode cX12_number 39 = .ok (.iload_n 3, 1) := by decide +kernel
theorem dX12_number_40 : decode cX12_number 40 = .ok (.iconst 2, 1) := by decide +kernel
theorem dX12_number_41 : decode cX12_number 41 = .ok (.if_icmp .ge 26, 3) := by decide +kernel
theorem dX12_number_44 : decode cX12_number 44 = .ok (.bipush 10, 2) := by decide +kernel
theorem dX12_number_46 : decode cX12_number 46 = .ok (.iload 4, 2) := by decide +kernel
theorem dX12_number_48 : decode cX12_number 48 = .ok (.imul, 1) := by decide +kernel
theorem dX12_number_49 : decode cX12_number 49 = .ok (.aload_n 0, 1) := by decide +kernel
theorem dX12_number_50 : decode cX12_number 50 = .ok (.getfield 40, 3) := by decide +kernel
theorem dX12_number_53 : decode cX12_number 53 = .ok (.aload_n 0, 1) := by decide +kernel
theorem dX12_number_54 : decode cX12_number 54 = .ok (.getfield 115, 3) := by decide +kernel
theorem dX12_number_57 : decode cX12_number 57 = .ok (.iload_n 3, 1) := by decide +kernel
theorem dX12_number_58 : decode cX12_number 58 = .ok (.iadd, 1) := by decide +kernel
theorem dX12_number_59 : decode cX12_number 59 = .ok (.iaload, 1) := by decide +kernel
theorem dX12_number_60 : decode cX12_number 60 = .ok (.iadd, 1) := by decide +kernel
theorem dX12_number_61 : decode cX12_number 61 = .ok (.bipush 48, 2) := by decide +kernel
theorem dX12_number_63 : decode cX12_number 63 = .ok (.isub, 1) := by decide +kernel
theorem dX12_number_64 : decode cX12_number 64 = .ok (.goto 5, 3) := by decide +kernel
theorem dX12_number_67 : decode cX12_number 67 = .ok (.iload 4, 2) := by decide +kernel
theorem dX12_number_69 : decode cX12_number 69 = .ok (.istore 4, 2) := by decide +kernel
theorem dX12_number_71 : decode cX12_number 71 = .ok (.iinc 3 1, 3) := by decide +kernel
theorem dX12_number_74 : decode cX12_number 74 = .ok (.goto (-65), 3) := by decide +kernel
theorem dX12_number_77 : decode cX12_number 77 = .ok (.iload_n 3, 1) := by decide +kernel
theorem dX12_number_78 : decode cX12_number 78 = .ok (.iconst 1, 1) := by decide +kernel
theorem dX12_number_79 : decode cX12_number 79 = .ok (.iconst 2, 1) := by decide +kernel
theorem dX12_number_80 : decode cX12_number 80 = .ok (.invokestatic 93, 3) := by decide +kernel
theorem dX12_number_83 : decode cX12_number 83 = .ok (.ifCond .eq 13, 3) := by decide +kernel
theorem dX12_number_86 : decode cX12_number 86 = .ok (.iload 4, 2) := by decide +kernel
theorem dX12_number_88 : decode cX12_number 88 = .ok (.iload_n 1, 1) := by decide +kernel
theorem dX12_number_89 : decode cX12_number 89 = .ok (.iload_n 2, 1) := by decide +kernel
theorem dX12_number_90 : decode cX12_number 90 = .ok (.invokestatic 93, 3) := by decide +kernel
theorem dX12_number_93 : decode cX12_number 93 = .ok (.ifCond .ne 5, 3) := by decide +kernel
theorem dX12_number_96 : decode cX12_number 96 = .ok (.iconst 0, 1) := by decide +kernel
theorem dX12_number_97 : decode cX12_number 97 = .ok (.ireturn, 1) := by decide +kernel
theorem dX12_number_98 : decode cX12_number 98 = .ok (.aload_n 0, 1) := by decide +kernel
theorem dX12_number_99 : decode cX12_number 99 = .ok (.iload 4, 2) := by decide +kernel
theorem dX12_number_101 : decode cX12_number 101 = .ok (.putfield 141, 3) := by decide +kernel
theorem dX12_number_104 : decode cX12_number 104 = .ok (.aload_n 0, 1) := by decide +kernel
theorem dX12_number_105 : decode cX12_number 105 = .ok (.dup, 1) := by decide +kernel
theorem dX12_number_106 : decode cX12_number 106 = .ok (.getfield 115, 3) := by decide +kernel
theorem dX12_number_109 : decode cX12_number 109 = .ok (.iload_n 3, 1) := by decide +kernel
theorem dX12_number_110 : decode cX12_number 110 = .ok (.iadd, 1) := by decide +kernel
theorem dX12_number_111 : decode cX12_number 111 = .ok (.putfield 115, 3) := by decide +kernel
theorem dX12_number_114 : decode cX12_number 114 = .ok (.iconst 1, 1) := by decide +kernel
theorem dX12_number_115 : decode cX12_number 115 = .ok (.ireturn, 1) := by decide +kernel
theorem dX12_ends_0 : decode cX12_ends 0 = .ok (.aload_n 0, 1) := by decide +kernel
theorem dX12_ends_1 : decode cX12_ends 1 = .ok (.invokevirtual 135, 3) := by decide +kernel
theorem dX12_ends_4 : decode cX12_ends 4 = .ok (.aload_n 0, 1) := by decide +kernel
theorem dX12_ends_5 : decode cX12_ends 5 = .ok (.invokevirtual 118, 3) := by decide +kernel
theorem dX12_ends_8 : decode cX12_ends 8 = .ok (.bipush 59, 2) := by decide +kernel
theorem dX12_ends_10 : decode cX12_ends 10 = .ok (.if_icmp .eq 5, 3) := by decide +kernel
theorem dX12_ends_13 : decode cX12_ends 13 = .ok (.iconst 0, 1) := by decide +kernel
theorem dX12_ends_14 : decode cX12_ends 14 = .ok (.ireturn, 1) := by decide +kernel
theorem dX12_ends_15 : decode cX12_ends 15 = .ok (.aload_n 0, 1) := by decide +kernel
theorem dX12_ends_16 : decode cX12_ends 16 = .ok (.dup, 1) := by decide +kernel
theorem dX12_ends_17 : decode cX12_ends 17 = .ok (.getfield 115, 3) := by decide +kernel
theorem dX12_ends_20 : decode cX12_ends 20 = .ok (.iconst 1, 1) := by decide +kernel
theorem dX12_ends_21 : decode cX12_ends 21 = .ok (.iadd, 1) := by decide +kernel
theorem dX12_ends_22 : decode cX12_ends 22 = .ok (.putfield 115, 3) := by decide +kernel
theorem dX12_ends_25 : decode cX12_ends 25 = .ok (.iconst 1, 1) := by decide +kernel
theorem dX12_ends_26 : decode cX12_ends 26 = .ok (.ireturn, 1) := by decide +kernel
theorem dX12_readsOne_0 : decode cX12_readsOne 0 = .ok (.iconst 5, 1) := by decide +kernel
theorem dX12_readsOne_1 : decode cX12_readsOne 1 = .ok (.aload_n 0, 1) := by decide +kernel
theorem dX12_readsOne_2 : decode cX12_readsOne 2 = .ok (.getfield 144, 3) := by decide +kernel
theorem dX12_readsOne_5 : decode cX12_readsOne 5 = .ok (.imul, 1) := by decide +kernel
theorem dX12_readsOne_6 : decode cX12_readsOne 6 = .ok (.istore_n 1, 1) := by decide +kernel
theorem dX12_readsOne_7 : decode cX12_readsOne 7 = .ok (.iconst 0, 1) := by decide +kernel
theorem dX12_readsOne_8 : decode cX12_readsOne 8 = .ok (.istore_n 2, 1) := by decide +kernel
theorem dX12_readsOne_9 : decode cX12_readsOne 9 = .ok (.iload_n 2, 1) := by decide +kernel
theorem dX12_readsOne_10 : decode cX12_readsOne 10 = .ok (.iconst 4, 1) := by decide +kernel
theorem dX12_readsOne_11 : decode cX12_readsOne 11 = .ok (.if_icmp .ge 61, 3) := by decide +kernel
theorem dX12_readsOne_14 : decode cX12_readsOne 14 = .ok (.aload_n 0, 1) := by decide +kernel
theorem dX12_readsOne_15 : decode cX12_readsOne 15 = .ok (.iconst 0, 1) := by decide +kernel
theorem dX12_readsOne_16 : decode cX12_readsOne 16 = .ok (.iload_n 2, 1) := by decide +kernel
theorem dX12_readsOne_17 : decode cX12_readsOne 17 = .ok (.ifCond .ne 7, 3) := by decide +kernel
theorem dX12_readsOne_20 : decode cX12_readsOne 20 = .ok (.iconst 5, 1) := by decide +kernel
theorem dX12_readsOne_21 : decode cX12_readsOne 21 = .ok (.goto 25, 3) := by decide +kernel
theorem dX12_readsOne_24 : decode cX12_readsOne 24 = .ok (.iload_n 2, 1) := by decide +kernel
theorem dX12_readsOne_25 : decode cX12_readsOne 25 = .ok (.iconst 1, 1) := by decide +kernel
theorem dX12_readsOne_26 : decode cX12_readsOne 26 = .ok (.if_icmp .ne 8, 3) := by decide +kernel
theorem dX12_readsOne_29 : decode cX12_readsOne 29 = .ok (.bipush 12, 2) := by decide +kernel
theorem dX12_readsOne_31 : decode cX12_readsOne 31 = .ok (.goto 15, 3) := by decide +kernel
theorem dX12_readsOne_34 : decode cX12_readsOne 34 = .ok (.iload_n 2, 1) := by decide +kernel
theorem dX12_readsOne_35 : decode cX12_readsOne 35 = .ok (.iconst 2, 1) := by decide +kernel
theorem dX12_readsOne_36 : decode cX12_readsOne 36 = .ok (.if_icmp .ne 8, 3) := by decide +kernel
theorem dX12_readsOne_39 : decode cX12_readsOne 39 = .ok (.bipush 30, 2) := by decide +kernel
theorem dX12_readsOne_41 : decode cX12_readsOne 41 = .ok (.goto 5, 3) := by decide +kernel
theorem dX12_readsOne_44 : decode cX12_readsOne 44 = .ok (.bipush 20, 2) := by decide +kernel
theorem dX12_readsOne_46 : decode cX12_readsOne 46 = .ok (.invokevirtual 147, 3) := by decide +kernel
theorem dX12_readsOne_49 : decode cX12_readsOne 49 = .ok (.ifCond .ne 5, 3) := by decide +kernel
theorem dX12_readsOne_52 : decode cX12_readsOne 52 = .ok (.iconst 0, 1) := by decide +kernel
theorem dX12_readsOne_53 : decode cX12_readsOne 53 = .ok (.ireturn, 1) := by decide +kernel
theorem dX12_readsOne_54 : decode cX12_readsOne 54 = .ok (.aload_n 0, 1) := by decide +kernel
theorem dX12_readsOne_55 : decode cX12_readsOne 55 = .ok (.getfield 43, 3) := by decide +kernel
theorem dX12_readsOne_58 : decode cX12_readsOne 58 = .ok (.iload_n 1, 1) := by decide +kernel
theorem dX12_readsOne_59 : decode cX12_readsOne 59 = .ok (.iload_n 2, 1) := by decide +kernel
theorem dX12_readsOne_60 : decode cX12_readsOne 60 = .ok (.iadd, 1) := by decide +kernel
theorem dX12_readsOne_61 : decode cX12_readsOne 61 = .ok (.aload_n 0, 1) := by decide +kernel
theorem dX12_readsOne_62 : decode cX12_readsOne 62 = .ok (.getfield 141, 3) := by decide +kernel
theorem dX12_readsOne_65 : decode cX12_readsOne 65 = .ok (.iastore, 1) := by decide +kernel
theorem dX12_readsOne_66 : decode cX12_readsOne 66 = .ok (.iinc 2 1, 3) := by decide +kernel
theorem dX12_readsOne_69 : decode cX12_readsOne 69 = .ok (.goto (-60), 3) := by decide +kernel
theorem dX12_readsOne_72 : decode cX12_readsOne 72 = .ok (.aload_n 0, 1) := by decide +kernel
theorem dX12_readsOne_73 : decode cX12_readsOne 73 = .ok (.getfield 43, 3) := by decide +kernel
theorem dX12_readsOne_76 : decode cX12_readsOne 76 = .ok (.iload_n 1, 1) := by decide +kernel
theorem dX12_readsOne_77 : decode cX12_readsOne 77 = .ok (.iconst 4, 1) := by decide +kernel
theorem dX12_readsOne_78 : decode cX12_readsOne 78 = .ok (.iadd, 1) := by decide +kernel
theorem dX12_readsOne_79 : decode cX12_readsOne 79 = .ok (.iconst 0, 1) := by decide +kernel
theorem dX12_readsOne_80 : decode cX12_readsOne 80 = .ok (.iastore, 1) := by decide +kernel
theorem dX12_readsOne_81 : decode cX12_readsOne 81 = .ok (.aload_n 0, 1) := by decide +kernel
theorem dX12_readsOne_82 : decode cX12_readsOne 82 = .ok (.dup, 1) := by decide +kernel
theorem dX12_readsOne_83 : decode cX12_readsOne 83 = .ok (.getfield 144, 3) := by decide +kernel
theorem dX12_readsOne_86 : decode cX12_readsOne 86 = .ok (.iconst 1, 1) := by decide +kernel
theorem dX12_readsOne_87 : decode cX12_readsOne 87 = .ok (.iadd, 1) := by decide +kernel
theorem dX12_readsOne_88 : decode cX12_readsOne 88 = .ok (.putfield 144, 3) := by decide +kernel
theorem dX12_readsOne_91 : decode cX12_readsOne 91 = .ok (.aload_n 0, 1) := by decide +kernel
theorem dX12_readsOne_92 : decode cX12_readsOne 92 = .ok (.invokevirtual 151, 3) := by decide +kernel
theorem dX12_readsOne_95 : decode cX12_readsOne 95 = .ok (.ireturn, 1) := by decide +kernel
theorem dX12_readsHands_0 : decode cX12_readsHands 0 = .ok (.aload_n 0, 1) := by decide +kernel
theorem dX12_readsHands_1 : decode cX12_readsHands 1 = .ok (.iconst 0, 1) := by decide +kernel
theorem dX12_readsHands_2 : decode cX12_readsHands 2 = .ok (.aload_n 0, 1) := by decide +kernel
theorem dX12_readsHands_3 : decode cX12_readsHands 3 = .ok (.getfield 144, 3) := by decide +kernel
theorem dX12_readsHands_6 : decode cX12_readsHands 6 = .ok (.iconst 1, 1) := by decide +kernel
theorem dX12_readsHands_7 : decode cX12_readsHands 7 = .ok (.isub, 1) := by decide +kernel
theorem dX12_readsHands_8 : decode cX12_readsHands 8 = .ok (.invokevirtual 147, 3) := by decide +kernel
theorem dX12_readsHands_11 : decode cX12_readsHands 11 = .ok (.ifCond .ne 5, 3) := by decide +kernel
theorem dX12_readsHands_14 : decode cX12_readsHands 14 = .ok (.iconst 0, 1) := by decide +kernel
theorem dX12_readsHands_15 : decode cX12_readsHands 15 = .ok (.ireturn, 1) := by decide +kernel
theorem dX12_readsHands_16 : decode cX12_readsHands 16 = .ok (.aload_n 0, 1) := by decide +kernel
theorem dX12_readsHands_17 : decode cX12_readsHands 17 = .ok (.getfield 141, 3) := by decide +kernel
theorem dX12_readsHands_20 : decode cX12_readsHands 20 = .ok (.istore_n 1, 1) := by decide +kernel
theorem dX12_readsHands_21 : decode cX12_readsHands 21 = .ok (.iconst 0, 1) := by decide +kernel
theorem dX12_readsHands_22 : decode cX12_readsHands 22 = .ok (.istore_n 2, 1) := by decide +kernel
theorem dX12_readsHands_23 : decode cX12_readsHands 23 = .ok (.aload_n 0, 1) := by decide +kernel
theorem dX12_readsHands_24 : decode cX12_readsHands 24 = .ok (.invokevirtual 135, 3) := by decide +kernel
theorem dX12_readsHands_27 : decode cX12_readsHands 27 = .ok (.aload_n 0, 1) := by decide +kernel
theorem dX12_readsHands_28 : decode cX12_readsHands 28 = .ok (.invokevirtual 118, 3) := by decide +kernel
theorem dX12_readsHands_31 : decode cX12_readsHands 31 = .ok (.invokestatic 138, 3) := by decide +kernel
theorem dX12_readsHands_34 : decode cX12_readsHands 34 = .ok (.ifCond .eq 55, 3) := by decide +kernel
theorem dX12_readsHands_37 : decode cX12_readsHands 37 = .ok (.aload_n 0, 1) := by decide +kernel
theorem dX12_readsHands_38 : decode cX12_readsHands 38 = .ok (.getfield 115, 3) := by decide +kernel
theorem dX12_readsHands_41 : decode cX12_readsHands 41 = .ok (.istore_n 3, 1) := by decide +kernel
theorem dX12_readsHands_42 : decode cX12_readsHands 42 = .ok (.aload_n 0, 1) := by decide +kernel
theorem dX12_readsHands_43 : decode cX12_readsHands 43 = .ok (.iconst 0, 1) := by decide +kernel
theorem dX12_readsHands_44 : decode cX12_readsHands 44 = .ok (.aload_n 0, 1) := by decide +kernel
theorem dX12_readsHands_45 : decode cX12_readsHands 45 = .ok (.getfield 144, 3) := by decide +kernel
theorem dX12_readsHands_48 : decode cX12_readsHands 48 = .ok (.iconst 1, 1) := by decide +kernel
theorem dX12_readsHands_49 : decode cX12_readsHands 49 = .ok (.isub, 1) := by decide +kernel
theorem dX12_readsHands_50 : decode cX12_readsHands 50 = .ok (.invokevirtual 147, 3) := by decide +kernel
theorem dX12_readsHands_53 : decode cX12_readsHands 53 = .ok (.ifCond .ne 5, 3) := by decide +kernel
theorem dX12_readsHands_56 : decode cX12_readsHands 56 = .ok (.iconst 0, 1) := by decide +kernel
theorem dX12_readsHands_57 : decode cX12_readsHands 57 = .ok (.ireturn, 1) := by decide +kernel
theorem dX12_readsHands_58 : decode cX12_readsHands 58 = .ok (.aload_n 0, 1) := by decide +kernel
theorem dX12_readsHands_59 : decode cX12_readsHands 59 = .ok (.getfield 141, 3) := by decide +kernel
theorem dX12_readsHands_62 : decode cX12_readsHands 62 = .ok (.iload_n 1, 1) := by decide +kernel
theorem dX12_readsHands_63 : decode cX12_readsHands 63 = .ok (.if_icmp .ne 10, 3) := by decide +kernel
theorem dX12_readsHands_66 : decode cX12_readsHands 66 = .ok (.aload_n 0, 1) := by decide +kernel
theorem dX12_readsHands_67 : decode cX12_readsHands 67 = .ok (.iload_n 3, 1) := by decide +kernel
theorem dX12_readsHands_68 : decode cX12_readsHands 68 = .ok (.putfield 115, 3) := by decide +kernel
theorem dX12_readsHands_71 : decode cX12_readsHands 71 = .ok (.iconst 0, 1) := by decide +kernel
theorem dX12_readsHands_72 : decode cX12_readsHands 72 = .ok (.ireturn, 1) := by decide +kernel
theorem dX12_readsHands_73 : decode cX12_readsHands 73 = .ok (.iload_n 2, 1) := by decide +kernel
theorem dX12_readsHands_74 : decode cX12_readsHands 74 = .ok (.iconst 1, 1) := by decide +kernel
theorem dX12_readsHands_75 : decode cX12_readsHands 75 = .ok (.aload_n 0, 1) := by decide +kernel
theorem dX12_readsHands_76 : decode cX12_readsHands 76 = .ok (.getfield 141, 3) := by decide +kernel
theorem dX12_readsHands_79 : decode cX12_readsHands 79 = .ok (.ishl, 1) := by decide +kernel
theorem dX12_readsHands_80 : decode cX12_readsHands 80 = .ok (.ior, 1) := by decide +kernel
theorem dX12_readsHands_81 : decode cX12_readsHands 81 = .ok (.istore_n 2, 1) := by decide +kernel
theorem dX12_readsHands_82 : decode cX12_readsHands 82 = .ok (.aload_n 0, 1) := by decide +kernel
theorem dX12_readsHands_83 : decode cX12_readsHands 83 = .ok (.invokevirtual 135, 3) := by decide +kernel
theorem dX12_readsHands_86 : decode cX12_readsHands 86 = .ok (.goto (-59), 3) := by decide +kernel
theorem dX12_readsHands_89 : decode cX12_readsHands 89 = .ok (.aload_n 0, 1) := by decide +kernel
theorem dX12_readsHands_90 : decode cX12_readsHands 90 = .ok (.getfield 43, 3) := by decide +kernel
theorem dX12_readsHands_93 : decode cX12_readsHands 93 = .ok (.iconst 5, 1) := by decide +kernel
theorem dX12_readsHands_94 : decode cX12_readsHands 94 = .ok (.iload_n 1, 1) := by decide +kernel
theorem dX12_readsHands_95 : decode cX12_readsHands 95 = .ok (.imul, 1) := by decide +kernel
theorem dX12_readsHands_96 : decode cX12_readsHands 96 = .ok (.iconst 4, 1) := by decide +kernel
theorem dX12_readsHands_97 : decode cX12_readsHands 97 = .ok (.iadd, 1) := by decide +kernel
theorem dX12_readsHands_98 : decode cX12_readsHands 98 = .ok (.iload_n 2, 1) := by decide +kernel
theorem dX12_readsHands_99 : decode cX12_readsHands 99 = .ok (.iastore, 1) := by decide +kernel
theorem dX12_readsHands_100 : decode cX12_readsHands 100 = .ok (.aload_n 0, 1) := by decide +kernel
theorem dX12_readsHands_101 : decode cX12_readsHands 101 = .ok (.invokevirtual 151, 3) := by decide +kernel
theorem dX12_readsHands_104 : decode cX12_readsHands 104 = .ok (.ireturn, 1) := by decide +kernel
theorem dX12_readsLie_0 : decode cX12_readsLie 0 = .ok (.aload_n 0, 1) := by decide +kernel
theorem dX12_readsLie_1 : decode cX12_readsLie 1 = .ok (.iconst 0, 1) := by decide +kernel
theorem dX12_readsLie_2 : decode cX12_readsLie 2 = .ok (.aload_n 0, 1) := by decide +kernel
theorem dX12_readsLie_3 : decode cX12_readsLie 3 = .ok (.getfield 144, 3) := by decide +kernel
theorem dX12_readsLie_6 : decode cX12_readsLie 6 = .ok (.iconst 1, 1) := by decide +kernel
theorem dX12_readsLie_7 : decode cX12_readsLie 7 = .ok (.isub, 1) := by decide +kernel
theorem dX12_readsLie_8 : decode cX12_readsLie 8 = .ok (.invokevirtual 147, 3) := by decide +kernel
theorem dX12_readsLie_11 : decode cX12_readsLie 11 = .ok (.ifCond .ne 5, 3) := by decide +kernel
theorem dX12_readsLie_14 : decode cX12_readsLie 14 = .ok (.iconst 0, 1) := by decide +kernel
theorem dX12_readsLie_15 : decode cX12_readsLie 15 = .ok (.ireturn, 1) := by decide +kernel
theorem dX12_readsLie_16 : decode cX12_readsLie 16 = .ok (.aload_n 0, 1) := by decide +kernel
theorem dX12_readsLie_17 : decode cX12_readsLie 17 = .ok (.getfield 141, 3) := by decide +kernel
theorem dX12_readsLie_20 : decode cX12_readsLie 20 = .ok (.istore_n 1, 1) := by decide +kernel
theorem dX12_readsLie_21 : decode cX12_readsLie 21 = .ok (.aload_n 0, 1) := by decide +kernel
theorem dX12_readsLie_22 : decode cX12_readsLie 22 = .ok (.iconst 1, 1) := by decide +kernel
theorem dX12_readsLie_23 : decode cX12_readsLie 23 = .ok (.iconst 4, 1) := by decide +kernel
theorem dX12_readsLie_24 : decode cX12_readsLie 24 = .ok (.invokevirtual 147, 3) := by decide +kernel
theorem dX12_readsLie_27 : decode cX12_readsLie 27 = .ok (.ifCond .ne 5, 3) := by decide +kernel
theorem dX12_readsLie_30 : decode cX12_readsLie 30 = .ok (.iconst 0, 1) := by decide +kernel
theorem dX12_readsLie_31 : decode cX12_readsLie 31 = .ok (.ireturn, 1) := by decide +kernel
theorem dX12_readsLie_32 : decode cX12_readsLie 32 = .ok (.aload_n 0, 1) := by decide +kernel
theorem dX12_readsLie_33 : decode cX12_readsLie 33 = .ok (.getfield 43, 3) := by decide +kernel
theorem dX12_readsLie_36 : decode cX12_readsLie 36 = .ok (.iconst 5, 1) := by decide +kernel
theorem dX12_readsLie_37 : decode cX12_readsLie 37 = .ok (.iload_n 1, 1) := by decide +kernel
theorem dX12_readsLie_38 : decode cX12_readsLie 38 = .ok (.imul, 1) := by decide +kernel
theorem dX12_readsLie_39 : decode cX12_readsLie 39 = .ok (.iaload, 1) := by decide +kernel
theorem dX12_readsLie_40 : decode cX12_readsLie 40 = .ok (.aload_n 0, 1) := by decide +kernel
theorem dX12_readsLie_41 : decode cX12_readsLie 41 = .ok (.getfield 141, 3) := by decide +kernel
theorem dX12_readsLie_44 : decode cX12_readsLie 44 = .ok (.invokestatic 155, 3) := by decide +kernel
theorem dX12_readsLie_47 : decode cX12_readsLie 47 = .ok (.istore_n 2, 1) := by decide +kernel
theorem dX12_readsLie_48 : decode cX12_readsLie 48 = .ok (.aload_n 0, 1) := by decide +kernel
theorem dX12_readsLie_49 : decode cX12_readsLie 49 = .ok (.getfield 43, 3) := by decide +kernel
theorem dX12_readsLie_52 : decode cX12_readsLie 52 = .ok (.iconst 5, 1) := by decide +kernel
theorem dX12_readsLie_53 : decode cX12_readsLie 53 = .ok (.iload_n 1, 1) := by decide +kernel
theorem dX12_readsLie_54 : decode cX12_readsLie 54 = .ok (.imul, 1) := by decide +kernel
theorem dX12_readsLie_55 : decode cX12_readsLie 55 = .ok (.iconst 1, 1) := by decide +kernel
theorem dX12_readsLie_56 : decode cX12_readsLie 56 = .ok (.iadd, 1) := by decide +kernel
theorem dX12_readsLie_57 : decode cX12_readsLie 57 = .ok (.aload_n 0, 1) := by decide +kernel
theorem dX12_readsLie_58 : decode cX12_readsLie 58 = .ok (.getfield 43, 3) := by decide +kernel
theorem dX12_readsLie_61 : decode cX12_readsLie 61 = .ok (.iconst 5, 1) := by decide +kernel
theorem dX12_readsLie_62 : decode cX12_readsLie 62 = .ok (.iload_n 1, 1) := by decide +kernel
theorem dX12_readsLie_63 : decode cX12_readsLie 63 = .ok (.imul, 1) := by decide +kernel
theorem dX12_readsLie_64 : decode cX12_readsLie 64 = .ok (.iconst 1, 1) := by decide +kernel
theorem dX12_readsLie_65 : decode cX12_readsLie 65 = .ok (.iadd, 1) := by decide +kernel
theorem dX12_readsLie_66 : decode cX12_readsLie 66 = .ok (.iaload, 1) := by decide +kernel
theorem dX12_readsLie_67 : decode cX12_readsLie 67 = .ok (.iload_n 2, 1) := by decide +kernel
theorem dX12_readsLie_68 : decode cX12_readsLie 68 = .ok (.if_icmp .ge 7, 3) := by decide +kernel
theorem dX12_readsLie_71 : decode cX12_readsLie 71 = .ok (.iconst 0, 1) := by decide +kernel
theorem dX12_readsLie_72 : decode cX12_readsLie 72 = .ok (.goto 15, 3) := by decide +kernel
theorem dX12_readsLie_75 : decode cX12_readsLie 75 = .ok (.aload_n 0, 1) := by decide +kernel
theorem dX12_readsLie_76 : decode cX12_readsLie 76 = .ok (.getfield 43, 3) := by decide +kernel
theorem dX12_readsLie_79 : decode cX12_readsLie 79 = .ok (.iconst 5, 1) := by decide +kernel
theorem dX12_readsLie_80 : decode cX12_readsLie 80 = .ok (.iload_n 1, 1) := by decide +kernel
theorem dX12_readsLie_81 : decode cX12_readsLie 81 = .ok (.imul, 1) := by decide +kernel
theorem dX12_readsLie_82 : decode cX12_readsLie 82 = .ok (.iconst 1, 1) := by decide +kernel
theorem dX12_readsLie_83 : decode cX12_readsLie 83 = .ok (.iadd, 1) := by decide +kernel
theorem dX12_readsLie_84 : decode cX12_readsLie 84 = .ok (.iaload, 1) := by decide +kernel
theorem dX12_readsLie_85 : decode cX12_readsLie 85 = .ok (.iload_n 2, 1) := by decide +kernel
theorem dX12_readsLie_86 : decode cX12_readsLie 86 = .ok (.isub, 1) := by decide +kernel
theorem dX12_readsLie_87 : decode cX12_readsLie 87 = .ok (.iastore, 1) := by decide +kernel
theorem dX12_readsLie_88 : decode cX12_readsLie 88 = .ok (.aload_n 0, 1) := by decide +kernel
theorem dX12_readsLie_89 : decode cX12_readsLie 89 = .ok (.dup, 1) := by decide +kernel
theorem dX12_readsLie_90 : decode cX12_readsLie 90 = .ok (.getfield 159, 3) := by decide +kernel
theorem dX12_readsLie_93 : decode cX12_readsLie 93 = .ok (.iconst 1, 1) := by decide +kernel
theorem dX12_readsLie_94 : decode cX12_readsLie 94 = .ok (.iload_n 1, 1) := by decide +kernel
theorem dX12_readsLie_95 : decode cX12_readsLie 95 = .ok (.ishl, 1) := by decide +kernel
theorem dX12_readsLie_96 : decode cX12_readsLie 96 = .ok (.ior, 1) := by decide +kernel
theorem dX12_readsLie_97 : decode cX12_readsLie 97 = .ok (.putfield 159, 3) := by decide +kernel
theorem dX12_readsLie_100 : decode cX12_readsLie 100 = .ok (.aload_n 0, 1) := by decide +kernel
theorem dX12_readsLie_101 : decode cX12_readsLie 101 = .ok (.invokevirtual 151, 3) := by decide +kernel
theorem dX12_readsLie_104 : decode cX12_readsLie 104 = .ok (.ireturn, 1) := by decide +kernel
theorem dX12_readsItem_0 : decode cX12_readsItem 0 = .ok (.aload_n 0, 1) := by decide +kernel
theorem dX12_readsItem_1 : decode cX12_readsItem 1 = .ok (.invokevirtual 162, 3) := by decide +kernel
theorem dX12_readsItem_4 : decode cX12_readsItem 4 = .ok (.istore_n 1, 1) := by decide +kernel
theorem dX12_readsItem_5 : decode cX12_readsItem 5 = .ok (.iload_n 1, 1) := by decide +kernel
theorem dX12_readsItem_6 : decode cX12_readsItem 6 = .ok (.iconst 1, 1) := by decide +kernel
theorem dX12_readsItem_7 : decode cX12_readsItem 7 = .ok (.if_icmp .lt 17, 3) := by decide +kernel
theorem dX12_readsItem_10 : decode cX12_readsItem 10 = .ok (.iload_n 1, 1) := by decide +kernel
theorem dX12_readsItem_11 : decode cX12_readsItem 11 = .ok (.iconst 1, 1) := by decide +kernel
theorem dX12_readsItem_12 : decode cX12_readsItem 12 = .ok (.if_icmp .ne 14, 3) := by decide +kernel
theorem dX12_readsItem_15 : decode cX12_readsItem 15 = .ok (.aload_n 0, 1) := by decide +kernel
theorem dX12_readsItem_16 : decode cX12_readsItem 16 = .ok (.getfield 144, 3) := by decide +kernel
theorem dX12_readsItem_19 : decode cX12_readsItem 19 = .ok (.bipush 6, 2) := by decide +kernel
theorem dX12_readsItem_21 : decode cX12_readsItem 21 = .ok (.if_icmp .ne 5, 3) := by decide +kernel
theorem dX12_readsItem_24 : decode cX12_readsItem 24 = .ok (.iconst 0, 1) := by decide +kernel
theorem dX12_readsItem_25 : decode cX12_readsItem 25 = .ok (.ireturn, 1) := by decide +kernel
theorem dX12_readsItem_26 : decode cX12_readsItem 26 = .ok (.aload_n 0, 1) := by decide +kernel
theorem dX12_readsItem_27 : decode cX12_readsItem 27 = .ok (.dup, 1) := by decide +kernel
theorem dX12_readsItem_28 : decode cX12_readsItem 28 = .ok (.getfield 115, 3) := by decide +kernel
theorem dX12_readsItem_31 : decode cX12_readsItem 31 = .ok (.iload_n 1, 1) := by decide +kernel
theorem dX12_readsItem_32 : decode cX12_readsItem 32 = .ok (.iconst 2, 1) := by decide +kernel
theorem dX12_readsItem_33 : decode cX12_readsItem 33 = .ok (.if_icmp .ne 7, 3) := by decide +kernel
theorem dX12_readsItem_36 : decode cX12_readsItem 36 = .ok (.iconst 5, 1) := by decide +kernel
theorem dX12_readsItem_37 : decode cX12_readsItem 37 = .ok (.goto 4, 3) := by decide +kernel
theorem dX12_readsItem_40 : decode cX12_readsItem 40 = .ok (.iconst 3, 1) := by decide +kernel
theorem dX12_readsItem_41 : decode cX12_readsItem 41 = .ok (.iadd, 1) := by decide +kernel
theorem dX12_readsItem_42 : decode cX12_readsItem 42 = .ok (.putfield 115, 3) := by decide +kernel
theorem dX12_readsItem_45 : decode cX12_readsItem 45 = .ok (.iload_n 1, 1) := by decide +kernel
theorem dX12_readsItem_46 : decode cX12_readsItem 46 = .ok (.iconst 1, 1) := by decide +kernel
theorem dX12_readsItem_47 : decode cX12_readsItem 47 = .ok (.if_icmp .ne 10, 3) := by decide +kernel
theorem dX12_readsItem_50 : decode cX12_readsItem 50 = .ok (.aload_n 0, 1) := by decide +kernel
theorem dX12_readsItem_51 : decode cX12_readsItem 51 = .ok (.invokevirtual 165, 3) := by decide +kernel
theorem dX12_readsItem_54 : decode cX12_readsItem 54 = .ok (.goto 19, 3) := by decide +kernel
theorem dX12_readsItem_57 : decode cX12_readsItem 57 = .ok (.iload_n 1, 1) := by decide +kernel
theorem dX12_readsItem_58 : decode cX12_readsItem 58 = .ok (.iconst 2, 1) := by decide +kernel
theorem dX12_readsItem_59 : decode cX12_readsItem 59 = .ok (.if_icmp .ne 10, 3) := by decide +kernel
theorem dX12_readsItem_62 : decode cX12_readsItem 62 = .ok (.aload_n 0, 1) := by decide +kernel
theorem dX12_readsItem_63 : decode cX12_readsItem 63 = .ok (.invokevirtual 168, 3) := by decide +kernel
theorem dX12_readsItem_66 : decode cX12_readsItem 66 = .ok (.goto 7, 3) := by decide +kernel
theorem dX12_readsItem_69 : decode cX12_readsItem 69 = .ok (.aload_n 0, 1) := by decide +kernel
theorem dX12_readsItem_70 : decode cX12_readsItem 70 = .ok (.invokevirtual 171, 3) := by decide +kernel
theorem dX12_readsItem_73 : decode cX12_readsItem 73 = .ok (.ireturn, 1) := by decide +kernel
theorem dX12_readsGold_0 : decode cX12_readsGold 0 = .ok (.aload_n 0, 1) := by decide +kernel
theorem dX12_readsGold_1 : decode cX12_readsGold 1 = .ok (.iconst 0, 1) := by decide +kernel
theorem dX12_readsGold_2 : decode cX12_readsGold 2 = .ok (.putfield 115, 3) := by decide +kernel
theorem dX12_readsGold_5 : decode cX12_readsGold 5 = .ok (.aload_n 0, 1) := by decide +kernel
theorem dX12_readsGold_6 : decode cX12_readsGold 6 = .ok (.iconst 0, 1) := by decide +kernel
theorem dX12_readsGold_7 : decode cX12_readsGold 7 = .ok (.putfield 144, 3) := by decide +kernel
theorem dX12_readsGold_10 : decode cX12_readsGold 10 = .ok (.aload_n 0, 1) := by decide +kernel
theorem dX12_readsGold_11 : decode cX12_readsGold 11 = .ok (.iconst 0, 1) := by decide +kernel
theorem dX12_readsGold_12 : decode cX12_readsGold 12 = .ok (.putfield 159, 3) := by decide +kernel
theorem dX12_readsGold_15 : decode cX12_readsGold 15 = .ok (.aload_n 0, 1) := by decide +kernel
theorem dX12_readsGold_16 : decode cX12_readsGold 16 = .ok (.invokevirtual 135, 3) := by decide +kernel
theorem dX12_readsGold_19 : decode cX12_readsGold 19 = .ok (.aload_n 0, 1) := by decide +kernel
theorem dX12_readsGold_20 : decode cX12_readsGold 20 = .ok (.invokevirtual 162, 3) := by decide +kernel
theorem dX12_readsGold_23 : decode cX12_readsGold 23 = .ok (.ifCond .eq 5, 3) := by decide +kernel
theorem dX12_readsGold_26 : decode cX12_readsGold 26 = .ok (.iconst (-1), 1) := by decide +kernel
theorem dX12_readsGold_27 : decode cX12_readsGold 27 = .ok (.ireturn, 1) := by decide +kernel
theorem dX12_readsGold_28 : decode cX12_readsGold 28 = .ok (.aload_n 0, 1) := by decide +kernel
theorem dX12_readsGold_29 : decode cX12_readsGold 29 = .ok (.dup, 1) := by decide +kernel
theorem dX12_readsGold_30 : decode cX12_readsGold 30 = .ok (.getfield 115, 3) := by decide +kernel
theorem dX12_readsGold_33 : decode cX12_readsGold 33 = .ok (.iconst 4, 1) := by decide +kernel
theorem dX12_readsGold_34 : decode cX12_readsGold 34 = .ok (.iadd, 1) := by decide +kernel
theorem dX12_readsGold_35 : decode cX12_readsGold 35 = .ok (.putfield 115, 3) := by decide +kernel
theorem dX12_readsGold_38 : decode cX12_readsGold 38 = .ok (.aload_n 0, 1) := by decide +kernel
theorem dX12_readsGold_39 : decode cX12_readsGold 39 = .ok (.invokevirtual 151, 3) := by decide +kernel
theorem dX12_readsGold_42 : decode cX12_readsGold 42 = .ok (.ifCond .ne 5, 3) := by decide +kernel
theorem dX12_readsGold_45 : decode cX12_readsGold 45 = .ok (.iconst (-1), 1) := by decide +kernel
theorem dX12_readsGold_46 : decode cX12_readsGold 46 = .ok (.ireturn, 1) := by decide +kernel
theorem dX12_readsGold_47 : decode cX12_readsGold 47 = .ok (.iconst 1, 1) := by decide +kernel
theorem dX12_readsGold_48 : decode cX12_readsGold 48 = .ok (.istore_n 1, 1) := by decide +kernel
theorem dX12_readsGold_49 : decode cX12_readsGold 49 = .ok (.aload_n 0, 1) := by decide +kernel
theorem dX12_readsGold_50 : decode cX12_readsGold 50 = .ok (.invokevirtual 135, 3) := by decide +kernel
theorem dX12_readsGold_53 : decode cX12_readsGold 53 = .ok (.aload_n 0, 1) := by decide +kernel
theorem dX12_readsGold_54 : decode cX12_readsGold 54 = .ok (.getfield 115, 3) := by decide +kernel
theorem dX12_readsGold_57 : decode cX12_readsGold 57 = .ok (.aload_n 0, 1) := by decide +kernel
theorem dX12_readsGold_58 : decode cX12_readsGold 58 = .ok (.getfield 112, 3) := by decide +kernel
theorem dX12_readsGold_61 : decode cX12_readsGold 61 = .ok (.if_icmp .ge 22, 3) := by decide +kernel
theorem dX12_readsGold_64 : decode cX12_readsGold 64 = .ok (.aload_n 0, 1) := by decide +kernel
theorem dX12_readsGold_65 : decode cX12_readsGold 65 = .ok (.invokevirtual 174, 3) := by decide +kernel
theorem dX12_readsGold_68 : decode cX12_readsGold 68 = .ok (.ifCond .ne 5, 3) := by decide +kernel
theorem dX12_readsGold_71 : decode cX12_readsGold 71 = .ok (.iconst (-1), 1) := by decide +kernel
theorem dX12_readsGold_72 : decode cX12_readsGold 72 = .ok (.ireturn, 1) := by decide +kernel
theorem dX12_readsGold_73 : decode cX12_readsGold 73 = .ok (.iinc 1 1, 3) := by decide +kernel
theorem dX12_readsGold_76 : decode cX12_readsGold 76 = .ok (.aload_n 0, 1) := by decide +kernel
theorem dX12_readsGold_77 : decode cX12_readsGold 77 = .ok (.invokevirtual 135, 3) := by decide +kernel
theorem dX12_readsGold_80 : decode cX12_readsGold 80 = .ok (.goto (-27), 3) := by decide +kernel
theorem dX12_readsGold_83 : decode cX12_readsGold 83 = .ok (.iload_n 1, 1) := by decide +kernel
theorem dX12_readsGold_84 : decode cX12_readsGold 84 = .ok (.ireturn, 1) := by decide +kernel
theorem dX12_read_0 : decode cX12_read 0 = .ok (.aload_n 0, 1) := by decide +kernel
theorem dX12_read_1 : decode cX12_read 1 = .ok (.invokevirtual 177, 3) := by decide +kernel
theorem dX12_read_4 : decode cX12_read 4 = .ok (.istore_n 1, 1) := by decide +kernel
theorem dX12_read_5 : decode cX12_read 5 = .ok (.iload_n 1, 1) := by decide +kernel
theorem dX12_read_6 : decode cX12_read 6 = .ok (.ifCond .ge 11, 3) := by decide +kernel
theorem dX12_read_9 : decode cX12_read 9 = .ok (.bipush (-10), 2) := by decide +kernel
theorem dX12_read_11 : decode cX12_read 11 = .ok (.aload_n 0, 1) := by decide +kernel
theorem dX12_read_12 : decode cX12_read 12 = .ok (.getfield 115, 3) := by decide +kernel
theorem dX12_read_15 : decode cX12_read 15 = .ok (.isub, 1) := by decide +kernel
theorem dX12_read_16 : decode cX12_read 16 = .ok (.ireturn, 1) := by decide +kernel
theorem dX12_read_17 : decode cX12_read 17 = .ok (.aload_n 0, 1) := by decide +kernel
theorem dX12_read_18 : decode cX12_read 18 = .ok (.invokevirtual 74, 3) := by decide +kernel
theorem dX12_read_21 : decode cX12_read 21 = .ok (.iconst 0, 1) := by decide +kernel
theorem dX12_read_22 : decode cX12_read 22 = .ok (.istore_n 2, 1) := by decide +kernel
theorem dX12_read_23 : decode cX12_read 23 = .ok (.iload_n 2, 1) := by decide +kernel
theorem dX12_read_24 : decode cX12_read 24 = .ok (.aload_n 0, 1) := by decide +kernel
theorem dX12_read_25 : decode cX12_read 25 = .ok (.getfield 144, 3) := by decide +kernel
theorem dX12_read_28 : decode cX12_read 28 = .ok (.if_icmp .ge 52, 3) := by decide +kernel
theorem dX12_read_31 : decode cX12_read 31 = .ok (.aload_n 0, 1) := by decide +kernel
theorem dX12_read_32 : decode cX12_read 32 = .ok (.aload_n 0, 1) := by decide +kernel
theorem dX12_read_33 : decode cX12_read 33 = .ok (.getfield 43, 3) := by decide +kernel
theorem dX12_read_36 : decode cX12_read 36 = .ok (.iconst 5, 1) := by decide +kernel
theorem dX12_read_37 : decode cX12_read 37 = .ok (.iload_n 2, 1) := by decide +kernel
theorem dX12_read_38 : decode cX12_read 38 = .ok (.imul, 1) := by decide +kernel
theorem dX12_read_39 : decode cX12_read 39 = .ok (.iaload, 1) := by decide +kernel
theorem dX12_read_40 : decode cX12_read 40 = .ok (.aload_n 0, 1) := by decide +kernel
theorem dX12_read_41 : decode cX12_read 41 = .ok (.getfield 43, 3) := by decide +kernel
theorem dX12_read_44 : decode cX12_read 44 = .ok (.iconst 5, 1) := by decide +kernel
theorem dX12_read_45 : decode cX12_read 45 = .ok (.iload_n 2, 1) := by decide +kernel
theorem dX12_read_46 : decode cX12_read 46 = .ok (.imul, 1) := by decide +kernel
theorem dX12_read_47 : decode cX12_read 47 = .ok (.iconst 1, 1) := by decide +kernel
theorem dX12_read_48 : decode cX12_read 48 = .ok (.iadd, 1) := by decide +kernel
theorem dX12_read_49 : decode cX12_read 49 = .ok (.iaload, 1) := by decide +kernel
theorem dX12_read_50 : decode cX12_read 50 = .ok (.aload_n 0, 1) := by decide +kernel
theorem dX12_read_51 : decode cX12_read 51 = .ok (.getfield 43, 3) := by decide +kernel
theorem dX12_read_54 : decode cX12_read 54 = .ok (.iconst 5, 1) := by decide +kernel
theorem dX12_read_55 : decode cX12_read 55 = .ok (.iload_n 2, 1) := by decide +kernel
theorem dX12_read_56 : decode cX12_read 56 = .ok (.imul, 1) := by decide +kernel
theorem dX12_read_57 : decode cX12_read 57 = .ok (.iconst 2, 1) := by decide +kernel
theorem dX12_read_58 : decode cX12_read 58 = .ok (.iadd, 1) := by decide +kernel
theorem dX12_read_59 : decode cX12_read 59 = .ok (.iaload, 1) := by decide +kernel
theorem dX12_read_60 : decode cX12_read 60 = .ok (.aload_n 0, 1) := by decide +kernel
theorem dX12_read_61 : decode cX12_read 61 = .ok (.getfield 43, 3) := by decide +kernel
theorem dX12_read_64 : decode cX12_read 64 = .ok (.iconst 5, 1) := by decide +kernel
theorem dX12_read_65 : decode cX12_read 65 = .ok (.iload_n 2, 1) := by decide +kernel
theorem dX12_read_66 : decode cX12_read 66 = .ok (.imul, 1) := by decide +kernel
theorem dX12_read_67 : decode cX12_read 67 = .ok (.iconst 3, 1) := by decide +kernel
theorem dX12_read_68 : decode cX12_read 68 = .ok (.iadd, 1) := by decide +kernel
theorem dX12_read_69 : decode cX12_read 69 = .ok (.iaload, 1) := by decide +kernel
theorem dX12_read_70 : decode cX12_read 70 = .ok (.invokevirtual 104, 3) := by decide +kernel
theorem dX12_read_73 : decode cX12_read 73 = .ok (.pop, 1) := by decide +kernel
theorem dX12_read_74 : decode cX12_read 74 = .ok (.iinc 2 1, 3) := by decide +kernel
theorem dX12_read_77 : decode cX12_read 77 = .ok (.goto (-54), 3) := by decide +kernel
theorem dX12_read_80 : decode cX12_read 80 = .ok (.iconst 0, 1) := by decide +kernel
theorem dX12_read_81 : decode cX12_read 81 = .ok (.istore_n 2, 1) := by decide +kernel
theorem dX12_read_82 : decode cX12_read 82 = .ok (.iload_n 2, 1) := by decide +kernel
theorem dX12_read_83 : decode cX12_read 83 = .ok (.aload_n 0, 1) := by decide +kernel
theorem dX12_read_84 : decode cX12_read 84 = .ok (.getfield 144, 3) := by decide +kernel
theorem dX12_read_87 : decode cX12_read 87 = .ok (.if_icmp .ge 25, 3) := by decide +kernel
theorem dX12_read_90 : decode cX12_read 90 = .ok (.aload_n 0, 1) := by decide +kernel
theorem dX12_read_91 : decode cX12_read 91 = .ok (.getfield 25, 3) := by decide +kernel
theorem dX12_read_94 : decode cX12_read 94 = .ok (.iload_n 2, 1) := by decide +kernel
theorem dX12_read_95 : decode cX12_read 95 = .ok (.aload_n 0, 1) := by decide +kernel
theorem dX12_read_96 : decode cX12_read 96 = .ok (.getfield 43, 3) := by decide +kernel
theorem dX12_read_99 : decode cX12_read 99 = .ok (.iconst 5, 1) := by decide +kernel
theorem dX12_read_100 : decode cX12_read 100 = .ok (.iload_n 2, 1) := by decide +kernel
theorem dX12_read_101 : decode cX12_read 101 = .ok (.imul, 1) := by decide +kernel
theorem dX12_read_102 : decode cX12_read 102 = .ok (.iconst 4, 1) := by decide +kernel
theorem dX12_read_103 : decode cX12_read 103 = .ok (.iadd, 1) := by decide +kernel
theorem dX12_read_104 : decode cX12_read 104 = .ok (.iaload, 1) := by decide +kernel
theorem dX12_read_105 : decode cX12_read 105 = .ok (.iastore, 1) := by decide +kernel
theorem dX12_read_106 : decode cX12_read 106 = .ok (.iinc 2 1, 3) := by decide +kernel
theorem dX12_read_109 : decode cX12_read 109 = .ok (.goto (-27), 3) := by decide +kernel
theorem dX12_read_112 : decode cX12_read 112 = .ok (.aload_n 0, 1) := by decide +kernel
theorem dX12_read_113 : decode cX12_read 113 = .ok (.aload_n 0, 1) := by decide +kernel
theorem dX12_read_114 : decode cX12_read 114 = .ok (.getfield 159, 3) := by decide +kernel
theorem dX12_read_117 : decode cX12_read 117 = .ok (.putfield 84, 3) := by decide +kernel
theorem dX12_read_120 : decode cX12_read 120 = .ok (.iload_n 1, 1) := by decide +kernel
theorem dX12_read_121 : decode cX12_read 121 = .ok (.ireturn, 1) := by decide +kernel
theorem dX12_weightBy_0 : decode cX12_weightBy 0 = .ok (.iload_n 0, 1) := by decide +kernel
theorem dX12_weightBy_1 : decode cX12_weightBy 1 = .ok (.tableswitch 79 1 5 #[35, 40, 46, 52, 68], 35) := by decide +kernel
theorem dX12_weightBy_36 : decode cX12_weightBy 36 = .ok (.bipush 12, 2) := by decide +kernel
theorem dX12_weightBy_38 : decode cX12_weightBy 38 = .ok (.iload_n 1, 1) := by decide +kernel
theorem dX12_weightBy_39 : decode cX12_weightBy 39 = .ok (.imul, 1) := by decide +kernel
theorem dX12_weightBy_40 : decode cX12_weightBy 40 = .ok (.ireturn, 1) := by decide +kernel
theorem dX12_weightBy_41 : decode cX12_weightBy 41 = .ok (.iload_n 1, 1) := by decide +kernel
theorem dX12_weightBy_42 : decode cX12_weightBy 42 = .ok (.iload_n 2, 1) := by decide +kernel
theorem dX12_weightBy_43 : decode cX12_weightBy 43 = .ok (.imul, 1) := by decide +kernel
theorem dX12_weightBy_44 : decode cX12_weightBy 44 = .ok (.iconst 2, 1) := by decide +kernel
theorem dX12_weightBy_45 : decode cX12_weightBy 45 = .ok (.idiv, 1) := by decide +kernel
theorem dX12_weightBy_46 : decode cX12_weightBy 46 = .ok (.ireturn, 1) := by decide +kernel
theorem dX12_weightBy_47 : decode cX12_weightBy 47 = .ok (.iload_n 1, 1) := by decide +kernel
theorem dX12_weightBy_48 : decode cX12_weightBy 48 = .ok (.iload_n 2, 1) := by decide +kernel
theorem dX12_weightBy_49 : decode cX12_weightBy 49 = .ok (.imul, 1) := by decide +kernel
theorem dX12_weightBy_50 : decode cX12_weightBy 50 = .ok (.iload_n 1, 1) := by decide +kernel
theorem dX12_weightBy_51 : decode cX12_weightBy 51 = .ok (.iadd, 1) := by decide +kernel
theorem dX12_weightBy_52 : decode cX12_weightBy 52 = .ok (.ireturn, 1) := by decide +kernel
theorem dX12_weightBy_53 : decode cX12_weightBy 53 = .ok (.iload_n 3, 1) := by decide +kernel
theorem dX12_weightBy_54 : decode cX12_weightBy 54 = .ok (.iconst 3, 1) := by decide +kernel
theorem dX12_weightBy_55 : decode cX12_weightBy 55 = .ok (.irem, 1) := by decide +kernel
theorem dX12_weightBy_56 : decode cX12_weightBy 56 = .ok (.ifCond .ne 7, 3) := by decide +kernel
theorem dX12_weightBy_59 : decode cX12_weightBy 59 = .ok (.iconst 0, 1) := by decide +kernel
theorem dX12_weightBy_60 : decode cX12_weightBy 60 = .ok (.goto 8, 3) := by decide +kernel
theorem dX12_weightBy_63 : decode cX12_weightBy 63 = .ok (.iload_n 1, 1) := by decide +kernel
theorem dX12_weightBy_64 : decode cX12_weightBy 64 = .ok (.iload_n 2, 1) := by decide +kernel
theorem dX12_weightBy_65 : decode cX12_weightBy 65 = .ok (.imul, 1) := by decide +kernel
theorem dX12_weightBy_66 : decode cX12_weightBy 66 = .ok (.iconst 2, 1) := by decide +kernel
theorem dX12_weightBy_67 : decode cX12_weightBy 67 = .ok (.idiv, 1) := by decide +kernel
theorem dX12_weightBy_68 : decode cX12_weightBy 68 = .ok (.ireturn, 1) := by decide +kernel
theorem dX12_weightBy_69 : decode cX12_weightBy 69 = .ok (.bipush 60, 2) := by decide +kernel
theorem dX12_weightBy_71 : decode cX12_weightBy 71 = .ok (.iload_n 1, 1) := by decide +kernel
theorem dX12_weightBy_72 : decode cX12_weightBy 72 = .ok (.iload_n 2, 1) := by decide +kernel
theorem dX12_weightBy_73 : decode cX12_weightBy 73 = .ok (.imul, 1) := by decide +kernel
theorem dX12_weightBy_74 : decode cX12_weightBy 74 = .ok (.iload_n 1, 1) := by decide +kernel
theorem dX12_weightBy_75 : decode cX12_weightBy 75 = .ok (.iadd, 1) := by decide +kernel
theorem dX12_weightBy_76 : decode cX12_weightBy 76 = .ok (.invokestatic 180, 3) := by decide +kernel
theorem dX12_weightBy_79 : decode cX12_weightBy 79 = .ok (.ireturn, 1) := by decide +kernel
theorem dX12_weightBy_80 : decode cX12_weightBy 80 = .ok (.iload_n 1, 1) := by decide +kernel
theorem dX12_weightBy_81 : decode cX12_weightBy 81 = .ok (.iload_n 2, 1) := by decide +kernel
theorem dX12_weightBy_82 : decode cX12_weightBy 82 = .ok (.imul, 1) := by decide +kernel
theorem dX12_weightBy_83 : decode cX12_weightBy 83 = .ok (.ireturn, 1) := by decide +kernel
theorem dX12_lieBy_0 : decode cX12_lieBy 0 = .ok (.iload_n 0, 1) := by decide +kernel
theorem dX12_lieBy_1 : decode cX12_lieBy 1 = .ok (.tableswitch 59 1 5 #[35, 39, 45, 49, 55], 35) := by decide +kernel
theorem dX12_lieBy_36 : decode cX12_lieBy 36 = .ok (.iload_n 1, 1) := by decide +kernel
theorem dX12_lieBy_37 : decode cX12_lieBy 37 = .ok (.iconst 1, 1) := by decide +kernel
theorem dX12_lieBy_38 : decode cX12_lieBy 38 = .ok (.iadd, 1) := by decide +kernel
theorem dX12_lieBy_39 : decode cX12_lieBy 39 = .ok (.ireturn, 1) := by decide +kernel
theorem dX12_lieBy_40 : decode cX12_lieBy 40 = .ok (.iload_n 1, 1) := by decide +kernel
theorem dX12_lieBy_41 : decode cX12_lieBy 41 = .ok (.iconst 1, 1) := by decide +kernel
theorem dX12_lieBy_42 : decode cX12_lieBy 42 = .ok (.iadd, 1) := by decide +kernel
theorem dX12_lieBy_43 : decode cX12_lieBy 43 = .ok (.iconst 2, 1) := by decide +kernel
theorem dX12_lieBy_44 : decode cX12_lieBy 44 = .ok (.idiv, 1) := by decide +kernel
theorem dX12_lieBy_45 : decode cX12_lieBy 45 = .ok (.ireturn, 1) := by decide +kernel
theorem dX12_lieBy_46 : decode cX12_lieBy 46 = .ok (.iconst 2, 1) := by decide +kernel
theorem dX12_lieBy_47 : decode cX12_lieBy 47 = .ok (.iload_n 1, 1) := by decide +kernel
theorem dX12_lieBy_48 : decode cX12_lieBy 48 = .ok (.imul, 1) := by decide +kernel
theorem dX12_lieBy_49 : decode cX12_lieBy 49 = .ok (.ireturn, 1) := by decide +kernel
theorem dX12_lieBy_50 : decode cX12_lieBy 50 = .ok (.iload_n 1, 1) := by decide +kernel
theorem dX12_lieBy_51 : decode cX12_lieBy 51 = .ok (.iconst 1, 1) := by decide +kernel
theorem dX12_lieBy_52 : decode cX12_lieBy 52 = .ok (.iadd, 1) := by decide +kernel
theorem dX12_lieBy_53 : decode cX12_lieBy 53 = .ok (.iconst 2, 1) := by decide +kernel
theorem dX12_lieBy_54 : decode cX12_lieBy 54 = .ok (.idiv, 1) := by decide +kernel
theorem dX12_lieBy_55 : decode cX12_lieBy 55 = .ok (.ireturn, 1) := by decide +kernel
theorem dX12_lieBy_56 : decode cX12_lieBy 56 = .ok (.iconst 2, 1) := by decide +kernel
theorem dX12_lieBy_57 : decode cX12_lieBy 57 = .ok (.iload_n 1, 1) := by decide +kernel
theorem dX12_lieBy_58 : decode cX12_lieBy 58 = .ok (.imul, 1) := by decide +kernel
theorem dX12_lieBy_59 : decode cX12_lieBy 59 = .ok (.ireturn, 1) := by decide +kernel
theorem dX12_lieBy_60 : decode cX12_lieBy 60 = .ok (.iload_n 1, 1) := by decide +kernel
theorem dX12_lieBy_61 : decode cX12_lieBy 61 = .ok (.ireturn, 1) := by decide +kernel
theorem dX12_weight_0 : decode cX12_weight 0 = .ok (.aload_n 0, 1) := by decide +kernel
theorem dX12_weight_1 : decode cX12_weight 1 = .ok (.getfield 13, 3) := by decide +kernel
theorem dX12_weight_4 : decode cX12_weight 4 = .ok (.iload_n 1, 1) := by decide +kernel
theorem dX12_weight_5 : decode cX12_weight 5 = .ok (.iaload, 1) := by decide +kernel
theorem dX12_weight_6 : decode cX12_weight 6 = .ok (.iload_n 2, 1) := by decide +kernel
theorem dX12_weight_7 : decode cX12_weight 7 = .ok (.aload_n 0, 1) := by decide +kernel
theorem dX12_weight_8 : decode cX12_weight 8 = .ok (.getfield 16, 3) := by decide +kernel
theorem dX12_weight_11 : decode cX12_weight 11 = .ok (.iload_n 1, 1) := by decide +kernel
theorem dX12_weight_12 : decode cX12_weight 12 = .ok (.iaload, 1) := by decide +kernel
theorem dX12_weight_13 : decode cX12_weight 13 = .ok (.aload_n 0, 1) := by decide +kernel
theorem dX12_weight_14 : decode cX12_weight 14 = .ok (.getfield 81, 3) := by decide +kernel
theorem dX12_weight_17 : decode cX12_weight 17 = .ok (.invokestatic 183, 3) := by decide +kernel
theorem dX12_weight_20 : decode cX12_weight 20 = .ok (.ireturn, 1) := by decide +kernel
theorem dX12_ownWeight_0 : decode cX12_ownWeight 0 = .ok (.aload_n 0, 1) := by decide +kernel
theorem dX12_ownWeight_1 : decode cX12_ownWeight 1 = .ok (.iload_n 1, 1) := by decide +kernel
theorem dX12_ownWeight_2 : decode cX12_ownWeight 2 = .ok (.aload_n 0, 1) := by decide +kernel
theorem dX12_ownWeight_3 : decode cX12_ownWeight 3 = .ok (.getfield 19, 3) := by decide +kernel
theorem dX12_ownWeight_6 : decode cX12_ownWeight 6 = .ok (.iload_n 1, 1) := by decide +kernel
theorem dX12_ownWeight_7 : decode cX12_ownWeight 7 = .ok (.iaload, 1) := by decide +kernel
theorem dX12_ownWeight_8 : decode cX12_ownWeight 8 = .ok (.invokevirtual 186, 3) := by decide +kernel
theorem dX12_ownWeight_11 : decode cX12_ownWeight 11 = .ok (.ireturn, 1) := by decide +kernel
theorem dX12_honestBehind_0 : decode cX12_honestBehind 0 = .ok (.aload_n 0, 1) := by decide +kernel
theorem dX12_honestBehind_1 : decode cX12_honestBehind 1 = .ok (.getfield 13, 3) := by decide +kernel
theorem dX12_honestBehind_4 : decode cX12_honestBehind 4 = .ok (.iload_n 1, 1) := by decide +kernel
theorem dX12_honestBehind_5 : decode cX12_honestBehind 5 = .ok (.iaload, 1) := by decide +kernel
theorem dX12_honestBehind_6 : decode cX12_honestBehind 6 = .ok (.iload_n 2, 1) := by decide +kernel
theorem dX12_honestBehind_7 : decode cX12_honestBehind 7 = .ok (.invokestatic 155, 3) := by decide +kernel
theorem dX12_honestBehind_10 : decode cX12_honestBehind 10 = .ok (.istore_n 3, 1) := by decide +kernel
theorem dX12_honestBehind_11 : decode cX12_honestBehind 11 = .ok (.aload_n 0, 1) := by decide +kernel
theorem dX12_honestBehind_12 : decode cX12_honestBehind 12 = .ok (.getfield 16, 3) := by decide +kernel
theorem dX12_honestBehind_15 : decode cX12_honestBehind 15 = .ok (.iload_n 1, 1) := by decide +kernel
theorem dX12_honestBehind_16 : decode cX12_honestBehind 16 = .ok (.iaload, 1) := by decide +kernel
theorem dX12_honestBehind_17 : decode cX12_honestBehind 17 = .ok (.iload_n 3, 1) := by decide +kernel
theorem dX12_honestBehind_18 : decode cX12_honestBehind 18 = .ok (.if_icmp .ge 7, 3) := by decide +kernel
theorem dX12_honestBehind_21 : decode cX12_honestBehind 21 = .ok (.iconst 0, 1) := by decide +kernel
theorem dX12_honestBehind_22 : decode cX12_honestBehind 22 = .ok (.goto 11, 3) := by decide +kernel
theorem dX12_honestBehind_25 : decode cX12_honestBehind 25 = .ok (.aload_n 0, 1) := by decide +kernel
theorem dX12_honestBehind_26 : decode cX12_honestBehind 26 = .ok (.getfield 16, 3) := by decide +kernel
theorem dX12_honestBehind_29 : decode cX12_honestBehind 29 = .ok (.iload_n 1, 1) := by decide +kernel
theorem dX12_honestBehind_30 : decode cX12_honestBehind 30 = .ok (.iaload, 1) := by decide +kernel
theorem dX12_honestBehind_31 : decode cX12_honestBehind 31 = .ok (.iload_n 3, 1) := by decide +kernel
theorem dX12_honestBehind_32 : decode cX12_honestBehind 32 = .ok (.isub, 1) := by decide +kernel
theorem dX12_honestBehind_33 : decode cX12_honestBehind 33 = .ok (.ireturn, 1) := by decide +kernel
theorem dX12_lays_0 : decode cX12_lays 0 = .ok (.aload_n 1, 1) := by decide +kernel
theorem dX12_lays_1 : decode cX12_lays 1 = .ok (.iload_n 2, 1) := by decide +kernel
theorem dX12_lays_2 : decode cX12_lays 2 = .ok (.aload_n 0, 1) := by decide +kernel
theorem dX12_lays_3 : decode cX12_lays 3 = .ok (.getfield 81, 3) := by decide +kernel
theorem dX12_lays_6 : decode cX12_lays 6 = .ok (.iastore, 1) := by decide +kernel
theorem dX12_lays_7 : decode cX12_lays 7 = .ok (.aload_n 1, 1) := by decide +kernel
theorem dX12_lays_8 : decode cX12_lays 8 = .ok (.iload_n 2, 1) := by decide +kernel
theorem dX12_lays_9 : decode cX12_lays 9 = .ok (.iconst 1, 1) := by decide +kernel
theorem dX12_lays_10 : decode cX12_lays 10 = .ok (.iadd, 1) := by decide +kernel
theorem dX12_lays_11 : decode cX12_lays 11 = .ok (.aload_n 0, 1) := by decide +kernel
theorem dX12_lays_12 : decode cX12_lays 12 = .ok (.getfield 84, 3) := by decide +kernel
theorem dX12_lays_15 : decode cX12_lays 15 = .ok (.iastore, 1) := by decide +kernel
theorem dX12_lays_16 : decode cX12_lays 16 = .ok (.iconst 0, 1) := by decide +kernel
theorem dX12_lays_17 : decode cX12_lays 17 = .ok (.istore_n 3, 1) := by decide +kernel
theorem dX12_lays_18 : decode cX12_lays 18 = .ok (.iload_n 3, 1) := by decide +kernel
theorem dX12_lays_19 : decode cX12_lays 19 = .ok (.bipush 6, 2) := by decide +kernel
theorem dX12_lays_21 : decode cX12_lays 21 = .ok (.if_icmp .ge 36, 3) := by decide +kernel
theorem dX12_lays_24 : decode cX12_lays 24 = .ok (.aload_n 1, 1) := by decide +kernel
theorem dX12_lays_25 : decode cX12_lays 25 = .ok (.iload_n 2, 1) := by decide +kernel
theorem dX12_lays_26 : decode cX12_lays 26 = .ok (.iconst 2, 1) := by decide +kernel
theorem dX12_lays_27 : decode cX12_lays 27 = .ok (.iadd, 1) := by decide +kernel
theorem dX12_lays_28 : decode cX12_lays 28 = .ok (.iload_n 3, 1) := by decide +kernel
theorem dX12_lays_29 : decode cX12_lays 29 = .ok (.iadd, 1) := by decide +kernel
theorem dX12_lays_30 : decode cX12_lays 30 = .ok (.aload_n 0, 1) := by decide +kernel
theorem dX12_lays_31 : decode cX12_lays 31 = .ok (.getfield 16, 3) := by decide +kernel
theorem dX12_lays_34 : decode cX12_lays 34 = .ok (.iload_n 3, 1) := by decide +kernel
theorem dX12_lays_35 : decode cX12_lays 35 = .ok (.iaload, 1) := by decide +kernel
theorem dX12_lays_36 : decode cX12_lays 36 = .ok (.iastore, 1) := by decide +kernel
theorem dX12_lays_37 : decode cX12_lays 37 = .ok (.aload_n 1, 1) := by decide +kernel
theorem dX12_lays_38 : decode cX12_lays 38 = .ok (.iload_n 2, 1) := by decide +kernel
theorem dX12_lays_39 : decode cX12_lays 39 = .ok (.bipush 8, 2) := by decide +kernel
theorem dX12_lays_41 : decode cX12_lays 41 = .ok (.iadd, 1) := by decide +kernel
theorem dX12_lays_42 : decode cX12_lays 42 = .ok (.iload_n 3, 1) := by decide +kernel
theorem dX12_lays_43 : decode cX12_lays 43 = .ok (.iadd, 1) := by decide +kernel
theorem dX12_lays_44 : decode cX12_lays 44 = .ok (.aload_n 0, 1) := by decide +kernel
theorem dX12_lays_45 : decode cX12_lays 45 = .ok (.getfield 19, 3) := by decide +kernel
theorem dX12_lays_48 : decode cX12_lays 48 = .ok (.iload_n 3, 1) := by decide +kernel
theorem dX12_lays_49 : decode cX12_lays 49 = .ok (.iaload, 1) := by decide +kernel
theorem dX12_lays_50 : decode cX12_lays 50 = .ok (.iastore, 1) := by decide +kernel
theorem dX12_lays_51 : decode cX12_lays 51 = .ok (.iinc 3 1, 3) := by decide +kernel
theorem dX12_lays_54 : decode cX12_lays 54 = .ok (.goto (-36), 3) := by decide +kernel
theorem dX12_lays_57 : decode cX12_lays 57 = .ok (.return_, 1) := by decide +kernel
theorem dX12_takes_0 : decode cX12_takes 0 = .ok (.aload_n 0, 1) := by decide +kernel
theorem dX12_takes_1 : decode cX12_takes 1 = .ok (.aload_n 1, 1) := by decide +kernel
theorem dX12_takes_2 : decode cX12_takes 2 = .ok (.iload_n 2, 1) := by decide +kernel
theorem dX12_takes_3 : decode cX12_takes 3 = .ok (.iaload, 1) := by decide +kernel
theorem dX12_takes_4 : decode cX12_takes 4 = .ok (.putfield 81, 3) := by decide +kernel
theorem dX12_takes_7 : decode cX12_takes 7 = .ok (.aload_n 0, 1) := by decide +kernel
theorem dX12_takes_8 : decode cX12_takes 8 = .ok (.aload_n 1, 1) := by decide +kernel
theorem dX12_takes_9 : decode cX12_takes 9 = .ok (.iload_n 2, 1) := by decide +kernel
theorem dX12_takes_10 : decode cX12_takes 10 = .ok (.iconst 1, 1) := by decide +kernel
theorem dX12_takes_11 : decode cX12_takes 11 = .ok (.iadd, 1) := by decide +kernel
theorem dX12_takes_12 : decode cX12_takes 12 = .ok (.iaload, 1) := by decide +kernel
theorem dX12_takes_13 : decode cX12_takes 13 = .ok (.putfield 84, 3) := by decide +kernel
theorem dX12_takes_16 : decode cX12_takes 16 = .ok (.iconst 0, 1) := by decide +kernel
theorem dX12_takes_17 : decode cX12_takes 17 = .ok (.istore_n 3, 1) := by decide +kernel
theorem dX12_takes_18 : decode cX12_takes 18 = .ok (.iload_n 3, 1) := by decide +kernel
theorem dX12_takes_19 : decode cX12_takes 19 = .ok (.bipush 6, 2) := by decide +kernel
theorem dX12_takes_21 : decode cX12_takes 21 = .ok (.if_icmp .ge 36, 3) := by decide +kernel
theorem dX12_takes_24 : decode cX12_takes 24 = .ok (.aload_n 0, 1) := by decide +kernel
theorem dX12_takes_25 : decode cX12_takes 25 = .ok (.getfield 16, 3) := by decide +kernel
theorem dX12_takes_28 : decode cX12_takes 28 = .ok (.iload_n 3, 1) := by decide +kernel
theorem dX12_takes_29 : decode cX12_takes 29 = .ok (.aload_n 1, 1) := by decide +kernel
theorem dX12_takes_30 : decode cX12_takes 30 = .ok (.iload_n 2, 1) := by decide +kernel
theorem dX12_takes_31 : decode cX12_takes 31 = .ok (.iconst 2, 1) := by decide +kernel
theorem dX12_takes_32 : decode cX12_takes 32 = .ok (.iadd, 1) := by decide +kernel
theorem dX12_takes_33 : decode cX12_takes 33 = .ok (.iload_n 3, 1) := by decide +kernel
theorem dX12_takes_34 : decode cX12_takes 34 = .ok (.iadd, 1) := by decide +kernel
theorem dX12_takes_35 : decode cX12_takes 35 = .ok (.iaload, 1) := by decide +kernel
theorem dX12_takes_36 : decode cX12_takes 36 = .ok (.iastore, 1) := by decide +kernel
theorem dX12_takes_37 : decode cX12_takes 37 = .ok (.aload_n 0, 1) := by decide +kernel
theorem dX12_takes_38 : decode cX12_takes 38 = .ok (.getfield 19, 3) := by decide +kernel
theorem dX12_takes_41 : decode cX12_takes 41 = .ok (.iload_n 3, 1) := by decide +kernel
theorem dX12_takes_42 : decode cX12_takes 42 = .ok (.aload_n 1, 1) := by decide +kernel
theorem dX12_takes_43 : decode cX12_takes 43 = .ok (.iload_n 2, 1) := by decide +kernel
theorem dX12_takes_44 : decode cX12_takes 44 = .ok (.bipush 8, 2) := by decide +kernel
theorem dX12_takes_46 : decode cX12_takes 46 = .ok (.iadd, 1) := by decide +kernel
theorem dX12_takes_47 : decode cX12_takes 47 = .ok (.iload_n 3, 1) := by decide +kernel
theorem dX12_takes_48 : decode cX12_takes 48 = .ok (.iadd, 1) := by decide +kernel
theorem dX12_takes_49 : decode cX12_takes 49 = .ok (.iaload, 1) := by decide +kernel
theorem dX12_takes_50 : decode cX12_takes 50 = .ok (.iastore, 1) := by decide +kernel
theorem dX12_takes_51 : decode cX12_takes 51 = .ok (.iinc 3 1, 3) := by decide +kernel
theorem dX12_takes_54 : decode cX12_takes 54 = .ok (.goto (-36), 3) := by decide +kernel
theorem dX12_takes_57 : decode cX12_takes 57 = .ok (.return_, 1) := by decide +kernel
theorem dX12_notes_0 : decode cX12_notes 0 = .ok (.aload_n 0, 1) := by decide +kernel
theorem dX12_notes_1 : decode cX12_notes 1 = .ok (.getfield 90, 3) := by decide +kernel
theorem dX12_notes_4 : decode cX12_notes 4 = .ok (.bipush 8, 2) := by decide +kernel
theorem dX12_notes_6 : decode cX12_notes 6 = .ok (.if_icmp .ne 42, 3) := by decide +kernel
theorem dX12_notes_9 : decode cX12_notes 9 = .ok (.iconst 0, 1) := by decide +kernel
theorem dX12_notes_10 : decode cX12_notes 10 = .ok (.istore_n 1, 1) := by decide +kernel
theorem dX12_notes_11 : decode cX12_notes 11 = .ok (.iload_n 1, 1) := by decide +kernel
theorem dX12_notes_12 : decode cX12_notes 12 = .ok (.bipush 98, 2) := by decide +kernel
theorem dX12_notes_14 : decode cX12_notes 14 = .ok (.if_icmp .ge 24, 3) := by decide +kernel
theorem dX12_notes_17 : decode cX12_notes 17 = .ok (.aload_n 0, 1) := by decide +kernel
theorem dX12_notes_18 : decode cX12_notes 18 = .ok (.getfield 46, 3) := by decide +kernel
theorem dX12_notes_21 : decode cX12_notes 21 = .ok (.iload_n 1, 1) := by decide +kernel
theorem dX12_notes_22 : decode cX12_notes 22 = .ok (.aload_n 0, 1) := by decide +kernel
theorem dX12_notes_23 : decode cX12_notes 23 = .ok (.getfield 46, 3) := by decide +kernel
theorem dX12_notes_26 : decode cX12_notes 26 = .ok (.iload_n 1, 1) := by decide +kernel
theorem dX12_notes_27 : decode cX12_notes 27 = .ok (.bipush 14, 2) := by decide +kernel
theorem dX12_notes_29 : decode cX12_notes 29 = .ok (.iadd, 1) := by decide +kernel
theorem dX12_notes_30 : decode cX12_notes 30 = .ok (.iaload, 1) := by decide +kernel
theorem dX12_notes_31 : decode cX12_notes 31 = .ok (.iastore, 1) := by decide +kernel
theorem dX12_notes_32 : decode cX12_notes 32 = .ok (.iinc 1 1, 3) := by decide +kernel
theorem dX12_notes_35 : decode cX12_notes 35 = .ok (.goto (-24), 3) := by decide +kernel
theorem dX12_notes_38 : decode cX12_notes 38 = .ok (.aload_n 0, 1) := by decide +kernel
theorem dX12_notes_39 : decode cX12_notes 39 = .ok (.dup, 1) := by decide +kernel
theorem dX12_notes_40 : decode cX12_notes 40 = .ok (.getfield 90, 3) := by decide +kernel
theorem dX12_notes_43 : decode cX12_notes 43 = .ok (.iconst 1, 1) := by decide +kernel
theorem dX12_notes_44 : decode cX12_notes 44 = .ok (.isub, 1) := by decide +kernel
theorem dX12_notes_45 : decode cX12_notes 45 = .ok (.putfield 90, 3) := by decide +kernel
theorem dX12_notes_48 : decode cX12_notes 48 = .ok (.aload_n 0, 1) := by decide +kernel
theorem dX12_notes_49 : decode cX12_notes 49 = .ok (.aload_n 0, 1) := by decide +kernel
theorem dX12_notes_50 : decode cX12_notes 50 = .ok (.getfield 46, 3) := by decide +kernel
theorem dX12_notes_53 : decode cX12_notes 53 = .ok (.bipush 14, 2) := by decide +kernel
theorem dX12_notes_55 : decode cX12_notes 55 = .ok (.aload_n 0, 1) := by decide +kernel
theorem dX12_notes_56 : decode cX12_notes 56 = .ok (.getfield 90, 3) := by decide +kernel
theorem dX12_notes_59 : decode cX12_notes 59 = .ok (.imul, 1) := by decide +kernel
theorem dX12_notes_60 : decode cX12_notes 60 = .ok (.invokevirtual 189, 3) := by decide +kernel
theorem dX12_notes_63 : decode cX12_notes 63 = .ok (.aload_n 0, 1) := by decide +kernel
theorem dX12_notes_64 : decode cX12_notes 64 = .ok (.dup, 1) := by decide +kernel
theorem dX12_notes_65 : decode cX12_notes 65 = .ok (.getfield 90, 3) := by decide +kernel
theorem dX12_notes_68 : decode cX12_notes 68 = .ok (.iconst 1, 1) := by decide +kernel
theorem dX12_notes_69 : decode cX12_notes 69 = .ok (.iadd, 1) := by decide +kernel
theorem dX12_notes_70 : decode cX12_notes 70 = .ok (.putfield 90, 3) := by decide +kernel
theorem dX12_notes_73 : decode cX12_notes 73 = .ok (.return_, 1) := by decide +kernel
theorem dX12_puts_0 : decode cX12_puts 0 = .ok (.aload_n 0, 1) := by decide +kernel
theorem dX12_puts_1 : decode cX12_puts 1 = .ok (.aload_n 0, 1) := by decide +kernel
theorem dX12_puts_2 : decode cX12_puts 2 = .ok (.getfield 49, 3) := by decide +kernel
theorem dX12_puts_5 : decode cX12_puts 5 = .ok (.iconst 0, 1) := by decide +kernel
theorem dX12_puts_6 : decode cX12_puts 6 = .ok (.invokevirtual 189, 3) := by decide +kernel
theorem dX12_puts_9 : decode cX12_puts 9 = .ok (.return_, 1) := by decide +kernel
theorem dX12_back_0 : decode cX12_back 0 = .ok (.aload_n 0, 1) := by decide +kernel
theorem dX12_back_1 : decode cX12_back 1 = .ok (.aload_n 0, 1) := by decide +kernel
theorem dX12_back_2 : decode cX12_back 2 = .ok (.getfield 49, 3) := by decide +kernel
theorem dX12_back_5 : decode cX12_back 5 = .ok (.iconst 0, 1) := by decide +kernel
theorem dX12_back_6 : decode cX12_back 6 = .ok (.invokevirtual 193, 3) := by decide +kernel
theorem dX12_back_9 : decode cX12_back 9 = .ok (.return_, 1) := by decide +kernel
theorem dX12_lies_0 : decode cX12_lies 0 = .ok (.aload_n 0, 1) := by decide +kernel
theorem dX12_lies_1 : decode cX12_lies 1 = .ok (.getfield 16, 3) := by decide +kernel
theorem dX12_lies_4 : decode cX12_lies 4 = .ok (.iload_n 1, 1) := by decide +kernel
theorem dX12_lies_5 : decode cX12_lies 5 = .ok (.aload_n 0, 1) := by decide +kernel
theorem dX12_lies_6 : decode cX12_lies 6 = .ok (.iload_n 1, 1) := by decide +kernel
theorem dX12_lies_7 : decode cX12_lies 7 = .ok (.iload_n 2, 1) := by decide +kernel
theorem dX12_lies_8 : decode cX12_lies 8 = .ok (.invokevirtual 196, 3) := by decide +kernel
theorem dX12_lies_11 : decode cX12_lies 11 = .ok (.iastore, 1) := by decide +kernel
theorem dX12_lies_12 : decode cX12_lies 12 = .ok (.aload_n 0, 1) := by decide +kernel
theorem dX12_lies_13 : decode cX12_lies 13 = .ok (.dup, 1) := by decide +kernel
theorem dX12_lies_14 : decode cX12_lies 14 = .ok (.getfield 84, 3) := by decide +kernel
theorem dX12_lies_17 : decode cX12_lies 17 = .ok (.iconst 1, 1) := by decide +kernel
theorem dX12_lies_18 : decode cX12_lies 18 = .ok (.iload_n 1, 1) := by decide +kernel
theorem dX12_lies_19 : decode cX12_lies 19 = .ok (.ishl, 1) := by decide +kernel
theorem dX12_lies_20 : decode cX12_lies 20 = .ok (.ior, 1) := by decide +kernel
theorem dX12_lies_21 : decode cX12_lies 21 = .ok (.putfield 84, 3) := by decide +kernel
theorem dX12_lies_24 : decode cX12_lies 24 = .ok (.return_, 1) := by decide +kernel
theorem dX12_pass_0 : decode cX12_pass 0 = .ok (.iconst 0, 1) := by decide +kernel
theorem dX12_pass_1 : decode cX12_pass 1 = .ok (.istore_n 1, 1) := by decide +kernel
theorem dX12_pass_2 : decode cX12_pass 2 = .ok (.iload_n 1, 1) := by decide +kernel
theorem dX12_pass_3 : decode cX12_pass 3 = .ok (.aload_n 0, 1) := by decide +kernel
theorem dX12_pass_4 : decode cX12_pass 4 = .ok (.getfield 77, 3) := by decide +kernel
theorem dX12_pass_7 : decode cX12_pass 7 = .ok (.if_icmp .ge 48, 3) := by decide +kernel
theorem dX12_pass_10 : decode cX12_pass 10 = .ok (.aload_n 0, 1) := by decide +kernel
theorem dX12_pass_11 : decode cX12_pass 11 = .ok (.getfield 16, 3) := by decide +kernel
theorem dX12_pass_14 : decode cX12_pass 14 = .ok (.iload_n 1, 1) := by decide +kernel
theorem dX12_pass_15 : decode cX12_pass 15 = .ok (.aload_n 0, 1) := by decide +kernel
theorem dX12_pass_16 : decode cX12_pass 16 = .ok (.getfield 84, 3) := by decide +kernel
theorem dX12_pass_19 : decode cX12_pass 19 = .ok (.iload_n 1, 1) := by decide +kernel
theorem dX12_pass_20 : decode cX12_pass 20 = .ok (.invokestatic 199, 3) := by decide +kernel
theorem dX12_pass_23 : decode cX12_pass 23 = .ok (.ifCond .eq 12, 3) := by decide +kernel
theorem dX12_pass_26 : decode cX12_pass 26 = .ok (.aload_n 0, 1) := by decide +kernel
theorem dX12_pass_27 : decode cX12_pass 27 = .ok (.getfield 16, 3) := by decide +kernel
theorem dX12_pass_30 : decode cX12_pass 30 = .ok (.iload_n 1, 1) := by decide +kernel
theorem dX12_pass_31 : decode cX12_pass 31 = .ok (.iaload, 1) := by decide +kernel
theorem dX12_pass_32 : decode cX12_pass 32 = .ok (.goto 16, 3) := by decide +kernel
theorem dX12_pass_35 : decode cX12_pass 35 = .ok (.bipush 12, 2) := by decide +kernel
theorem dX12_pass_37 : decode cX12_pass 37 = .ok (.aload_n 0, 1) := by decide +kernel
theorem dX12_pass_38 : decode cX12_pass 38 = .ok (.getfield 16, 3) := by decide +kernel
theorem dX12_pass_41 : decode cX12_pass 41 = .ok (.iload_n 1, 1) := by decide +kernel
theorem dX12_pass_42 : decode cX12_pass 42 = .ok (.iaload, 1) := by decide +kernel
theorem dX12_pass_43 : decode cX12_pass 43 = .ok (.iconst 1, 1) := by decide +kernel
theorem dX12_pass_44 : decode cX12_pass 44 = .ok (.iadd, 1) := by decide +kernel
theorem dX12_pass_45 : decode cX12_pass 45 = .ok (.invokestatic 180, 3) := by decide +kernel
theorem dX12_pass_48 : decode cX12_pass 48 = .ok (.iastore, 1) := by decide +kernel
theorem dX12_pass_49 : decode cX12_pass 49 = .ok (.iinc 1 1, 3) := by decide +kernel
theorem dX12_pass_52 : decode cX12_pass 52 = .ok (.goto (-50), 3) := by decide +kernel
theorem dX12_pass_55 : decode cX12_pass 55 = .ok (.aload_n 0, 1) := by decide +kernel
theorem dX12_pass_56 : decode cX12_pass 56 = .ok (.iconst 0, 1) := by decide +kernel
theorem dX12_pass_57 : decode cX12_pass 57 = .ok (.putfield 84, 3) := by decide +kernel
theorem dX12_pass_60 : decode cX12_pass 60 = .ok (.aload_n 0, 1) := by decide +kernel
theorem dX12_pass_61 : decode cX12_pass 61 = .ok (.sipush 999, 3) := by decide +kernel
theorem dX12_pass_64 : decode cX12_pass 64 = .ok (.aload_n 0, 1) := by decide +kernel
theorem dX12_pass_65 : decode cX12_pass 65 = .ok (.getfield 81, 3) := by decide +kernel
theorem dX12_pass_68 : decode cX12_pass 68 = .ok (.iconst 1, 1) := by decide +kernel
theorem dX12_pass_69 : decode cX12_pass 69 = .ok (.iadd, 1) := by decide +kernel
theorem dX12_pass_70 : decode cX12_pass 70 = .ok (.invokestatic 180, 3) := by decide +kernel
theorem dX12_pass_73 : decode cX12_pass 73 = .ok (.putfield 81, 3) := by decide +kernel
theorem dX12_pass_76 : decode cX12_pass 76 = .ok (.return_, 1) := by decide +kernel
theorem dX12_lie_0 : decode cX12_lie 0 = .ok (.aload_n 0, 1) := by decide +kernel
theorem dX12_lie_1 : decode cX12_lie 1 = .ok (.iload_n 1, 1) := by decide +kernel
theorem dX12_lie_2 : decode cX12_lie 2 = .ok (.invokevirtual 108, 3) := by decide +kernel
theorem dX12_lie_5 : decode cX12_lie 5 = .ok (.ifCond .eq 12, 3) := by decide +kernel
theorem dX12_lie_8 : decode cX12_lie 8 = .ok (.iload_n 2, 1) := by decide +kernel
theorem dX12_lie_9 : decode cX12_lie 9 = .ok (.iconst 1, 1) := by decide +kernel
theorem dX12_lie_10 : decode cX12_lie 10 = .ok (.iconst 4, 1) := by decide +kernel
theorem dX12_lie_11 : decode cX12_lie 11 = .ok (.invokestatic 93, 3) := by decide +kernel
theorem dX12_lie_14 : decode cX12_lie 14 = .ok (.ifCond .ne 8, 3) := by decide +kernel
theorem dX12_lie_17 : decode cX12_lie 17 = .ok (.aload_n 0, 1) := by decide +kernel
theorem dX12_lie_18 : decode cX12_lie 18 = .ok (.invokevirtual 97, 3) := by decide +kernel
theorem dX12_lie_21 : decode cX12_lie 21 = .ok (.ireturn, 1) := by decide +kernel
theorem dX12_lie_22 : decode cX12_lie 22 = .ok (.aload_n 0, 1) := by decide +kernel
theorem dX12_lie_23 : decode cX12_lie 23 = .ok (.invokevirtual 202, 3) := by decide +kernel
theorem dX12_lie_26 : decode cX12_lie 26 = .ok (.aload_n 0, 1) := by decide +kernel
theorem dX12_lie_27 : decode cX12_lie 27 = .ok (.iload_n 1, 1) := by decide +kernel
theorem dX12_lie_28 : decode cX12_lie 28 = .ok (.iload_n 2, 1) := by decide +kernel
theorem dX12_lie_29 : decode cX12_lie 29 = .ok (.invokevirtual 205, 3) := by decide +kernel
theorem dX12_lie_32 : decode cX12_lie 32 = .ok (.aload_n 0, 1) := by decide +kernel
theorem dX12_lie_33 : decode cX12_lie 33 = .ok (.getfield 16, 3) := by decide +kernel
theorem dX12_lie_36 : decode cX12_lie 36 = .ok (.iload_n 1, 1) := by decide +kernel
theorem dX12_lie_37 : decode cX12_lie 37 = .ok (.iaload, 1) := by decide +kernel
theorem dX12_lie_38 : decode cX12_lie 38 = .ok (.ireturn, 1) := by decide +kernel
theorem dX12_give_0 : decode cX12_give 0 = .ok (.aload_n 0, 1) := by decide +kernel
theorem dX12_give_1 : decode cX12_give 1 = .ok (.iload_n 1, 1) := by decide +kernel
theorem dX12_give_2 : decode cX12_give 2 = .ok (.invokevirtual 108, 3) := by decide +kernel
theorem dX12_give_5 : decode cX12_give 5 = .ok (.ifCond .eq 26, 3) := by decide +kernel
theorem dX12_give_8 : decode cX12_give 8 = .ok (.aload_n 0, 1) := by decide +kernel
theorem dX12_give_9 : decode cX12_give 9 = .ok (.iload_n 2, 1) := by decide +kernel
theorem dX12_give_10 : decode cX12_give 10 = .ok (.invokevirtual 108, 3) := by decide +kernel
theorem dX12_give_13 : decode cX12_give 13 = .ok (.ifCond .eq 18, 3) := by decide +kernel
theorem dX12_give_16 : decode cX12_give 16 = .ok (.iload_n 1, 1) := by decide +kernel
theorem dX12_give_17 : decode cX12_give 17 = .ok (.iload_n 2, 1) := by decide +kernel
theorem dX12_give_18 : decode cX12_give 18 = .ok (.if_icmp .eq 13, 3) := by decide +kernel
theorem dX12_give_21 : decode cX12_give 21 = .ok (.iload_n 3, 1) := by decide +kernel
theorem dX12_give_22 : decode cX12_give 22 = .ok (.iconst 1, 1) := by decide +kernel
theorem dX12_give_23 : decode cX12_give 23 = .ok (.bipush 99, 2) := by decide +kernel
theorem dX12_give_25 : decode cX12_give 25 = .ok (.invokestatic 93, 3) := by decide +kernel
theorem dX12_give_28 : decode cX12_give 28 = .ok (.ifCond .ne 8, 3) := by decide +kernel
theorem dX12_give_31 : decode cX12_give 31 = .ok (.aload_n 0, 1) := by decide +kernel
theorem dX12_give_32 : decode cX12_give 32 = .ok (.invokevirtual 97, 3) := by decide +kernel
theorem dX12_give_35 : decode cX12_give 35 = .ok (.ireturn, 1) := by decide +kernel
theorem dX12_give_36 : decode cX12_give 36 = .ok (.aload_n 0, 1) := by decide +kernel
theorem dX12_give_37 : decode cX12_give 37 = .ok (.getfield 25, 3) := by decide +kernel
theorem dX12_give_40 : decode cX12_give 40 = .ok (.iload_n 1, 1) := by decide +kernel
theorem dX12_give_41 : decode cX12_give 41 = .ok (.iaload, 1) := by decide +kernel
theorem dX12_give_42 : decode cX12_give 42 = .ok (.iload_n 2, 1) := by decide +kernel
theorem dX12_give_43 : decode cX12_give 43 = .ok (.invokestatic 199, 3) := by decide +kernel
theorem dX12_give_46 : decode cX12_give 46 = .ok (.ifCond .eq 13, 3) := by decide +kernel
theorem dX12_give_49 : decode cX12_give 49 = .ok (.aload_n 0, 1) := by decide +kernel
theorem dX12_give_50 : decode cX12_give 50 = .ok (.getfield 19, 3) := by decide +kernel
theorem dX12_give_53 : decode cX12_give 53 = .ok (.iload_n 1, 1) := by decide +kernel
theorem dX12_give_54 : decode cX12_give 54 = .ok (.iaload, 1) := by decide +kernel
theorem dX12_give_55 : decode cX12_give 55 = .ok (.iload_n 3, 1) := by decide +kernel
theorem dX12_give_56 : decode cX12_give 56 = .ok (.if_icmp .ge 8, 3) := by decide +kernel
theorem dX12_give_59 : decode cX12_give 59 = .ok (.aload_n 0, 1) := by decide +kernel
theorem dX12_give_60 : decode cX12_give 60 = .ok (.invokevirtual 209, 3) := by decide +kernel
theorem dX12_give_63 : decode cX12_give 63 = .ok (.ireturn, 1) := by decide +kernel
theorem dX12_give_64 : decode cX12_give 64 = .ok (.aload_n 0, 1) := by decide +kernel
theorem dX12_give_65 : decode cX12_give 65 = .ok (.invokevirtual 202, 3) := by decide +kernel
theorem dX12_give_68 : decode cX12_give 68 = .ok (.aload_n 0, 1) := by decide +kernel
theorem dX12_give_69 : decode cX12_give 69 = .ok (.getfield 19, 3) := by decide +kernel
theorem dX12_give_72 : decode cX12_give 72 = .ok (.iload_n 1, 1) := by decide +kernel
theorem dX12_give_73 : decode cX12_give 73 = .ok (.dup2, 1) := by decide +kernel
theorem dX12_give_74 : decode cX12_give 74 = .ok (.iaload, 1) := by decide +kernel
theorem dX12_give_75 : decode cX12_give 75 = .ok (.iload_n 3, 1) := by decide +kernel
theorem dX12_give_76 : decode cX12_give 76 = .ok (.isub, 1) := by decide +kernel
theorem dX12_give_77 : decode cX12_give 77 = .ok (.iastore, 1) := by decide +kernel
theorem dX12_give_78 : decode cX12_give 78 = .ok (.aload_n 0, 1) := by decide +kernel
theorem dX12_give_79 : decode cX12_give 79 = .ok (.getfield 19, 3) := by decide +kernel
theorem dX12_give_82 : decode cX12_give 82 = .ok (.iload_n 2, 1) := by decide +kernel
theorem dX12_give_83 : decode cX12_give 83 = .ok (.dup2, 1) := by decide +kernel
theorem dX12_give_84 : decode cX12_give 84 = .ok (.iaload, 1) := by decide +kernel
theorem dX12_give_85 : decode cX12_give 85 = .ok (.iload_n 3, 1) := by decide +kernel
theorem dX12_give_86 : decode cX12_give 86 = .ok (.iadd, 1) := by decide +kernel
theorem dX12_give_87 : decode cX12_give 87 = .ok (.iastore, 1) := by decide +kernel
theorem dX12_give_88 : decode cX12_give 88 = .ok (.aload_n 0, 1) := by decide +kernel
theorem dX12_give_89 : decode cX12_give 89 = .ok (.getfield 19, 3) := by decide +kernel
theorem dX12_give_92 : decode cX12_give 92 = .ok (.iload_n 1, 1) := by decide +kernel
theorem dX12_give_93 : decode cX12_give 93 = .ok (.iaload, 1) := by decide +kernel
theorem dX12_give_94 : decode cX12_give 94 = .ok (.ireturn, 1) := by decide +kernel
theorem dX12_day_0 : decode cX12_day 0 = .ok (.aload_n 0, 1) := by decide +kernel
theorem dX12_day_1 : decode cX12_day 1 = .ok (.invokevirtual 202, 3) := by decide +kernel
theorem dX12_day_4 : decode cX12_day 4 = .ok (.aload_n 0, 1) := by decide +kernel
theorem dX12_day_5 : decode cX12_day 5 = .ok (.invokevirtual 212, 3) := by decide +kernel
theorem dX12_day_8 : decode cX12_day 8 = .ok (.aload_n 0, 1) := by decide +kernel
theorem dX12_day_9 : decode cX12_day 9 = .ok (.getfield 81, 3) := by decide +kernel
theorem dX12_day_12 : decode cX12_day 12 = .ok (.ireturn, 1) := by decide +kernel
theorem dX12_undo_0 : decode cX12_undo 0 = .ok (.aload_n 0, 1) := by decide +kernel
theorem dX12_undo_1 : decode cX12_undo 1 = .ok (.getfield 90, 3) := by decide +kernel
theorem dX12_undo_4 : decode cX12_undo 4 = .ok (.ifCond .ne 8, 3) := by decide +kernel
theorem dX12_undo_7 : decode cX12_undo 7 = .ok (.aload_n 0, 1) := by decide +kernel
theorem dX12_undo_8 : decode cX12_undo 8 = .ok (.invokevirtual 209, 3) := by decide +kernel
theorem dX12_undo_11 : decode cX12_undo 11 = .ok (.ireturn, 1) := by decide +kernel
theorem dX12_undo_12 : decode cX12_undo 12 = .ok (.aload_n 0, 1) := by decide +kernel
theorem dX12_undo_13 : decode cX12_undo 13 = .ok (.dup, 1) := by decide +kernel
theorem dX12_undo_14 : decode cX12_undo 14 = .ok (.getfield 90, 3) := by decide +kernel
theorem dX12_undo_17 : decode cX12_undo 17 = .ok (.iconst 1, 1) := by decide +kernel
theorem dX12_undo_18 : decode cX12_undo 18 = .ok (.isub, 1) := by decide +kernel
theorem dX12_undo_19 : decode cX12_undo 19 = .ok (.putfield 90, 3) := by decide +kernel
theorem dX12_undo_22 : decode cX12_undo 22 = .ok (.aload_n 0, 1) := by decide +kernel
theorem dX12_undo_23 : decode cX12_undo 23 = .ok (.aload_n 0, 1) := by decide +kernel
theorem dX12_undo_24 : decode cX12_undo 24 = .ok (.getfield 46, 3) := by decide +kernel
theorem dX12_undo_27 : decode cX12_undo 27 = .ok (.bipush 14, 2) := by decide +kernel
theorem dX12_undo_29 : decode cX12_undo 29 = .ok (.aload_n 0, 1) := by decide +kernel
theorem dX12_undo_30 : decode cX12_undo 30 = .ok (.getfield 90, 3) := by decide +kernel
theorem dX12_undo_33 : decode cX12_undo 33 = .ok (.imul, 1) := by decide +kernel
theorem dX12_undo_34 : decode cX12_undo 34 = .ok (.invokevirtual 193, 3) := by decide +kernel
theorem dX12_undo_37 : decode cX12_undo 37 = .ok (.aload_n 0, 1) := by decide +kernel
theorem dX12_undo_38 : decode cX12_undo 38 = .ok (.getfield 81, 3) := by decide +kernel
theorem dX12_undo_41 : decode cX12_undo 41 = .ok (.ireturn, 1) := by decide +kernel
theorem dX12_of_0 : decode cX12_of 0 = .ok (.aload_n 0, 1) := by decide +kernel
theorem dX12_of_1 : decode cX12_of 1 = .ok (.iload_n 1, 1) := by decide +kernel
theorem dX12_of_2 : decode cX12_of 2 = .ok (.invokevirtual 108, 3) := by decide +kernel
theorem dX12_of_5 : decode cX12_of 5 = .ok (.ifCond .eq 13, 3) := by decide +kernel
theorem dX12_of_8 : decode cX12_of 8 = .ok (.iload_n 2, 1) := by decide +kernel
theorem dX12_of_9 : decode cX12_of 9 = .ok (.iconst 0, 1) := by decide +kernel
theorem dX12_of_10 : decode cX12_of 10 = .ok (.bipush 6, 2) := by decide +kernel
theorem dX12_of_12 : decode cX12_of 12 = .ok (.invokestatic 93, 3) := by decide +kernel
theorem dX12_of_15 : decode cX12_of 15 = .ok (.ifCond .ne 8, 3) := by decide +kernel
theorem dX12_of_18 : decode cX12_of 18 = .ok (.aload_n 0, 1) := by decide +kernel
theorem dX12_of_19 : decode cX12_of 19 = .ok (.invokevirtual 97, 3) := by decide +kernel
theorem dX12_of_22 : decode cX12_of 22 = .ok (.ireturn, 1) := by decide +kernel
theorem dX12_of_23 : decode cX12_of 23 = .ok (.iload_n 2, 1) := by decide +kernel
theorem dX12_of_24 : decode cX12_of 24 = .ok (.tableswitch 84 0 5 #[40, 47, 54, 61, 68, 77], 40) := by decide +kernel
theorem dX12_of_64 : decode cX12_of 64 = .ok (.aload_n 0, 1) := by decide +kernel
theorem dX12_of_65 : decode cX12_of 65 = .ok (.getfield 13, 3) := by decide +kernel
theorem dX12_of_68 : decode cX12_of 68 = .ok (.iload_n 1, 1) := by decide +kernel
theorem dX12_of_69 : decode cX12_of 69 = .ok (.iaload, 1) := by decide +kernel
theorem dX12_of_70 : decode cX12_of 70 = .ok (.ireturn, 1) := by decide +kernel
theorem dX12_of_71 : decode cX12_of 71 = .ok (.aload_n 0, 1) := by decide +kernel
theorem dX12_of_72 : decode cX12_of 72 = .ok (.getfield 16, 3) := by decide +kernel
theorem dX12_of_75 : decode cX12_of 75 = .ok (.iload_n 1, 1) := by decide +kernel
theorem dX12_of_76 : decode cX12_of 76 = .ok (.iaload, 1) := by decide +kernel
theorem dX12_of_77 : decode cX12_of 77 = .ok (.ireturn, 1) := by decide +kernel
theorem dX12_of_78 : decode cX12_of 78 = .ok (.aload_n 0, 1) := by decide +kernel
theorem dX12_of_79 : decode cX12_of 79 = .ok (.getfield 19, 3) := by decide +kernel
theorem dX12_of_82 : decode cX12_of 82 = .ok (.iload_n 1, 1) := by decide +kernel
theorem dX12_of_83 : decode cX12_of 83 = .ok (.iaload, 1) := by decide +kernel
theorem dX12_of_84 : decode cX12_of 84 = .ok (.ireturn, 1) := by decide +kernel
theorem dX12_of_85 : decode cX12_of 85 = .ok (.aload_n 0, 1) := by decide +kernel
theorem dX12_of_86 : decode cX12_of 86 = .ok (.getfield 22, 3) := by decide +kernel
theorem dX12_of_89 : decode cX12_of 89 = .ok (.iload_n 1, 1) := by decide +kernel
theorem dX12_of_90 : decode cX12_of 90 = .ok (.iaload, 1) := by decide +kernel
theorem dX12_of_91 : decode cX12_of 91 = .ok (.ireturn, 1) := by decide +kernel
theorem dX12_of_92 : decode cX12_of 92 = .ok (.aload_n 0, 1) := by decide +kernel
theorem dX12_of_93 : decode cX12_of 93 = .ok (.getfield 84, 3) := by decide +kernel
theorem dX12_of_96 : decode cX12_of 96 = .ok (.iload_n 1, 1) := by decide +kernel
theorem dX12_of_97 : decode cX12_of 97 = .ok (.ishr, 1) := by decide +kernel
theorem dX12_of_98 : decode cX12_of 98 = .ok (.iconst 1, 1) := by decide +kernel
theorem dX12_of_99 : decode cX12_of 99 = .ok (.iand, 1) := by decide +kernel
theorem dX12_of_100 : decode cX12_of 100 = .ok (.ireturn, 1) := by decide +kernel
theorem dX12_of_101 : decode cX12_of 101 = .ok (.aload_n 0, 1) := by decide +kernel
theorem dX12_of_102 : decode cX12_of 102 = .ok (.getfield 25, 3) := by decide +kernel
theorem dX12_of_105 : decode cX12_of 105 = .ok (.iload_n 1, 1) := by decide +kernel
theorem dX12_of_106 : decode cX12_of 106 = .ok (.iaload, 1) := by decide +kernel
theorem dX12_of_107 : decode cX12_of 107 = .ok (.ireturn, 1) := by decide +kernel
theorem dX12_of_108 : decode cX12_of 108 = .ok (.aload_n 0, 1) := by decide +kernel
theorem dX12_of_109 : decode cX12_of 109 = .ok (.iload_n 1, 1) := by decide +kernel
theorem dX12_of_110 : decode cX12_of 110 = .ok (.invokevirtual 215, 3) := by decide +kernel
theorem dX12_of_113 : decode cX12_of 113 = .ok (.ireturn, 1) := by decide +kernel
theorem dX12_weighs_0 : decode cX12_weighs 0 = .ok (.aload_n 0, 1) := by decide +kernel
theorem dX12_weighs_1 : decode cX12_weighs 1 = .ok (.iload_n 1, 1) := by decide +kernel
theorem dX12_weighs_2 : decode cX12_weighs 2 = .ok (.invokevirtual 108, 3) := by decide +kernel
theorem dX12_weighs_5 : decode cX12_weighs 5 = .ok (.ifCond .eq 22, 3) := by decide +kernel
theorem dX12_weighs_8 : decode cX12_weighs 8 = .ok (.iload_n 2, 1) := by decide +kernel
theorem dX12_weighs_9 : decode cX12_weighs 9 = .ok (.iconst 0, 1) := by decide +kernel
theorem dX12_weighs_10 : decode cX12_weighs 10 = .ok (.bipush 99, 2) := by decide +kernel
theorem dX12_weighs_12 : decode cX12_weighs 12 = .ok (.invokestatic 93, 3) := by decide +kernel
theorem dX12_weighs_15 : decode cX12_weighs 15 = .ok (.ifCond .eq 12, 3) := by decide +kernel
theorem dX12_weighs_18 : decode cX12_weighs 18 = .ok (.aload_n 0, 1) := by decide +kernel
theorem dX12_weighs_19 : decode cX12_weighs 19 = .ok (.iload_n 1, 1) := by decide +kernel
theorem dX12_weighs_20 : decode cX12_weighs 20 = .ok (.iload_n 2, 1) := by decide +kernel
theorem dX12_weighs_21 : decode cX12_weighs 21 = .ok (.invokevirtual 186, 3) := by decide +kernel
theorem dX12_weighs_24 : decode cX12_weighs 24 = .ok (.goto 7, 3) := by decide +kernel
theorem dX12_weighs_27 : decode cX12_weighs 27 = .ok (.aload_n 0, 1) := by decide +kernel
theorem dX12_weighs_28 : decode cX12_weighs 28 = .ok (.invokevirtual 97, 3) := by decide +kernel
theorem dX12_weighs_31 : decode cX12_weighs 31 = .ok (.ireturn, 1) := by decide +kernel
theorem dX12_all_0 : decode cX12_all 0 = .ok (.iconst 0, 1) := by decide +kernel
theorem dX12_all_1 : decode cX12_all 1 = .ok (.istore_n 1, 1) := by decide +kernel
theorem dX12_all_2 : decode cX12_all 2 = .ok (.iconst 0, 1) := by decide +kernel
theorem dX12_all_3 : decode cX12_all 3 = .ok (.istore_n 2, 1) := by decide +kernel
theorem dX12_all_4 : decode cX12_all 4 = .ok (.iload_n 2, 1) := by decide +kernel
theorem dX12_all_5 : decode cX12_all 5 = .ok (.aload_n 0, 1) := by decide +kernel
theorem dX12_all_6 : decode cX12_all 6 = .ok (.getfield 77, 3) := by decide +kernel
theorem dX12_all_9 : decode cX12_all 9 = .ok (.if_icmp .ge 17, 3) := by decide +kernel
theorem dX12_all_12 : decode cX12_all 12 = .ok (.iload_n 1, 1) := by decide +kernel
theorem dX12_all_13 : decode cX12_all 13 = .ok (.aload_n 0, 1) := by decide +kernel
theorem dX12_all_14 : decode cX12_all 14 = .ok (.iload_n 2, 1) := by decide +kernel
theorem dX12_all_15 : decode cX12_all 15 = .ok (.invokevirtual 215, 3) := by decide +kernel
theorem dX12_all_18 : decode cX12_all 18 = .ok (.iadd, 1) := by decide +kernel
theorem dX12_all_19 : decode cX12_all 19 = .ok (.istore_n 1, 1) := by decide +kernel
theorem dX12_all_20 : decode cX12_all 20 = .ok (.iinc 2 1, 3) := by decide +kernel
theorem dX12_all_23 : decode cX12_all 23 = .ok (.goto (-19), 3) := by decide +kernel
theorem dX12_all_26 : decode cX12_all 26 = .ok (.iload_n 1, 1) := by decide +kernel
theorem dX12_all_27 : decode cX12_all 27 = .ok (.ireturn, 1) := by decide +kernel
theorem dX12_when_0 : decode cX12_when 0 = .ok (.aload_n 0, 1) := by decide +kernel
theorem dX12_when_1 : decode cX12_when 1 = .ok (.iload_n 1, 1) := by decide +kernel
theorem dX12_when_2 : decode cX12_when 2 = .ok (.invokevirtual 108, 3) := by decide +kernel
theorem dX12_when_5 : decode cX12_when 5 = .ok (.ifCond .eq 14, 3) := by decide +kernel
theorem dX12_when_8 : decode cX12_when 8 = .ok (.iload_n 2, 1) := by decide +kernel
theorem dX12_when_9 : decode cX12_when 9 = .ok (.iconst 0, 1) := by decide +kernel
theorem dX12_when_10 : decode cX12_when 10 = .ok (.sipush 999, 3) := by decide +kernel
theorem dX12_when_13 : decode cX12_when 13 = .ok (.invokestatic 93, 3) := by decide +kernel
theorem dX12_when_16 : decode cX12_when 16 = .ok (.ifCond .ne 8, 3) := by decide +kernel
theorem dX12_when_19 : decode cX12_when 19 = .ok (.aload_n 0, 1) := by decide +kernel
theorem dX12_when_20 : decode cX12_when 20 = .ok (.invokevirtual 97, 3) := by decide +kernel
theorem dX12_when_23 : decode cX12_when 23 = .ok (.ireturn, 1) := by decide +kernel
theorem dX12_when_24 : decode cX12_when 24 = .ok (.aload_n 0, 1) := by decide +kernel
theorem dX12_when_25 : decode cX12_when 25 = .ok (.getfield 16, 3) := by decide +kernel
theorem dX12_when_28 : decode cX12_when 28 = .ok (.iload_n 1, 1) := by decide +kernel
theorem dX12_when_29 : decode cX12_when 29 = .ok (.iaload, 1) := by decide +kernel
theorem dX12_when_30 : decode cX12_when 30 = .ok (.istore_n 3, 1) := by decide +kernel
theorem dX12_when_31 : decode cX12_when 31 = .ok (.iconst (-1), 1) := by decide +kernel
theorem dX12_when_32 : decode cX12_when 32 = .ok (.istore 4, 2) := by decide +kernel
theorem dX12_when_34 : decode cX12_when 34 = .ok (.iconst 0, 1) := by decide +kernel
theorem dX12_when_35 : decode cX12_when 35 = .ok (.istore 5, 2) := by decide +kernel
theorem dX12_when_37 : decode cX12_when 37 = .ok (.iload 5, 2) := by decide +kernel
theorem dX12_when_39 : decode cX12_when 39 = .ok (.bipush 60, 2) := by decide +kernel
theorem dX12_when_41 : decode cX12_when 41 = .ok (.if_icmp .gt 80, 3) := by decide +kernel
theorem dX12_when_44 : decode cX12_when 44 = .ok (.iload 4, 2) := by decide +kernel
theorem dX12_when_46 : decode cX12_when 46 = .ok (.iconst (-1), 1) := by decide +kernel
theorem dX12_when_47 : decode cX12_when 47 = .ok (.if_icmp .ne 74, 3) := by decide +kernel
theorem dX12_when_50 : decode cX12_when 50 = .ok (.aload_n 0, 1) := by decide +kernel
theorem dX12_when_51 : decode cX12_when 51 = .ok (.getfield 13, 3) := by decide +kernel
theorem dX12_when_54 : decode cX12_when 54 = .ok (.iload_n 1, 1) := by decide +kernel
theorem dX12_when_55 : decode cX12_when 55 = .ok (.iaload, 1) := by decide +kernel
theorem dX12_when_56 : decode cX12_when 56 = .ok (.aload_n 0, 1) := by decide +kernel
theorem dX12_when_57 : decode cX12_when 57 = .ok (.getfield 19, 3) := by decide +kernel
theorem dX12_when_60 : decode cX12_when 60 = .ok (.iload_n 1, 1) := by decide +kernel
theorem dX12_when_61 : decode cX12_when 61 = .ok (.iaload, 1) := by decide +kernel
theorem dX12_when_62 : decode cX12_when 62 = .ok (.iload_n 3, 1) := by decide +kernel
theorem dX12_when_63 : decode cX12_when 63 = .ok (.aload_n 0, 1) := by decide +kernel
theorem dX12_when_64 : decode cX12_when 64 = .ok (.getfield 81, 3) := by decide +kernel
theorem dX12_when_67 : decode cX12_when 67 = .ok (.iload 5, 2) := by decide +kernel
theorem dX12_when_69 : decode cX12_when 69 = .ok (.iadd, 1) := by decide +kernel
theorem dX12_when_70 : decode cX12_when 70 = .ok (.invokestatic 183, 3) := by decide +kernel
theorem dX12_when_73 : decode cX12_when 73 = .ok (.iload_n 2, 1) := by decide +kernel
theorem dX12_when_74 : decode cX12_when 74 = .ok (.if_icmp .lt 8, 3) := by decide +kernel
theorem dX12_when_77 : decode cX12_when 77 = .ok (.iload 5, 2) := by decide +kernel
theorem dX12_when_79 : decode cX12_when 79 = .ok (.goto 5, 3) := by decide +kernel
theorem dX12_when_82 : decode cX12_when 82 = .ok (.iload 4, 2) := by decide +kernel
theorem dX12_when_84 : decode cX12_when 84 = .ok (.istore 4, 2) := by decide +kernel
theorem dX12_when_86 : decode cX12_when 86 = .ok (.iload 5, 2) := by decide +kernel
theorem dX12_when_88 : decode cX12_when 88 = .ok (.ifCond .ne 18, 3) := by decide +kernel
theorem dX12_when_91 : decode cX12_when 91 = .ok (.aload_n 0, 1) := by decide +kernel
theorem dX12_when_92 : decode cX12_when 92 = .ok (.getfield 84, 3) := by decide +kernel
theorem dX12_when_95 : decode cX12_when 95 = .ok (.iload_n 1, 1) := by decide +kernel
theorem dX12_when_96 : decode cX12_when 96 = .ok (.invokestatic 199, 3) := by decide +kernel
theorem dX12_when_99 : decode cX12_when 99 = .ok (.ifCond .eq 7, 3) := by decide +kernel
theorem dX12_when_102 : decode cX12_when 102 = .ok (.iload_n 3, 1) := by decide +kernel
theorem dX12_when_103 : decode cX12_when 103 = .ok (.goto 11, 3) := by decide +kernel
theorem dX12_when_106 : decode cX12_when 106 = .ok (.bipush 12, 2) := by decide +kernel
theorem dX12_when_108 : decode cX12_when 108 = .ok (.iload_n 3, 1) := by decide +kernel
theorem dX12_when_109 : decode cX12_when 109 = .ok (.iconst 1, 1) := by decide +kernel
theorem dX12_when_110 : decode cX12_when 110 = .ok (.iadd, 1) := by decide +kernel
theorem dX12_when_111 : decode cX12_when 111 = .ok (.invokestatic 180, 3) := by decide +kernel
theorem dX12_when_114 : decode cX12_when 114 = .ok (.istore_n 3, 1) := by decide +kernel
theorem dX12_when_115 : decode cX12_when 115 = .ok (.iinc 5 1, 3) := by decide +kernel
theorem dX12_when_118 : decode cX12_when 118 = .ok (.goto (-81), 3) := by decide +kernel
theorem dX12_when_121 : decode cX12_when 121 = .ok (.iload 4, 2) := by decide +kernel
theorem dX12_when_123 : decode cX12_when 123 = .ok (.ireturn, 1) := by decide +kernel
theorem dX12_setSteps_0 : decode cX12_setSteps 0 = .ok (.iconst 0, 1) := by decide +kernel
theorem dX12_setSteps_1 : decode cX12_setSteps 1 = .ok (.istore 5, 2) := by decide +kernel
theorem dX12_setSteps_3 : decode cX12_setSteps 3 = .ok (.iload 5, 2) := by decide +kernel
theorem dX12_setSteps_5 : decode cX12_setSteps 5 = .ok (.bipush 6, 2) := by decide +kernel
theorem dX12_setSteps_7 : decode cX12_setSteps 7 = .ok (.if_icmp .ge 18, 3) := by decide +kernel
theorem dX12_setSteps_10 : decode cX12_setSteps 10 = .ok (.aload_n 0, 1) := by decide +kernel
theorem dX12_setSteps_11 : decode cX12_setSteps 11 = .ok (.getfield 52, 3) := by decide +kernel
theorem dX12_setSteps_14 : decode cX12_setSteps 14 = .ok (.iload 5, 2) := by decide +kernel
theorem dX12_setSteps_16 : decode cX12_setSteps 16 = .ok (.ldc 218, 2) := by decide +kernel
theorem dX12_setSteps_18 : decode cX12_setSteps 18 = .ok (.iastore, 1) := by decide +kernel
theorem dX12_setSteps_19 : decode cX12_setSteps 19 = .ok (.iinc 5 1, 3) := by decide +kernel
theorem dX12_setSteps_22 : decode cX12_setSteps 22 = .ok (.goto (-19), 3) := by decide +kernel
theorem dX12_setSteps_25 : decode cX12_setSteps 25 = .ok (.aload_n 0, 1) := by decide +kernel
theorem dX12_setSteps_26 : decode cX12_setSteps 26 = .ok (.iload_n 2, 1) := by decide +kernel
theorem dX12_setSteps_27 : decode cX12_setSteps 27 = .ok (.iload_n 3, 1) := by decide +kernel
theorem dX12_setSteps_28 : decode cX12_setSteps 28 = .ok (.invokevirtual 186, 3) := by decide +kernel
theorem dX12_setSteps_31 : decode cX12_setSteps 31 = .ok (.iload 4, 2) := by decide +kernel
theorem dX12_setSteps_33 : decode cX12_setSteps 33 = .ok (.if_icmp .lt 10, 3) := by decide +kernel
theorem dX12_setSteps_36 : decode cX12_setSteps 36 = .ok (.aload_n 0, 1) := by decide +kernel
theorem dX12_setSteps_37 : decode cX12_setSteps 37 = .ok (.getfield 52, 3) := by decide +kernel
theorem dX12_setSteps_40 : decode cX12_setSteps 40 = .ok (.iload_n 2, 1) := by decide +kernel
theorem dX12_setSteps_41 : decode cX12_setSteps 41 = .ok (.iconst 1, 1) := by decide +kernel
theorem dX12_setSteps_42 : decode cX12_setSteps 42 = .ok (.iastore, 1) := by decide +kernel
theorem dX12_setSteps_43 : decode cX12_setSteps 43 = .ok (.iconst 1, 1) := by decide +kernel
theorem dX12_setSteps_44 : decode cX12_setSteps 44 = .ok (.istore 5, 2) := by decide +kernel
theorem dX12_setSteps_46 : decode cX12_setSteps 46 = .ok (.iload 5, 2) := by decide +kernel
theorem dX12_setSteps_48 : decode cX12_setSteps 48 = .ok (.aload_n 0, 1) := by decide +kernel
theorem dX12_setSteps_49 : decode cX12_setSteps 49 = .ok (.getfield 77, 3) := by decide +kernel
theorem dX12_setSteps_52 : decode cX12_setSteps 52 = .ok (.if_icmp .ge 120, 3) := by decide +kernel
theorem dX12_setSteps_55 : decode cX12_setSteps 55 = .ok (.iconst 0, 1) := by decide +kernel
theorem dX12_setSteps_56 : decode cX12_setSteps 56 = .ok (.istore 6, 2) := by decide +kernel
theorem dX12_setSteps_58 : decode cX12_setSteps 58 = .ok (.iload 6, 2) := by decide +kernel
theorem dX12_setSteps_60 : decode cX12_setSteps 60 = .ok (.aload_n 0, 1) := by decide +kernel
theorem dX12_setSteps_61 : decode cX12_setSteps 61 = .ok (.getfield 77, 3) := by decide +kernel
theorem dX12_setSteps_64 : decode cX12_setSteps 64 = .ok (.if_icmp .ge 102, 3) := by decide +kernel
theorem dX12_setSteps_67 : decode cX12_setSteps 67 = .ok (.iconst 0, 1) := by decide +kernel
theorem dX12_setSteps_68 : decode cX12_setSteps 68 = .ok (.istore 7, 2) := by decide +kernel
theorem dX12_setSteps_70 : decode cX12_setSteps 70 = .ok (.iload 7, 2) := by decide +kernel
theorem dX12_setSteps_72 : decode cX12_setSteps 72 = .ok (.aload_n 0, 1) := by decide +kernel
theorem dX12_setSteps_73 : decode cX12_setSteps 73 = .ok (.getfield 77, 3) := by decide +kernel
theorem dX12_setSteps_76 : decode cX12_setSteps 76 = .ok (.if_icmp .ge 84, 3) := by decide +kernel
theorem dX12_setSteps_79 : decode cX12_setSteps 79 = .ok (.aload_n 0, 1) := by decide +kernel
theorem dX12_setSteps_80 : decode cX12_setSteps 80 = .ok (.getfield 25, 3) := by decide +kernel
theorem dX12_setSteps_83 : decode cX12_setSteps 83 = .ok (.iload 6, 2) := by decide +kernel
theorem dX12_setSteps_85 : decode cX12_setSteps 85 = .ok (.iaload, 1) := by decide +kernel
theorem dX12_setSteps_86 : decode cX12_setSteps 86 = .ok (.iload 7, 2) := by decide +kernel
theorem dX12_setSteps_88 : decode cX12_setSteps 88 = .ok (.invokestatic 199, 3) := by decide +kernel
theorem dX12_setSteps_91 : decode cX12_setSteps 91 = .ok (.ifCond .eq 19, 3) := by decide +kernel
theorem dX12_setSteps_94 : decode cX12_setSteps 94 = .ok (.aload_n 0, 1) := by decide +kernel
theorem dX12_setSteps_95 : decode cX12_setSteps 95 = .ok (.iload 6, 2) := by decide +kernel
theorem dX12_setSteps_97 : decode cX12_setSteps 97 = .ok (.iload_n 3, 1) := by decide +kernel
theorem dX12_setSteps_98 : decode cX12_setSteps 98 = .ok (.invokevirtual 186, 3) := by decide +kernel
theorem dX12_setSteps_101 : decode cX12_setSteps 101 = .ok (.iload 4, 2) := by decide +kernel
theorem dX12_setSteps_103 : decode cX12_setSteps 103 = .ok (.if_icmp .lt 7, 3) := by decide +kernel
theorem dX12_setSteps_106 : decode cX12_setSteps 106 = .ok (.iconst 1, 1) := by decide +kernel
theorem dX12_setSteps_107 : decode cX12_setSteps 107 = .ok (.goto 4, 3) := by decide +kernel
theorem dX12_setSteps_110 : decode cX12_setSteps 110 = .ok (.iconst 0, 1) := by decide +kernel
theorem dX12_setSteps_111 : decode cX12_setSteps 111 = .ok (.istore 8, 2) := by decide +kernel
theorem dX12_setSteps_113 : decode cX12_setSteps 113 = .ok (.aload_n 0, 1) := by decide +kernel
theorem dX12_setSteps_114 : decode cX12_setSteps 114 = .ok (.getfield 52, 3) := by decide +kernel
theorem dX12_setSteps_117 : decode cX12_setSteps 117 = .ok (.iload 6, 2) := by decide +kernel
theorem dX12_setSteps_119 : decode cX12_setSteps 119 = .ok (.iload 8, 2) := by decide +kernel
theorem dX12_setSteps_121 : decode cX12_setSteps 121 = .ok (.ifCond .eq 25, 3) := by decide +kernel
theorem dX12_setSteps_124 : decode cX12_setSteps 124 = .ok (.aload_n 0, 1) := by decide +kernel
theorem dX12_setSteps_125 : decode cX12_setSteps 125 = .ok (.getfield 52, 3) := by decide +kernel
theorem dX12_setSteps_128 : decode cX12_setSteps 128 = .ok (.iload 6, 2) := by decide +kernel
theorem dX12_setSteps_130 : decode cX12_setSteps 130 = .ok (.iaload, 1) := by decide +kernel
theorem dX12_setSteps_131 : decode cX12_setSteps 131 = .ok (.aload_n 0, 1) := by decide +kernel
theorem dX12_setSteps_132 : decode cX12_setSteps 132 = .ok (.getfield 52, 3) := by decide +kernel
theorem dX12_setSteps_135 : decode cX12_setSteps 135 = .ok (.iload 7, 2) := by decide +kernel
theorem dX12_setSteps_137 : decode cX12_setSteps 137 = .ok (.iaload, 1) := by decide +kernel
theorem dX12_setSteps_138 : decode cX12_setSteps 138 = .ok (.iconst 1, 1) := by decide +kernel
theorem dX12_setSteps_139 : decode cX12_setSteps 139 = .ok (.iadd, 1) := by decide +kernel
theorem dX12_setSteps_140 : decode cX12_setSteps 140 = .ok (.invokestatic 180, 3) := by decide +kernel
theorem dX12_setSteps_143 : decode cX12_setSteps 143 = .ok (.goto 10, 3) := by decide +kernel
theorem dX12_setSteps_146 : decode cX12_setSteps 146 = .ok (.aload_n 0, 1) := by decide +kernel
theorem dX12_setSteps_147 : decode cX12_setSteps 147 = .ok (.getfield 52, 3) := by decide +kernel
theorem dX12_setSteps_150 : decode cX12_setSteps 150 = .ok (.iload 6, 2) := by decide +kernel
theorem dX12_setSteps_152 : decode cX12_setSteps 152 = .ok (.iaload, 1) := by decide +kernel
theorem dX12_setSteps_153 : decode cX12_setSteps 153 = .ok (.iastore, 1) := by decide +kernel
theorem dX12_setSteps_154 : decode cX12_setSteps 154 = .ok (.iinc 7 1, 3) := by decide +kernel
theorem dX12_setSteps_157 : decode cX12_setSteps 157 = .ok (.goto (-87), 3) := by decide +kernel
theorem dX12_setSteps_160 : decode cX12_setSteps 160 = .ok (.iinc 6 1, 3) := by decide +kernel
theorem dX12_setSteps_163 : decode cX12_setSteps 163 = .ok (.goto (-105), 3) := by decide +kernel
theorem dX12_setSteps_166 : decode cX12_setSteps 166 = .ok (.iinc 5 1, 3) := by decide +kernel
theorem dX12_setSteps_169 : decode cX12_setSteps 169 = .ok (.goto (-123), 3) := by decide +kernel
theorem dX12_setSteps_172 : decode cX12_setSteps 172 = .ok (.aload_n 0, 1) := by decide +kernel
theorem dX12_setSteps_173 : decode cX12_setSteps 173 = .ok (.getfield 52, 3) := by decide +kernel
theorem dX12_setSteps_176 : decode cX12_setSteps 176 = .ok (.iload_n 1, 1) := by decide +kernel
theorem dX12_setSteps_177 : decode cX12_setSteps 177 = .ok (.iaload, 1) := by decide +kernel
theorem dX12_setSteps_178 : decode cX12_setSteps 178 = .ok (.ireturn, 1) := by decide +kernel
theorem dX12_bag_0 : decode cX12_bag 0 = .ok (.aload_n 0, 1) := by decide +kernel
theorem dX12_bag_1 : decode cX12_bag 1 = .ok (.iload_n 1, 1) := by decide +kernel
theorem dX12_bag_2 : decode cX12_bag 2 = .ok (.invokevirtual 108, 3) := by decide +kernel
theorem dX12_bag_5 : decode cX12_bag 5 = .ok (.ifCond .eq 32, 3) := by decide +kernel
theorem dX12_bag_8 : decode cX12_bag 8 = .ok (.aload_n 0, 1) := by decide +kernel
theorem dX12_bag_9 : decode cX12_bag 9 = .ok (.iload_n 2, 1) := by decide +kernel
theorem dX12_bag_10 : decode cX12_bag 10 = .ok (.invokevirtual 108, 3) := by decide +kernel
theorem dX12_bag_13 : decode cX12_bag 13 = .ok (.ifCond .eq 24, 3) := by decide +kernel
theorem dX12_bag_16 : decode cX12_bag 16 = .ok (.iload_n 1, 1) := by decide +kernel
theorem dX12_bag_17 : decode cX12_bag 17 = .ok (.iload_n 2, 1) := by decide +kernel
theorem dX12_bag_18 : decode cX12_bag 18 = .ok (.if_icmp .eq 19, 3) := by decide +kernel
theorem dX12_bag_21 : decode cX12_bag 21 = .ok (.iload_n 3, 1) := by decide +kernel
theorem dX12_bag_22 : decode cX12_bag 22 = .ok (.iconst 0, 1) := by decide +kernel
theorem dX12_bag_23 : decode cX12_bag 23 = .ok (.bipush 99, 2) := by decide +kernel
theorem dX12_bag_25 : decode cX12_bag 25 = .ok (.invokestatic 93, 3) := by decide +kernel
theorem dX12_bag_28 : decode cX12_bag 28 = .ok (.ifCond .eq 9, 3) := by decide +kernel
theorem dX12_bag_31 : decode cX12_bag 31 = .ok (.iload 4, 2) := by decide +kernel
theorem dX12_bag_33 : decode cX12_bag 33 = .ok (.iconst (-1), 1) := by decide +kernel
theorem dX12_bag_34 : decode cX12_bag 34 = .ok (.if_icmp .ge 8, 3) := by decide +kernel
theorem dX12_bag_37 : decode cX12_bag 37 = .ok (.aload_n 0, 1) := by decide +kernel
theorem dX12_bag_38 : decode cX12_bag 38 = .ok (.invokevirtual 219, 3) := by decide +kernel
theorem dX12_bag_41 : decode cX12_bag 41 = .ok (.ireturn, 1) := by decide +kernel
theorem dX12_bag_42 : decode cX12_bag 42 = .ok (.iconst (-1), 1) := by decide +kernel
theorem dX12_bag_43 : decode cX12_bag 43 = .ok (.istore 5, 2) := by decide +kernel
theorem dX12_bag_45 : decode cX12_bag 45 = .ok (.iconst 0, 1) := by decide +kernel
theorem dX12_bag_46 : decode cX12_bag 46 = .ok (.istore 6, 2) := by decide +kernel
theorem dX12_bag_48 : decode cX12_bag 48 = .ok (.iload 6, 2) := by decide +kernel
theorem dX12_bag_50 : decode cX12_bag 50 = .ok (.aload_n 0, 1) := by decide +kernel
theorem dX12_bag_51 : decode cX12_bag 51 = .ok (.getfield 77, 3) := by decide +kernel
theorem dX12_bag_54 : decode cX12_bag 54 = .ok (.if_icmp .ge 50, 3) := by decide +kernel
theorem dX12_bag_57 : decode cX12_bag 57 = .ok (.aload_n 0, 1) := by decide +kernel
theorem dX12_bag_58 : decode cX12_bag 58 = .ok (.iload 6, 2) := by decide +kernel
theorem dX12_bag_60 : decode cX12_bag 60 = .ok (.iload_n 3, 1) := by decide +kernel
theorem dX12_bag_61 : decode cX12_bag 61 = .ok (.invokevirtual 186, 3) := by decide +kernel
theorem dX12_bag_64 : decode cX12_bag 64 = .ok (.istore 7, 2) := by decide +kernel
theorem dX12_bag_66 : decode cX12_bag 66 = .ok (.iload 7, 2) := by decide +kernel
theorem dX12_bag_68 : decode cX12_bag 68 = .ok (.iload 5, 2) := by decide +kernel
theorem dX12_bag_70 : decode cX12_bag 70 = .ok (.if_icmp .le 24, 3) := by decide +kernel
theorem dX12_bag_73 : decode cX12_bag 73 = .ok (.aload_n 0, 1) := by decide +kernel
theorem dX12_bag_74 : decode cX12_bag 74 = .ok (.iload_n 1, 1) := by decide +kernel
theorem dX12_bag_75 : decode cX12_bag 75 = .ok (.iload_n 2, 1) := by decide +kernel
theorem dX12_bag_76 : decode cX12_bag 76 = .ok (.iload_n 3, 1) := by decide +kernel
theorem dX12_bag_77 : decode cX12_bag 77 = .ok (.iload 7, 2) := by decide +kernel
theorem dX12_bag_79 : decode cX12_bag 79 = .ok (.invokevirtual 222, 3) := by decide +kernel
theorem dX12_bag_82 : decode cX12_bag 82 = .ok (.aload_n 0, 1) := by decide +kernel
theorem dX12_bag_83 : decode cX12_bag 83 = .ok (.getfield 77, 3) := by decide +kernel
theorem dX12_bag_86 : decode cX12_bag 86 = .ok (.if_icmp .gt 8, 3) := by decide +kernel
theorem dX12_bag_89 : decode cX12_bag 89 = .ok (.iload 7, 2) := by decide +kernel
theorem dX12_bag_91 : decode cX12_bag 91 = .ok (.goto 5, 3) := by decide +kernel
theorem dX12_bag_94 : decode cX12_bag 94 = .ok (.iload 5, 2) := by decide +kernel
theorem dX12_bag_96 : decode cX12_bag 96 = .ok (.istore 5, 2) := by decide +kernel
theorem dX12_bag_98 : decode cX12_bag 98 = .ok (.iinc 6 1, 3) := by decide +kernel
theorem dX12_bag_101 : decode cX12_bag 101 = .ok (.goto (-53), 3) := by decide +kernel
theorem dX12_bag_104 : decode cX12_bag 104 = .ok (.iload 5, 2) := by decide +kernel
theorem dX12_bag_106 : decode cX12_bag 106 = .ok (.iconst (-1), 1) := by decide +kernel
theorem dX12_bag_107 : decode cX12_bag 107 = .ok (.if_icmp .eq 9, 3) := by decide +kernel
theorem dX12_bag_110 : decode cX12_bag 110 = .ok (.iload 4, 2) := by decide +kernel
theorem dX12_bag_112 : decode cX12_bag 112 = .ok (.iconst (-1), 1) := by decide +kernel
theorem dX12_bag_113 : decode cX12_bag 113 = .ok (.if_icmp .ne 6, 3) := by decide +kernel
theorem dX12_bag_116 : decode cX12_bag 116 = .ok (.iload 5, 2) := by decide +kernel
theorem dX12_bag_118 : decode cX12_bag 118 = .ok (.ireturn, 1) := by decide +kernel
theorem dX12_bag_119 : decode cX12_bag 119 = .ok (.aload_n 0, 1) := by decide +kernel
theorem dX12_bag_120 : decode cX12_bag 120 = .ok (.iload_n 1, 1) := by decide +kernel
theorem dX12_bag_121 : decode cX12_bag 121 = .ok (.iload_n 2, 1) := by decide +kernel
theorem dX12_bag_122 : decode cX12_bag 122 = .ok (.iload_n 3, 1) := by decide +kernel
theorem dX12_bag_123 : decode cX12_bag 123 = .ok (.iload 5, 2) := by decide +kernel
theorem dX12_bag_125 : decode cX12_bag 125 = .ok (.invokevirtual 222, 3) := by decide +kernel
theorem dX12_bag_128 : decode cX12_bag 128 = .ok (.istore 6, 2) := by decide +kernel
theorem dX12_bag_130 : decode cX12_bag 130 = .ok (.iload_n 1, 1) := by decide +kernel
theorem dX12_bag_131 : decode cX12_bag 131 = .ok (.istore 7, 2) := by decide +kernel
theorem dX12_bag_133 : decode cX12_bag 133 = .ok (.iconst 0, 1) := by decide +kernel
theorem dX12_bag_134 : decode cX12_bag 134 = .ok (.istore 8, 2) := by decide +kernel
theorem dX12_bag_136 : decode cX12_bag 136 = .ok (.iload 8, 2) := by decide +kernel
theorem dX12_bag_138 : decode cX12_bag 138 = .ok (.iload 6, 2) := by decide +kernel
theorem dX12_bag_140 : decode cX12_bag 140 = .ok (.if_icmp .ge 98, 3) := by decide +kernel
theorem dX12_bag_143 : decode cX12_bag 143 = .ok (.aload_n 0, 1) := by decide +kernel
theorem dX12_bag_144 : decode cX12_bag 144 = .ok (.getfield 55, 3) := by decide +kernel
theorem dX12_bag_147 : decode cX12_bag 147 = .ok (.iload 8, 2) := by decide +kernel
theorem dX12_bag_149 : decode cX12_bag 149 = .ok (.iload 7, 2) := by decide +kernel
theorem dX12_bag_151 : decode cX12_bag 151 = .ok (.iastore, 1) := by decide +kernel
theorem dX12_bag_152 : decode cX12_bag 152 = .ok (.iconst (-1), 1) := by decide +kernel
theorem dX12_bag_153 : decode cX12_bag 153 = .ok (.istore 9, 2) := by decide +kernel
theorem dX12_bag_155 : decode cX12_bag 155 = .ok (.aload_n 0, 1) := by decide +kernel
theorem dX12_bag_156 : decode cX12_bag 156 = .ok (.getfield 77, 3) := by decide +kernel
theorem dX12_bag_159 : decode cX12_bag 159 = .ok (.iconst 1, 1) := by decide +kernel
theorem dX12_bag_160 : decode cX12_bag 160 = .ok (.isub, 1) := by decide +kernel
theorem dX12_bag_161 : decode cX12_bag 161 = .ok (.istore 10, 2) := by decide +kernel
theorem dX12_bag_163 : decode cX12_bag 163 = .ok (.iload 10, 2) := by decide +kernel
theorem dX12_bag_165 : decode cX12_bag 165 = .ok (.ifCond .lt 52, 3) := by decide +kernel
theorem dX12_bag_168 : decode cX12_bag 168 = .ok (.aload_n 0, 1) := by decide +kernel
theorem dX12_bag_169 : decode cX12_bag 169 = .ok (.getfield 25, 3) := by decide +kernel
theorem dX12_bag_172 : decode cX12_bag 172 = .ok (.iload 7, 2) := by decide +kernel
theorem dX12_bag_174 : decode cX12_bag 174 = .ok (.iaload, 1) := by decide +kernel
theorem dX12_bag_175 : decode cX12_bag 175 = .ok (.iload 10, 2) := by decide +kernel
theorem dX12_bag_177 : decode cX12_bag 177 = .ok (.invokestatic 199, 3) := by decide +kernel
theorem dX12_bag_180 : decode cX12_bag 180 = .ok (.ifCond .eq 27, 3) := by decide +kernel
theorem dX12_bag_183 : decode cX12_bag 183 = .ok (.aload_n 0, 1) := by decide +kernel
theorem dX12_bag_184 : decode cX12_bag 184 = .ok (.getfield 52, 3) := by decide +kernel
theorem dX12_bag_187 : decode cX12_bag 187 = .ok (.iload 10, 2) := by decide +kernel
theorem dX12_bag_189 : decode cX12_bag 189 = .ok (.iaload, 1) := by decide +kernel
theorem dX12_bag_190 : decode cX12_bag 190 = .ok (.aload_n 0, 1) := by decide +kernel
theorem dX12_bag_191 : decode cX12_bag 191 = .ok (.getfield 52, 3) := by decide +kernel
theorem dX12_bag_194 : decode cX12_bag 194 = .ok (.iload 7, 2) := by decide +kernel
theorem dX12_bag_196 : decode cX12_bag 196 = .ok (.iaload, 1) := by decide +kernel
theorem dX12_bag_197 : decode cX12_bag 197 = .ok (.iconst 1, 1) := by decide +kernel
theorem dX12_bag_198 : decode cX12_bag 198 = .ok (.isub, 1) := by decide +kernel
theorem dX12_bag_199 : decode cX12_bag 199 = .ok (.if_icmp .ne 8, 3) := by decide +kernel
theorem dX12_bag_202 : decode cX12_bag 202 = .ok (.iload 10, 2) := by decide +kernel
theorem dX12_bag_204 : decode cX12_bag 204 = .ok (.goto 5, 3) := by decide +kernel
theorem dX12_bag_207 : decode cX12_bag 207 = .ok (.iload 9, 2) := by decide +kernel
theorem dX12_bag_209 : decode cX12_bag 209 = .ok (.istore 9, 2) := by decide +kernel
theorem dX12_bag_211 : decode cX12_bag 211 = .ok (.iinc 10 (-1), 3) := by decide +kernel
theorem dX12_bag_214 : decode cX12_bag 214 = .ok (.goto (-51), 3) := by decide +kernel
theorem dX12_bag_217 : decode cX12_bag 217 = .ok (.iload 9, 2) := by decide +kernel
theorem dX12_bag_219 : decode cX12_bag 219 = .ok (.iconst (-1), 1) := by decide +kernel
theorem dX12_bag_220 : decode cX12_bag 220 = .ok (.if_icmp .ne 8, 3) := by decide +kernel
theorem dX12_bag_223 : decode cX12_bag 223 = .ok (.iload 7, 2) := by decide +kernel
theorem dX12_bag_225 : decode cX12_bag 225 = .ok (.goto 5, 3) := by decide +kernel
theorem dX12_bag_228 : decode cX12_bag 228 = .ok (.iload 9, 2) := by decide +kernel
theorem dX12_bag_230 : decode cX12_bag 230 = .ok (.istore 7, 2) := by decide +kernel
theorem dX12_bag_232 : decode cX12_bag 232 = .ok (.iinc 8 1, 3) := by decide +kernel
theorem dX12_bag_235 : decode cX12_bag 235 = .ok (.goto (-99), 3) := by decide +kernel
theorem dX12_bag_238 : decode cX12_bag 238 = .ok (.iload 4, 2) := by decide +kernel
theorem dX12_bag_240 : decode cX12_bag 240 = .ok (.iload 6, 2) := by decide +kernel
theorem dX12_bag_242 : decode cX12_bag 242 = .ok (.if_icmp .ge 13, 3) := by decide +kernel
theorem dX12_bag_245 : decode cX12_bag 245 = .ok (.aload_n 0, 1) := by decide +kernel
theorem dX12_bag_246 : decode cX12_bag 246 = .ok (.getfield 55, 3) := by decide +kernel
theorem dX12_bag_249 : decode cX12_bag 249 = .ok (.iload 4, 2) := by decide +kernel
theorem dX12_bag_251 : decode cX12_bag 251 = .ok (.iaload, 1) := by decide +kernel
theorem dX12_bag_252 : decode cX12_bag 252 = .ok (.goto 5, 3) := by decide +kernel
theorem dX12_bag_255 : decode cX12_bag 255 = .ok (.bipush (-5), 2) := by decide +kernel
theorem dX12_bag_257 : decode cX12_bag 257 = .ok (.ireturn, 1) := by decide +kernel
theorem dX12_debt_0 : decode cX12_debt 0 = .ok (.aload_n 0, 1) := by decide +kernel
theorem dX12_debt_1 : decode cX12_debt 1 = .ok (.iload_n 1, 1) := by decide +kernel
theorem dX12_debt_2 : decode cX12_debt 2 = .ok (.invokevirtual 108, 3) := by decide +kernel
theorem dX12_debt_5 : decode cX12_debt 5 = .ok (.ifCond .eq 14, 3) := by decide +kernel
theorem dX12_debt_8 : decode cX12_debt 8 = .ok (.iload_n 2, 1) := by decide +kernel
theorem dX12_debt_9 : decode cX12_debt 9 = .ok (.iconst 0, 1) := by decide +kernel
theorem dX12_debt_10 : decode cX12_debt 10 = .ok (.sipush 999, 3) := by decide +kernel
theorem dX12_debt_13 : decode cX12_debt 13 = .ok (.invokestatic 93, 3) := by decide +kernel
theorem dX12_debt_16 : decode cX12_debt 16 = .ok (.ifCond .ne 8, 3) := by decide +kernel
theorem dX12_debt_19 : decode cX12_debt 19 = .ok (.aload_n 0, 1) := by decide +kernel
theorem dX12_debt_20 : decode cX12_debt 20 = .ok (.invokevirtual 97, 3) := by decide +kernel
theorem dX12_debt_23 : decode cX12_debt 23 = .ok (.ireturn, 1) := by decide +kernel
theorem dX12_debt_24 : decode cX12_debt 24 = .ok (.iconst 0, 1) := by decide +kernel
theorem dX12_debt_25 : decode cX12_debt 25 = .ok (.istore_n 3, 1) := by decide +kernel
theorem dX12_debt_26 : decode cX12_debt 26 = .ok (.iload_n 3, 1) := by decide +kernel
theorem dX12_debt_27 : decode cX12_debt 27 = .ok (.bipush 99, 2) := by decide +kernel
theorem dX12_debt_29 : decode cX12_debt 29 = .ok (.if_icmp .gt 19, 3) := by decide +kernel
theorem dX12_debt_32 : decode cX12_debt 32 = .ok (.aload_n 0, 1) := by decide +kernel
theorem dX12_debt_33 : decode cX12_debt 33 = .ok (.iload_n 1, 1) := by decide +kernel
theorem dX12_debt_34 : decode cX12_debt 34 = .ok (.iload_n 3, 1) := by decide +kernel
theorem dX12_debt_35 : decode cX12_debt 35 = .ok (.invokevirtual 186, 3) := by decide +kernel
theorem dX12_debt_38 : decode cX12_debt 38 = .ok (.iload_n 2, 1) := by decide +kernel
theorem dX12_debt_39 : decode cX12_debt 39 = .ok (.if_icmp .ge 9, 3) := by decide +kernel
theorem dX12_debt_42 : decode cX12_debt 42 = .ok (.iinc 3 1, 3) := by decide +kernel
theorem dX12_debt_45 : decode cX12_debt 45 = .ok (.goto (-19), 3) := by decide +kernel
theorem dX12_debt_48 : decode cX12_debt 48 = .ok (.iload_n 3, 1) := by decide +kernel
theorem dX12_debt_49 : decode cX12_debt 49 = .ok (.bipush 99, 2) := by decide +kernel
theorem dX12_debt_51 : decode cX12_debt 51 = .ok (.if_icmp .le 7, 3) := by decide +kernel
theorem dX12_debt_54 : decode cX12_debt 54 = .ok (.iconst (-1), 1) := by decide +kernel
theorem dX12_debt_55 : decode cX12_debt 55 = .ok (.goto 4, 3) := by decide +kernel
theorem dX12_debt_58 : decode cX12_debt 58 = .ok (.iload_n 3, 1) := by decide +kernel
theorem dX12_debt_59 : decode cX12_debt 59 = .ok (.ireturn, 1) := by decide +kernel
theorem dX12_hire_0 : decode cX12_hire 0 = .ok (.iload_n 1, 1) := by decide +kernel
theorem dX12_hire_1 : decode cX12_hire 1 = .ok (.iconst 0, 1) := by decide +kernel
theorem dX12_hire_2 : decode cX12_hire 2 = .ok (.bipush 120, 2) := by decide +kernel
theorem dX12_hire_4 : decode cX12_hire 4 = .ok (.invokestatic 93, 3) := by decide +kernel
theorem dX12_hire_7 : decode cX12_hire 7 = .ok (.ifCond .eq 22, 3) := by decide +kernel
theorem dX12_hire_10 : decode cX12_hire 10 = .ok (.iload_n 2, 1) := by decide +kernel
theorem dX12_hire_11 : decode cX12_hire 11 = .ok (.iconst 0, 1) := by decide +kernel
theorem dX12_hire_12 : decode cX12_hire 12 = .ok (.bipush 99, 2) := by decide +kernel
theorem dX12_hire_14 : decode cX12_hire 14 = .ok (.invokestatic 93, 3) := by decide +kernel
theorem dX12_hire_17 : decode cX12_hire 17 = .ok (.ifCond .eq 12, 3) := by decide +kernel
theorem dX12_hire_20 : decode cX12_hire 20 = .ok (.iload_n 3, 1) := by decide +kernel
theorem dX12_hire_21 : decode cX12_hire 21 = .ok (.iconst 0, 1) := by decide +kernel
theorem dX12_hire_22 : decode cX12_hire 22 = .ok (.iconst 1, 1) := by decide +kernel
theorem dX12_hire_23 : decode cX12_hire 23 = .ok (.invokestatic 93, 3) := by decide +kernel
theorem dX12_hire_26 : decode cX12_hire 26 = .ok (.ifCond .ne 8, 3) := by decide +kernel
theorem dX12_hire_29 : decode cX12_hire 29 = .ok (.aload_n 0, 1) := by decide +kernel
theorem dX12_hire_30 : decode cX12_hire 30 = .ok (.invokevirtual 97, 3) := by decide +kernel
theorem dX12_hire_33 : decode cX12_hire 33 = .ok (.ireturn, 1) := by decide +kernel
theorem dX12_hire_34 : decode cX12_hire 34 = .ok (.iconst 0, 1) := by decide +kernel
theorem dX12_hire_35 : decode cX12_hire 35 = .ok (.istore 4, 2) := by decide +kernel
theorem dX12_hire_37 : decode cX12_hire 37 = .ok (.iconst (-1), 1) := by decide +kernel
theorem dX12_hire_38 : decode cX12_hire 38 = .ok (.istore 5, 2) := by decide +kernel
theorem dX12_hire_40 : decode cX12_hire 40 = .ok (.iconst 0, 1) := by decide +kernel
theorem dX12_hire_41 : decode cX12_hire 41 = .ok (.istore 6, 2) := by decide +kernel
theorem dX12_hire_43 : decode cX12_hire 43 = .ok (.iload 6, 2) := by decide +kernel
theorem dX12_hire_45 : decode cX12_hire 45 = .ok (.iconst 1, 1) := by decide +kernel
theorem dX12_hire_46 : decode cX12_hire 46 = .ok (.aload_n 0, 1) := by decide +kernel
theorem dX12_hire_47 : decode cX12_hire 47 = .ok (.getfield 77, 3) := by decide +kernel
theorem dX12_hire_50 : decode cX12_hire 50 = .ok (.ishl, 1) := by decide +kernel
theorem dX12_hire_51 : decode cX12_hire 51 = .ok (.if_icmp .ge 133, 3) := by decide +kernel
theorem dX12_hire_54 : decode cX12_hire 54 = .ok (.iconst 0, 1) := by decide +kernel
theorem dX12_hire_55 : decode cX12_hire 55 = .ok (.istore 7, 2) := by decide +kernel
theorem dX12_hire_57 : decode cX12_hire 57 = .ok (.iconst 0, 1) := by decide +kernel
theorem dX12_hire_58 : decode cX12_hire 58 = .ok (.istore 8, 2) := by decide +kernel
theorem dX12_hire_60 : decode cX12_hire 60 = .ok (.iconst 0, 1) := by decide +kernel
theorem dX12_hire_61 : decode cX12_hire 61 = .ok (.istore 9, 2) := by decide +kernel
theorem dX12_hire_63 : decode cX12_hire 63 = .ok (.iload 9, 2) := by decide +kernel
theorem dX12_hire_65 : decode cX12_hire 65 = .ok (.aload_n 0, 1) := by decide +kernel
theorem dX12_hire_66 : decode cX12_hire 66 = .ok (.getfield 77, 3) := by decide +kernel
theorem dX12_hire_69 : decode cX12_hire 69 = .ok (.if_icmp .ge 61, 3) := by decide +kernel
theorem dX12_hire_72 : decode cX12_hire 72 = .ok (.iload 7, 2) := by decide +kernel
theorem dX12_hire_74 : decode cX12_hire 74 = .ok (.iload 6, 2) := by decide +kernel
theorem dX12_hire_76 : decode cX12_hire 76 = .ok (.iload 9, 2) := by decide +kernel
theorem dX12_hire_78 : decode cX12_hire 78 = .ok (.invokestatic 199, 3) := by decide +kernel
theorem dX12_hire_81 : decode cX12_hire 81 = .ok (.ifCond .eq 13, 3) := by decide +kernel
theorem dX12_hire_84 : decode cX12_hire 84 = .ok (.aload_n 0, 1) := by decide +kernel
theorem dX12_hire_85 : decode cX12_hire 85 = .ok (.getfield 22, 3) := by decide +kernel
theorem dX12_hire_88 : decode cX12_hire 88 = .ok (.iload 9, 2) := by decide +kernel
theorem dX12_hire_90 : decode cX12_hire 90 = .ok (.iaload, 1) := by decide +kernel
theorem dX12_hire_91 : decode cX12_hire 91 = .ok (.goto 4, 3) := by decide +kernel
theorem dX12_hire_94 : decode cX12_hire 94 = .ok (.iconst 0, 1) := by decide +kernel
theorem dX12_hire_95 : decode cX12_hire 95 = .ok (.iadd, 1) := by decide +kernel
theorem dX12_hire_96 : decode cX12_hire 96 = .ok (.istore 7, 2) := by decide +kernel
theorem dX12_hire_98 : decode cX12_hire 98 = .ok (.iload 8, 2) := by decide +kernel
theorem dX12_hire_100 : decode cX12_hire 100 = .ok (.iload 6, 2) := by decide +kernel
theorem dX12_hire_102 : decode cX12_hire 102 = .ok (.iload 9, 2) := by decide +kernel
theorem dX12_hire_104 : decode cX12_hire 104 = .ok (.invokestatic 199, 3) := by decide +kernel
theorem dX12_hire_107 : decode cX12_hire 107 = .ok (.ifCond .eq 13, 3) := by decide +kernel
theorem dX12_hire_110 : decode cX12_hire 110 = .ok (.aload_n 0, 1) := by decide +kernel
theorem dX12_hire_111 : decode cX12_hire 111 = .ok (.iload 9, 2) := by decide +kernel
theorem dX12_hire_113 : decode cX12_hire 113 = .ok (.iload_n 2, 1) := by decide +kernel
theorem dX12_hire_114 : decode cX12_hire 114 = .ok (.invokevirtual 186, 3) := by decide +kernel
theorem dX12_hire_117 : decode cX12_hire 117 = .ok (.goto 4, 3) := by decide +kernel
theorem dX12_hire_120 : decode cX12_hire 120 = .ok (.iconst 0, 1) := by decide +kernel
theorem dX12_hire_121 : decode cX12_hire 121 = .ok (.iadd, 1) := by decide +kernel
theorem dX12_hire_122 : decode cX12_hire 122 = .ok (.istore 8, 2) := by decide +kernel
theorem dX12_hire_124 : decode cX12_hire 124 = .ok (.iinc 9 1, 3) := by decide +kernel
theorem dX12_hire_127 : decode cX12_hire 127 = .ok (.goto (-64), 3) := by decide +kernel
theorem dX12_hire_130 : decode cX12_hire 130 = .ok (.iload 7, 2) := by decide +kernel
theorem dX12_hire_132 : decode cX12_hire 132 = .ok (.iload_n 1, 1) := by decide +kernel
theorem dX12_hire_133 : decode cX12_hire 133 = .ok (.if_icmp .gt 14, 3) := by decide +kernel
theorem dX12_hire_136 : decode cX12_hire 136 = .ok (.iload 8, 2) := by decide +kernel
theorem dX12_hire_138 : decode cX12_hire 138 = .ok (.iload 5, 2) := by decide +kernel
theorem dX12_hire_140 : decode cX12_hire 140 = .ok (.if_icmp .le 7, 3) := by decide +kernel
theorem dX12_hire_143 : decode cX12_hire 143 = .ok (.iconst 1, 1) := by decide +kernel
theorem dX12_hire_144 : decode cX12_hire 144 = .ok (.goto 4, 3) := by decide +kernel
theorem dX12_hire_147 : decode cX12_hire 147 = .ok (.iconst 0, 1) := by decide +kernel
theorem dX12_hire_148 : decode cX12_hire 148 = .ok (.istore 9, 2) := by decide +kernel
theorem dX12_hire_150 : decode cX12_hire 150 = .ok (.iload 9, 2) := by decide +kernel
theorem dX12_hire_152 : decode cX12_hire 152 = .ok (.ifCond .eq 8, 3) := by decide +kernel
theorem dX12_hire_155 : decode cX12_hire 155 = .ok (.iload 6, 2) := by decide +kernel
theorem dX12_hire_157 : decode cX12_hire 157 = .ok (.goto 5, 3) := by decide +kernel
theorem dX12_hire_160 : decode cX12_hire 160 = .ok (.iload 4, 2) := by decide +kernel
theorem dX12_hire_162 : decode cX12_hire 162 = .ok (.istore 4, 2) := by decide +kernel
theorem dX12_hire_164 : decode cX12_hire 164 = .ok (.iload 9, 2) := by decide +kernel
theorem dX12_hire_166 : decode cX12_hire 166 = .ok (.ifCond .eq 8, 3) := by decide +kernel
theorem dX12_hire_169 : decode cX12_hire 169 = .ok (.iload 8, 2) := by decide +kernel
theorem dX12_hire_171 : decode cX12_hire 171 = .ok (.goto 5, 3) := by decide +kernel
theorem dX12_hire_174 : decode cX12_hire 174 = .ok (.iload 5, 2) := by decide +kernel
theorem dX12_hire_176 : decode cX12_hire 176 = .ok (.istore 5, 2) := by decide +kernel
theorem dX12_hire_178 : decode cX12_hire 178 = .ok (.iinc 6 1, 3) := by decide +kernel
theorem dX12_hire_181 : decode cX12_hire 181 = .ok (.goto (-138), 3) := by decide +kernel
theorem dX12_hire_184 : decode cX12_hire 184 = .ok (.iload_n 3, 1) := by decide +kernel
theorem dX12_hire_185 : decode cX12_hire 185 = .ok (.ifCond .ne 8, 3) := by decide +kernel
theorem dX12_hire_188 : decode cX12_hire 188 = .ok (.iload 4, 2) := by decide +kernel
theorem dX12_hire_190 : decode cX12_hire 190 = .ok (.goto 5, 3) := by decide +kernel
theorem dX12_hire_193 : decode cX12_hire 193 = .ok (.iload 5, 2) := by decide +kernel
theorem dX12_hire_195 : decode cX12_hire 195 = .ok (.ireturn, 1) := by decide +kernel
theorem dX12_nextBags_0 : decode cX12_nextBags 0 = .ok (.aload_n 0, 1) := by decide +kernel
theorem dX12_nextBags_1 : decode cX12_nextBags 1 = .ok (.getfield 77, 3) := by decide +kernel
theorem dX12_nextBags_4 : decode cX12_nextBags 4 = .ok (.iconst 2, 1) := by decide +kernel
theorem dX12_nextBags_5 : decode cX12_nextBags 5 = .ok (.isub, 1) := by decide +kernel
theorem dX12_nextBags_6 : decode cX12_nextBags 6 = .ok (.istore_n 1, 1) := by decide +kernel
theorem dX12_nextBags_7 : decode cX12_nextBags 7 = .ok (.iload_n 1, 1) := by decide +kernel
theorem dX12_nextBags_8 : decode cX12_nextBags 8 = .ok (.ifCond .lt 26, 3) := by decide +kernel
theorem dX12_nextBags_11 : decode cX12_nextBags 11 = .ok (.aload_n 0, 1) := by decide +kernel
theorem dX12_nextBags_12 : decode cX12_nextBags 12 = .ok (.getfield 58, 3) := by decide +kernel
theorem dX12_nextBags_15 : decode cX12_nextBags 15 = .ok (.iload_n 1, 1) := by decide +kernel
theorem dX12_nextBags_16 : decode cX12_nextBags 16 = .ok (.iaload, 1) := by decide +kernel
theorem dX12_nextBags_17 : decode cX12_nextBags 17 = .ok (.aload_n 0, 1) := by decide +kernel
theorem dX12_nextBags_18 : decode cX12_nextBags 18 = .ok (.getfield 58, 3) := by decide +kernel
theorem dX12_nextBags_21 : decode cX12_nextBags 21 = .ok (.iload_n 1, 1) := by decide +kernel
theorem dX12_nextBags_22 : decode cX12_nextBags 22 = .ok (.iconst 1, 1) := by decide +kernel
theorem dX12_nextBags_23 : decode cX12_nextBags 23 = .ok (.iadd, 1) := by decide +kernel
theorem dX12_nextBags_24 : decode cX12_nextBags 24 = .ok (.iaload, 1) := by decide +kernel
theorem dX12_nextBags_25 : decode cX12_nextBags 25 = .ok (.if_icmp .le 9, 3) := by decide +kernel
theorem dX12_nextBags_28 : decode cX12_nextBags 28 = .ok (.iinc 1 (-1), 3) := by decide +kernel
theorem dX12_nextBags_31 : decode cX12_nextBags 31 = .ok (.goto (-24), 3) := by decide +kernel
theorem dX12_nextBags_34 : decode cX12_nextBags 34 = .ok (.iload_n 1, 1) := by decide +kernel
theorem dX12_nextBags_35 : decode cX12_nextBags 35 = .ok (.ifCond .ge 5, 3) := by decide +kernel
theorem dX12_nextBags_38 : decode cX12_nextBags 38 = .ok (.iconst 0, 1) := by decide +kernel
theorem dX12_nextBags_39 : decode cX12_nextBags 39 = .ok (.ireturn, 1) := by decide +kernel
theorem dX12_nextBags_40 : decode cX12_nextBags 40 = .ok (.aload_n 0, 1) := by decide +kernel
theorem dX12_nextBags_41 : decode cX12_nextBags 41 = .ok (.getfield 77, 3) := by decide +kernel
theorem dX12_nextBags_44 : decode cX12_nextBags 44 = .ok (.iconst 1, 1) := by decide +kernel
theorem dX12_nextBags_45 : decode cX12_nextBags 45 = .ok (.isub, 1) := by decide +kernel
theorem dX12_nextBags_46 : decode cX12_nextBags 46 = .ok (.istore_n 2, 1) := by decide +kernel
theorem dX12_nextBags_47 : decode cX12_nextBags 47 = .ok (.aload_n 0, 1) := by decide +kernel
theorem dX12_nextBags_48 : decode cX12_nextBags 48 = .ok (.getfield 58, 3) := by decide +kernel
theorem dX12_nextBags_51 : decode cX12_nextBags 51 = .ok (.iload_n 2, 1) := by decide +kernel
theorem dX12_nextBags_52 : decode cX12_nextBags 52 = .ok (.iaload, 1) := by decide +kernel
theorem dX12_nextBags_53 : decode cX12_nextBags 53 = .ok (.aload_n 0, 1) := by decide +kernel
theorem dX12_nextBags_54 : decode cX12_nextBags 54 = .ok (.getfield 58, 3) := by decide +kernel
theorem dX12_nextBags_57 : decode cX12_nextBags 57 = .ok (.iload_n 1, 1) := by decide +kernel
theorem dX12_nextBags_58 : decode cX12_nextBags 58 = .ok (.iaload, 1) := by decide +kernel
theorem dX12_nextBags_59 : decode cX12_nextBags 59 = .ok (.if_icmp .ge 9, 3) := by decide +kernel
theorem dX12_nextBags_62 : decode cX12_nextBags 62 = .ok (.iinc 2 (-1), 3) := by decide +kernel
theorem dX12_nextBags_65 : decode cX12_nextBags 65 = .ok (.goto (-18), 3) := by decide +kernel
theorem dX12_nextBags_68 : decode cX12_nextBags 68 = .ok (.aload_n 0, 1) := by decide +kernel
theorem dX12_nextBags_69 : decode cX12_nextBags 69 = .ok (.getfield 58, 3) := by decide +kernel
theorem dX12_nextBags_72 : decode cX12_nextBags 72 = .ok (.iload_n 1, 1) := by decide +kernel
theorem dX12_nextBags_73 : decode cX12_nextBags 73 = .ok (.iaload, 1) := by decide +kernel
theorem dX12_nextBags_74 : decode cX12_nextBags 74 = .ok (.istore_n 3, 1) := by decide +kernel
theorem dX12_nextBags_75 : decode cX12_nextBags 75 = .ok (.aload_n 0, 1) := by decide +kernel
theorem dX12_nextBags_76 : decode cX12_nextBags 76 = .ok (.getfield 58, 3) := by decide +kernel
theorem dX12_nextBags_79 : decode cX12_nextBags 79 = .ok (.iload_n 1, 1) := by decide +kernel
theorem dX12_nextBags_80 : decode cX12_nextBags 80 = .ok (.aload_n 0, 1) := by decide +kernel
theorem dX12_nextBags_81 : decode cX12_nextBags 81 = .ok (.getfield 58, 3) := by decide +kernel
theorem dX12_nextBags_84 : decode cX12_nextBags 84 = .ok (.iload_n 2, 1) := by decide +kernel
theorem dX12_nextBags_85 : decode cX12_nextBags 85 = .ok (.iaload, 1) := by decide +kernel
theorem dX12_nextBags_86 : decode cX12_nextBags 86 = .ok (.iastore, 1) := by decide +kernel
theorem dX12_nextBags_87 : decode cX12_nextBags 87 = .ok (.aload_n 0, 1) := by decide +kernel
theorem dX12_nextBags_88 : decode cX12_nextBags 88 = .ok (.getfield 58, 3) := by decide +kernel
theorem dX12_nextBags_91 : decode cX12_nextBags 91 = .ok (.iload_n 2, 1) := by decide +kernel
theorem dX12_nextBags_92 : decode cX12_nextBags 92 = .ok (.iload_n 3, 1) := by decide +kernel
theorem dX12_nextBags_93 : decode cX12_nextBags 93 = .ok (.iastore, 1) := by decide +kernel
theorem dX12_nextBags_94 : decode cX12_nextBags 94 = .ok (.iload_n 1, 1) := by decide +kernel
theorem dX12_nextBags_95 : decode cX12_nextBags 95 = .ok (.iconst 1, 1) := by decide +kernel
theorem dX12_nextBags_96 : decode cX12_nextBags 96 = .ok (.iadd, 1) := by decide +kernel
theorem dX12_nextBags_97 : decode cX12_nextBags 97 = .ok (.istore 4, 2) := by decide +kernel
theorem dX12_nextBags_99 : decode cX12_nextBags 99 = .ok (.aload_n 0, 1) := by decide +kernel
theorem dX12_nextBags_100 : decode cX12_nextBags 100 = .ok (.getfield 77, 3) := by decide +kernel
theorem dX12_nextBags_103 : decode cX12_nextBags 103 = .ok (.iconst 1, 1) := by decide +kernel
theorem dX12_nextBags_104 : decode cX12_nextBags 104 = .ok (.isub, 1) := by decide +kernel
theorem dX12_nextBags_105 : decode cX12_nextBags 105 = .ok (.istore 5, 2) := by decide +kernel
theorem dX12_nextBags_107 : decode cX12_nextBags 107 = .ok (.iload 4, 2) := by decide +kernel
theorem dX12_nextBags_109 : decode cX12_nextBags 109 = .ok (.iload 5, 2) := by decide +kernel
theorem dX12_nextBags_111 : decode cX12_nextBags 111 = .ok (.if_icmp .ge 42, 3) := by decide +kernel
theorem dX12_nextBags_114 : decode cX12_nextBags 114 = .ok (.aload_n 0, 1) := by decide +kernel
theorem dX12_nextBags_115 : decode cX12_nextBags 115 = .ok (.getfield 58, 3) := by decide +kernel
theorem dX12_nextBags_118 : decode cX12_nextBags 118 = .ok (.iload 4, 2) := by decide +kernel
theorem dX12_nextBags_120 : decode cX12_nextBags 120 = .ok (.iaload, 1) := by decide +kernel
theorem dX12_nextBags_121 : decode cX12_nextBags 121 = .ok (.istore_n 3, 1) := by decide +kernel
theorem dX12_nextBags_122 : decode cX12_nextBags 122 = .ok (.aload_n 0, 1) := by decide +kernel
theorem dX12_nextBags_123 : decode cX12_nextBags 123 = .ok (.getfield 58, 3) := by decide +kernel
theorem dX12_nextBags_126 : decode cX12_nextBags 126 = .ok (.iload 4, 2) := by decide +kernel
theorem dX12_nextBags_128 : decode cX12_nextBags 128 = .ok (.aload_n 0, 1) := by decide +kernel
theorem dX12_nextBags_129 : decode cX12_nextBags 129 = .ok (.getfield 58, 3) := by decide +kernel
theorem dX12_nextBags_132 : decode cX12_nextBags 132 = .ok (.iload 5, 2) := by decide +kernel
theorem dX12_nextBags_134 : decode cX12_nextBags 134 = .ok (.iaload, 1) := by decide +kernel
theorem dX12_nextBags_135 : decode cX12_nextBags 135 = .ok (.iastore, 1) := by decide +kernel
theorem dX12_nextBags_136 : decode cX12_nextBags 136 = .ok (.aload_n 0, 1) := by decide +kernel
theorem dX12_nextBags_137 : decode cX12_nextBags 137 = .ok (.getfield 58, 3) := by decide +kernel
theorem dX12_nextBags_140 : decode cX12_nextBags 140 = .ok (.iload 5, 2) := by decide +kernel
theorem dX12_nextBags_142 : decode cX12_nextBags 142 = .ok (.iload_n 3, 1) := by decide +kernel
theorem dX12_nextBags_143 : decode cX12_nextBags 143 = .ok (.iastore, 1) := by decide +kernel
theorem dX12_nextBags_144 : decode cX12_nextBags 144 = .ok (.iinc 4 1, 3) := by decide +kernel
theorem dX12_nextBags_147 : decode cX12_nextBags 147 = .ok (.iinc 5 (-1), 3) := by decide +kernel
theorem dX12_nextBags_150 : decode cX12_nextBags 150 = .ok (.goto (-43), 3) := by decide +kernel
theorem dX12_nextBags_153 : decode cX12_nextBags 153 = .ok (.iconst 1, 1) := by decide +kernel
theorem dX12_nextBags_154 : decode cX12_nextBags 154 = .ok (.ireturn, 1) := by decide +kernel
theorem dX12_shelves_0 : decode cX12_shelves 0 = .ok (.iload_n 1, 1) := by decide +kernel
theorem dX12_shelves_1 : decode cX12_shelves 1 = .ok (.iconst 0, 1) := by decide +kernel
theorem dX12_shelves_2 : decode cX12_shelves 2 = .ok (.bipush 20, 2) := by decide +kernel
theorem dX12_shelves_4 : decode cX12_shelves 4 = .ok (.invokestatic 93, 3) := by decide +kernel
theorem dX12_shelves_7 : decode cX12_shelves 7 = .ok (.ifCond .eq 26, 3) := by decide +kernel
theorem dX12_shelves_10 : decode cX12_shelves 10 = .ok (.iload_n 2, 1) := by decide +kernel
theorem dX12_shelves_11 : decode cX12_shelves 11 = .ok (.iconst 0, 1) := by decide +kernel
theorem dX12_shelves_12 : decode cX12_shelves 12 = .ok (.bipush 9, 2) := by decide +kernel
theorem dX12_shelves_14 : decode cX12_shelves 14 = .ok (.invokestatic 93, 3) := by decide +kernel
theorem dX12_shelves_17 : decode cX12_shelves 17 = .ok (.ifCond .eq 16, 3) := by decide +kernel
theorem dX12_shelves_20 : decode cX12_shelves 20 = .ok (.iload_n 3, 1) := by decide +kernel
theorem dX12_shelves_21 : decode cX12_shelves 21 = .ok (.iconst (-1), 1) := by decide +kernel
theorem dX12_shelves_22 : decode cX12_shelves 22 = .ok (.if_icmp .eq 16, 3) := by decide +kernel
theorem dX12_shelves_25 : decode cX12_shelves 25 = .ok (.aload_n 0, 1) := by decide +kernel
theorem dX12_shelves_26 : decode cX12_shelves 26 = .ok (.iload_n 3, 1) := by decide +kernel
theorem dX12_shelves_27 : decode cX12_shelves 27 = .ok (.invokevirtual 108, 3) := by decide +kernel
theorem dX12_shelves_30 : decode cX12_shelves 30 = .ok (.ifCond .ne 8, 3) := by decide +kernel
theorem dX12_shelves_33 : decode cX12_shelves 33 = .ok (.aload_n 0, 1) := by decide +kernel
theorem dX12_shelves_34 : decode cX12_shelves 34 = .ok (.invokevirtual 219, 3) := by decide +kernel
theorem dX12_shelves_37 : decode cX12_shelves 37 = .ok (.ireturn, 1) := by decide +kernel
theorem dX12_shelves_38 : decode cX12_shelves 38 = .ok (.iconst 0, 1) := by decide +kernel
theorem dX12_shelves_39 : decode cX12_shelves 39 = .ok (.istore 4, 2) := by decide +kernel
theorem dX12_shelves_41 : decode cX12_shelves 41 = .ok (.iload 4, 2) := by decide +kernel
theorem dX12_shelves_43 : decode cX12_shelves 43 = .ok (.aload_n 0, 1) := by decide +kernel
theorem dX12_shelves_44 : decode cX12_shelves 44 = .ok (.getfield 77, 3) := by decide +kernel
theorem dX12_shelves_47 : decode cX12_shelves 47 = .ok (.if_icmp .ge 18, 3) := by decide +kernel
theorem dX12_shelves_50 : decode cX12_shelves 50 = .ok (.aload_n 0, 1) := by decide +kernel
theorem dX12_shelves_51 : decode cX12_shelves 51 = .ok (.getfield 58, 3) := by decide +kernel
theorem dX12_shelves_54 : decode cX12_shelves 54 = .ok (.iload 4, 2) := by decide +kernel
theorem dX12_shelves_56 : decode cX12_shelves 56 = .ok (.iload 4, 2) := by decide +kernel
theorem dX12_shelves_58 : decode cX12_shelves 58 = .ok (.iastore, 1) := by decide +kernel
theorem dX12_shelves_59 : decode cX12_shelves 59 = .ok (.iinc 4 1, 3) := by decide +kernel
theorem dX12_shelves_62 : decode cX12_shelves 62 = .ok (.goto (-21), 3) := by decide +kernel
theorem dX12_shelves_65 : decode cX12_shelves 65 = .ok (.iconst (-1), 1) := by decide +kernel
theorem dX12_shelves_66 : decode cX12_shelves 66 = .ok (.istore 4, 2) := by decide +kernel
theorem dX12_shelves_68 : decode cX12_shelves 68 = .ok (.aload_n 0, 1) := by decide +kernel
theorem dX12_shelves_69 : decode cX12_shelves 69 = .ok (.getfield 77, 3) := by decide +kernel
theorem dX12_shelves_72 : decode cX12_shelves 72 = .ok (.ifCond .le 7, 3) := by decide +kernel
theorem dX12_shelves_75 : decode cX12_shelves 75 = .ok (.iconst 1, 1) := by decide +kernel
theorem dX12_shelves_76 : decode cX12_shelves 76 = .ok (.goto 4, 3) := by decide +kernel
theorem dX12_shelves_79 : decode cX12_shelves 79 = .ok (.iconst 0, 1) := by decide +kernel
theorem dX12_shelves_80 : decode cX12_shelves 80 = .ok (.istore 5, 2) := by decide +kernel
theorem dX12_shelves_82 : decode cX12_shelves 82 = .ok (.iload 5, 2) := by decide +kernel
theorem dX12_shelves_84 : decode cX12_shelves 84 = .ok (.ifCond .eq 113, 3) := by decide +kernel
theorem dX12_shelves_87 : decode cX12_shelves 87 = .ok (.ldc 218, 2) := by decide +kernel
theorem dX12_shelves_89 : decode cX12_shelves 89 = .ok (.istore 6, 2) := by decide +kernel
theorem dX12_shelves_91 : decode cX12_shelves 91 = .ok (.iconst 0, 1) := by decide +kernel
theorem dX12_shelves_92 : decode cX12_shelves 92 = .ok (.istore 7, 2) := by decide +kernel
theorem dX12_shelves_94 : decode cX12_shelves 94 = .ok (.iload 7, 2) := by decide +kernel
theorem dX12_shelves_96 : decode cX12_shelves 96 = .ok (.aload_n 0, 1) := by decide +kernel
theorem dX12_shelves_97 : decode cX12_shelves 97 = .ok (.getfield 77, 3) := by decide +kernel
theorem dX12_shelves_100 : decode cX12_shelves 100 = .ok (.if_icmp .ge 33, 3) := by decide +kernel
theorem dX12_shelves_103 : decode cX12_shelves 103 = .ok (.iload 6, 2) := by decide +kernel
theorem dX12_shelves_105 : decode cX12_shelves 105 = .ok (.aload_n 0, 1) := by decide +kernel
theorem dX12_shelves_106 : decode cX12_shelves 106 = .ok (.iload 7, 2) := by decide +kernel
theorem dX12_shelves_108 : decode cX12_shelves 108 = .ok (.iload_n 1, 1) := by decide +kernel
theorem dX12_shelves_109 : decode cX12_shelves 109 = .ok (.iload_n 2, 1) := by decide +kernel
theorem dX12_shelves_110 : decode cX12_shelves 110 = .ok (.aload_n 0, 1) := by decide +kernel
theorem dX12_shelves_111 : decode cX12_shelves 111 = .ok (.getfield 58, 3) := by decide +kernel
theorem dX12_shelves_114 : decode cX12_shelves 114 = .ok (.iload 7, 2) := by decide +kernel
theorem dX12_shelves_116 : decode cX12_shelves 116 = .ok (.iaload, 1) := by decide +kernel
theorem dX12_shelves_117 : decode cX12_shelves 117 = .ok (.imul, 1) := by decide +kernel
theorem dX12_shelves_118 : decode cX12_shelves 118 = .ok (.iadd, 1) := by decide +kernel
theorem dX12_shelves_119 : decode cX12_shelves 119 = .ok (.invokevirtual 186, 3) := by decide +kernel
theorem dX12_shelves_122 : decode cX12_shelves 122 = .ok (.invokestatic 180, 3) := by decide +kernel
theorem dX12_shelves_125 : decode cX12_shelves 125 = .ok (.istore 6, 2) := by decide +kernel
theorem dX12_shelves_127 : decode cX12_shelves 127 = .ok (.iinc 7 1, 3) := by decide +kernel
theorem dX12_shelves_130 : decode cX12_shelves 130 = .ok (.goto (-36), 3) := by decide +kernel
theorem dX12_shelves_133 : decode cX12_shelves 133 = .ok (.iconst 0, 1) := by decide +kernel
theorem dX12_shelves_134 : decode cX12_shelves 134 = .ok (.istore 7, 2) := by decide +kernel
theorem dX12_shelves_136 : decode cX12_shelves 136 = .ok (.iload 7, 2) := by decide +kernel
theorem dX12_shelves_138 : decode cX12_shelves 138 = .ok (.aload_n 0, 1) := by decide +kernel
theorem dX12_shelves_139 : decode cX12_shelves 139 = .ok (.getfield 77, 3) := by decide +kernel
theorem dX12_shelves_142 : decode cX12_shelves 142 = .ok (.if_icmp .ge 30, 3) := by decide +kernel
theorem dX12_shelves_145 : decode cX12_shelves 145 = .ok (.iload 6, 2) := by decide +kernel
theorem dX12_shelves_147 : decode cX12_shelves 147 = .ok (.iload 4, 2) := by decide +kernel
theorem dX12_shelves_149 : decode cX12_shelves 149 = .ok (.if_icmp .le 23, 3) := by decide +kernel
theorem dX12_shelves_152 : decode cX12_shelves 152 = .ok (.aload_n 0, 1) := by decide +kernel
theorem dX12_shelves_153 : decode cX12_shelves 153 = .ok (.getfield 61, 3) := by decide +kernel
theorem dX12_shelves_156 : decode cX12_shelves 156 = .ok (.iload 7, 2) := by decide +kernel
theorem dX12_shelves_158 : decode cX12_shelves 158 = .ok (.aload_n 0, 1) := by decide +kernel
theorem dX12_shelves_159 : decode cX12_shelves 159 = .ok (.getfield 58, 3) := by decide +kernel
theorem dX12_shelves_162 : decode cX12_shelves 162 = .ok (.iload 7, 2) := by decide +kernel
theorem dX12_shelves_164 : decode cX12_shelves 164 = .ok (.iaload, 1) := by decide +kernel
theorem dX12_shelves_165 : decode cX12_shelves 165 = .ok (.iastore, 1) := by decide +kernel
theorem dX12_shelves_166 : decode cX12_shelves 166 = .ok (.iinc 7 1, 3) := by decide +kernel
theorem dX12_shelves_169 : decode cX12_shelves 169 = .ok (.goto (-33), 3) := by decide +kernel
theorem dX12_shelves_172 : decode cX12_shelves 172 = .ok (.iload 6, 2) := by decide +kernel
theorem dX12_shelves_174 : decode cX12_shelves 174 = .ok (.iload 4, 2) := by decide +kernel
theorem dX12_shelves_176 : decode cX12_shelves 176 = .ok (.if_icmp .le 8, 3) := by decide +kernel
theorem dX12_shelves_179 : decode cX12_shelves 179 = .ok (.iload 6, 2) := by decide +kernel
theorem dX12_shelves_181 : decode cX12_shelves 181 = .ok (.goto 5, 3) := by decide +kernel
theorem dX12_shelves_184 : decode cX12_shelves 184 = .ok (.iload 4, 2) := by decide +kernel
theorem dX12_shelves_186 : decode cX12_shelves 186 = .ok (.istore 4, 2) := by decide +kernel
theorem dX12_shelves_188 : decode cX12_shelves 188 = .ok (.aload_n 0, 1) := by decide +kernel
theorem dX12_shelves_189 : decode cX12_shelves 189 = .ok (.invokevirtual 225, 3) := by decide +kernel
theorem dX12_shelves_192 : decode cX12_shelves 192 = .ok (.istore 5, 2) := by decide +kernel
theorem dX12_shelves_194 : decode cX12_shelves 194 = .ok (.goto (-112), 3) := by decide +kernel
theorem dX12_shelves_197 : decode cX12_shelves 197 = .ok (.iload_n 3, 1) := by decide +kernel
theorem dX12_shelves_198 : decode cX12_shelves 198 = .ok (.iconst (-1), 1) := by decide +kernel
theorem dX12_shelves_199 : decode cX12_shelves 199 = .ok (.if_icmp .ne 19, 3) := by decide +kernel
theorem dX12_shelves_202 : decode cX12_shelves 202 = .ok (.aload_n 0, 1) := by decide +kernel
theorem dX12_shelves_203 : decode cX12_shelves 203 = .ok (.getfield 77, 3) := by decide +kernel
theorem dX12_shelves_206 : decode cX12_shelves 206 = .ok (.ifCond .ne 7, 3) := by decide +kernel
theorem dX12_shelves_209 : decode cX12_shelves 209 = .ok (.iconst 0, 1) := by decide +kernel
theorem dX12_shelves_210 : decode cX12_shelves 210 = .ok (.goto 14, 3) := by decide +kernel
theorem dX12_shelves_213 : decode cX12_shelves 213 = .ok (.iload 4, 2) := by decide +kernel
theorem dX12_shelves_215 : decode cX12_shelves 215 = .ok (.goto 9, 3) := by decide +kernel
theorem dX12_shelves_218 : decode cX12_shelves 218 = .ok (.aload_n 0, 1) := by decide +kernel
theorem dX12_shelves_219 : decode cX12_shelves 219 = .ok (.getfield 61, 3) := by decide +kernel
theorem dX12_shelves_222 : decode cX12_shelves 222 = .ok (.iload_n 3, 1) := by decide +kernel
theorem dX12_shelves_223 : decode cX12_shelves 223 = .ok (.iaload, 1) := by decide +kernel
theorem dX12_shelves_224 : decode cX12_shelves 224 = .ok (.ireturn, 1) := by decide +kernel
theorem dX12_note_0 : decode cX12_note 0 = .ok (.aload_n 0, 1) := by decide +kernel
theorem dX12_note_1 : decode cX12_note 1 = .ok (.iload_n 1, 1) := by decide +kernel
theorem dX12_note_2 : decode cX12_note 2 = .ok (.invokevirtual 108, 3) := by decide +kernel
theorem dX12_note_5 : decode cX12_note 5 = .ok (.ifCond .eq 35, 3) := by decide +kernel
theorem dX12_note_8 : decode cX12_note 8 = .ok (.iload_n 2, 1) := by decide +kernel
theorem dX12_note_9 : decode cX12_note 9 = .ok (.iconst 0, 1) := by decide +kernel
theorem dX12_note_10 : decode cX12_note 10 = .ok (.bipush 99, 2) := by decide +kernel
theorem dX12_note_12 : decode cX12_note 12 = .ok (.invokestatic 93, 3) := by decide +kernel
theorem dX12_note_15 : decode cX12_note 15 = .ok (.ifCond .eq 25, 3) := by decide +kernel
theorem dX12_note_18 : decode cX12_note 18 = .ok (.iload_n 3, 1) := by decide +kernel
theorem dX12_note_19 : decode cX12_note 19 = .ok (.iconst 0, 1) := by decide +kernel
theorem dX12_note_20 : decode cX12_note 20 = .ok (.sipush 2000, 3) := by decide +kernel
theorem dX12_note_23 : decode cX12_note 23 = .ok (.invokestatic 93, 3) := by decide +kernel
theorem dX12_note_26 : decode cX12_note 26 = .ok (.ifCond .eq 14, 3) := by decide +kernel
theorem dX12_note_29 : decode cX12_note 29 = .ok (.iload 4, 2) := by decide +kernel
theorem dX12_note_31 : decode cX12_note 31 = .ok (.iconst 0, 1) := by decide +kernel
theorem dX12_note_32 : decode cX12_note 32 = .ok (.bipush 99, 2) := by decide +kernel
theorem dX12_note_34 : decode cX12_note 34 = .ok (.invokestatic 93, 3) := by decide +kernel
theorem dX12_note_37 : decode cX12_note 37 = .ok (.ifCond .ne 8, 3) := by decide +kernel
theorem dX12_note_40 : decode cX12_note 40 = .ok (.aload_n 0, 1) := by decide +kernel
theorem dX12_note_41 : decode cX12_note 41 = .ok (.invokevirtual 97, 3) := by decide +kernel
theorem dX12_note_44 : decode cX12_note 44 = .ok (.ireturn, 1) := by decide +kernel
theorem dX12_note_45 : decode cX12_note 45 = .ok (.aload_n 0, 1) := by decide +kernel
theorem dX12_note_46 : decode cX12_note 46 = .ok (.getfield 87, 3) := by decide +kernel
theorem dX12_note_49 : decode cX12_note 49 = .ok (.bipush 6, 2) := by decide +kernel
theorem dX12_note_51 : decode cX12_note 51 = .ok (.if_icmp .ne 8, 3) := by decide +kernel
theorem dX12_note_54 : decode cX12_note 54 = .ok (.aload_n 0, 1) := by decide +kernel
theorem dX12_note_55 : decode cX12_note 55 = .ok (.invokevirtual 101, 3) := by decide +kernel
theorem dX12_note_58 : decode cX12_note 58 = .ok (.ireturn, 1) := by decide +kernel
theorem dX12_note_59 : decode cX12_note 59 = .ok (.aload_n 0, 1) := by decide +kernel
theorem dX12_note_60 : decode cX12_note 60 = .ok (.getfield 28, 3) := by decide +kernel
theorem dX12_note_63 : decode cX12_note 63 = .ok (.aload_n 0, 1) := by decide +kernel
theorem dX12_note_64 : decode cX12_note 64 = .ok (.getfield 87, 3) := by decide +kernel
theorem dX12_note_67 : decode cX12_note 67 = .ok (.iload_n 1, 1) := by decide +kernel
theorem dX12_note_68 : decode cX12_note 68 = .ok (.iastore, 1) := by decide +kernel
theorem dX12_note_69 : decode cX12_note 69 = .ok (.aload_n 0, 1) := by decide +kernel
theorem dX12_note_70 : decode cX12_note 70 = .ok (.getfield 31, 3) := by decide +kernel
theorem dX12_note_73 : decode cX12_note 73 = .ok (.aload_n 0, 1) := by decide +kernel
theorem dX12_note_74 : decode cX12_note 74 = .ok (.getfield 87, 3) := by decide +kernel
theorem dX12_note_77 : decode cX12_note 77 = .ok (.iload_n 2, 1) := by decide +kernel
theorem dX12_note_78 : decode cX12_note 78 = .ok (.iastore, 1) := by decide +kernel
theorem dX12_note_79 : decode cX12_note 79 = .ok (.aload_n 0, 1) := by decide +kernel
theorem dX12_note_80 : decode cX12_note 80 = .ok (.getfield 34, 3) := by decide +kernel
theorem dX12_note_83 : decode cX12_note 83 = .ok (.aload_n 0, 1) := by decide +kernel
theorem dX12_note_84 : decode cX12_note 84 = .ok (.getfield 87, 3) := by decide +kernel
theorem dX12_note_87 : decode cX12_note 87 = .ok (.iload_n 3, 1) := by decide +kernel
theorem dX12_note_88 : decode cX12_note 88 = .ok (.iastore, 1) := by decide +kernel
theorem dX12_note_89 : decode cX12_note 89 = .ok (.aload_n 0, 1) := by decide +kernel
theorem dX12_note_90 : decode cX12_note 90 = .ok (.getfield 37, 3) := by decide +kernel
theorem dX12_note_93 : decode cX12_note 93 = .ok (.aload_n 0, 1) := by decide +kernel
theorem dX12_note_94 : decode cX12_note 94 = .ok (.getfield 87, 3) := by decide +kernel
theorem dX12_note_97 : decode cX12_note 97 = .ok (.iload 4, 2) := by decide +kernel
theorem dX12_note_99 : decode cX12_note 99 = .ok (.iastore, 1) := by decide +kernel
theorem dX12_note_100 : decode cX12_note 100 = .ok (.aload_n 0, 1) := by decide +kernel
theorem dX12_note_101 : decode cX12_note 101 = .ok (.dup, 1) := by decide +kernel
theorem dX12_note_102 : decode cX12_note 102 = .ok (.getfield 87, 3) := by decide +kernel
theorem dX12_note_105 : decode cX12_note 105 = .ok (.iconst 1, 1) := by decide +kernel
theorem dX12_note_106 : decode cX12_note 106 = .ok (.iadd, 1) := by decide +kernel
theorem dX12_note_107 : decode cX12_note 107 = .ok (.putfield 87, 3) := by decide +kernel
theorem dX12_note_110 : decode cX12_note 110 = .ok (.aload_n 0, 1) := by decide +kernel
theorem dX12_note_111 : decode cX12_note 111 = .ok (.getfield 87, 3) := by decide +kernel
theorem dX12_note_114 : decode cX12_note 114 = .ok (.ireturn, 1) := by decide +kernel
theorem dX12_forget_0 : decode cX12_forget 0 = .ok (.aload_n 0, 1) := by decide +kernel
theorem dX12_forget_1 : decode cX12_forget 1 = .ok (.getfield 87, 3) := by decide +kernel
theorem dX12_forget_4 : decode cX12_forget 4 = .ok (.istore_n 1, 1) := by decide +kernel
theorem dX12_forget_5 : decode cX12_forget 5 = .ok (.aload_n 0, 1) := by decide +kernel
theorem dX12_forget_6 : decode cX12_forget 6 = .ok (.iconst 0, 1) := by decide +kernel
theorem dX12_forget_7 : decode cX12_forget 7 = .ok (.putfield 87, 3) := by decide +kernel
theorem dX12_forget_10 : decode cX12_forget 10 = .ok (.iload_n 1, 1) := by decide +kernel
theorem dX12_forget_11 : decode cX12_forget 11 = .ok (.ireturn, 1) := by decide +kernel
theorem dX12_isSo_0 : decode cX12_isSo 0 = .ok (.iconst 1, 1) := by decide +kernel
theorem dX12_isSo_1 : decode cX12_isSo 1 = .ok (.istore 4, 2) := by decide +kernel
theorem dX12_isSo_3 : decode cX12_isSo 3 = .ok (.iconst 0, 1) := by decide +kernel
theorem dX12_isSo_4 : decode cX12_isSo 4 = .ok (.istore 5, 2) := by decide +kernel
theorem dX12_isSo_6 : decode cX12_isSo 6 = .ok (.iload 5, 2) := by decide +kernel
theorem dX12_isSo_8 : decode cX12_isSo 8 = .ok (.aload_n 0, 1) := by decide +kernel
theorem dX12_isSo_9 : decode cX12_isSo 9 = .ok (.getfield 87, 3) := by decide +kernel
theorem dX12_isSo_12 : decode cX12_isSo 12 = .ok (.if_icmp .ge 73, 3) := by decide +kernel
theorem dX12_isSo_15 : decode cX12_isSo 15 = .ok (.iload_n 2, 1) := by decide +kernel
theorem dX12_isSo_16 : decode cX12_isSo 16 = .ok (.aload_n 0, 1) := by decide +kernel
theorem dX12_isSo_17 : decode cX12_isSo 17 = .ok (.getfield 31, 3) := by decide +kernel
theorem dX12_isSo_20 : decode cX12_isSo 20 = .ok (.iload 5, 2) := by decide +kernel
theorem dX12_isSo_22 : decode cX12_isSo 22 = .ok (.iaload, 1) := by decide +kernel
theorem dX12_isSo_23 : decode cX12_isSo 23 = .ok (.iload_n 3, 1) := by decide +kernel
theorem dX12_isSo_24 : decode cX12_isSo 24 = .ok (.aload_n 0, 1) := by decide +kernel
theorem dX12_isSo_25 : decode cX12_isSo 25 = .ok (.getfield 37, 3) := by decide +kernel
theorem dX12_isSo_28 : decode cX12_isSo 28 = .ok (.iload 5, 2) := by decide +kernel
theorem dX12_isSo_30 : decode cX12_isSo 30 = .ok (.iaload, 1) := by decide +kernel
theorem dX12_isSo_31 : decode cX12_isSo 31 = .ok (.invokestatic 183, 3) := by decide +kernel
theorem dX12_isSo_34 : decode cX12_isSo 34 = .ok (.aload_n 0, 1) := by decide +kernel
theorem dX12_isSo_35 : decode cX12_isSo 35 = .ok (.getfield 34, 3) := by decide +kernel
theorem dX12_isSo_38 : decode cX12_isSo 38 = .ok (.iload 5, 2) := by decide +kernel
theorem dX12_isSo_40 : decode cX12_isSo 40 = .ok (.iaload, 1) := by decide +kernel
theorem dX12_isSo_41 : decode cX12_isSo 41 = .ok (.if_icmp .ne 7, 3) := by decide +kernel
theorem dX12_isSo_44 : decode cX12_isSo 44 = .ok (.iconst 1, 1) := by decide +kernel
theorem dX12_isSo_45 : decode cX12_isSo 45 = .ok (.goto 4, 3) := by decide +kernel
theorem dX12_isSo_48 : decode cX12_isSo 48 = .ok (.iconst 0, 1) := by decide +kernel
theorem dX12_isSo_49 : decode cX12_isSo 49 = .ok (.istore 6, 2) := by decide +kernel
theorem dX12_isSo_51 : decode cX12_isSo 51 = .ok (.iload 4, 2) := by decide +kernel
theorem dX12_isSo_53 : decode cX12_isSo 53 = .ok (.ifCond .eq 23, 3) := by decide +kernel
theorem dX12_isSo_56 : decode cX12_isSo 56 = .ok (.aload_n 0, 1) := by decide +kernel
theorem dX12_isSo_57 : decode cX12_isSo 57 = .ok (.getfield 28, 3) := by decide +kernel
theorem dX12_isSo_60 : decode cX12_isSo 60 = .ok (.iload 5, 2) := by decide +kernel
theorem dX12_isSo_62 : decode cX12_isSo 62 = .ok (.iaload, 1) := by decide +kernel
theorem dX12_isSo_63 : decode cX12_isSo 63 = .ok (.iload_n 1, 1) := by decide +kernel
theorem dX12_isSo_64 : decode cX12_isSo 64 = .ok (.if_icmp .ne 8, 3) := by decide +kernel
theorem dX12_isSo_67 : decode cX12_isSo 67 = .ok (.iload 6, 2) := by decide +kernel
theorem dX12_isSo_69 : decode cX12_isSo 69 = .ok (.ifCond .eq 7, 3) := by decide +kernel
theorem dX12_isSo_72 : decode cX12_isSo 72 = .ok (.iconst 1, 1) := by decide +kernel
theorem dX12_isSo_73 : decode cX12_isSo 73 = .ok (.goto 4, 3) := by decide +kernel
theorem dX12_isSo_76 : decode cX12_isSo 76 = .ok (.iconst 0, 1) := by decide +kernel
theorem dX12_isSo_77 : decode cX12_isSo 77 = .ok (.istore 4, 2) := by decide +kernel
theorem dX12_isSo_79 : decode cX12_isSo 79 = .ok (.iinc 5 1, 3) := by decide +kernel
theorem dX12_isSo_82 : decode cX12_isSo 82 = .ok (.goto (-76), 3) := by decide +kernel
theorem dX12_isSo_85 : decode cX12_isSo 85 = .ok (.iload 4, 2) := by decide +kernel
theorem dX12_isSo_87 : decode cX12_isSo 87 = .ok (.ireturn, 1) := by decide +kernel
theorem dX12_kindsOf_0 : decode cX12_kindsOf 0 = .ok (.iconst 0, 1) := by decide +kernel
theorem dX12_kindsOf_1 : decode cX12_kindsOf 1 = .ok (.istore_n 2, 1) := by decide +kernel
theorem dX12_kindsOf_2 : decode cX12_kindsOf 2 = .ok (.iconst 0, 1) := by decide +kernel
theorem dX12_kindsOf_3 : decode cX12_kindsOf 3 = .ok (.istore_n 3, 1) := by decide +kernel
theorem dX12_kindsOf_4 : decode cX12_kindsOf 4 = .ok (.iload_n 3, 1) := by decide +kernel
theorem dX12_kindsOf_5 : decode cX12_kindsOf 5 = .ok (.iconst 5, 1) := by decide +kernel
theorem dX12_kindsOf_6 : decode cX12_kindsOf 6 = .ok (.if_icmp .gt 34, 3) := by decide +kernel
theorem dX12_kindsOf_9 : decode cX12_kindsOf 9 = .ok (.iload_n 2, 1) := by decide +kernel
theorem dX12_kindsOf_10 : decode cX12_kindsOf 10 = .ok (.aload_n 0, 1) := by decide +kernel
theorem dX12_kindsOf_11 : decode cX12_kindsOf 11 = .ok (.iload_n 1, 1) := by decide +kernel
theorem dX12_kindsOf_12 : decode cX12_kindsOf 12 = .ok (.iload_n 3, 1) := by decide +kernel
theorem dX12_kindsOf_13 : decode cX12_kindsOf 13 = .ok (.aload_n 0, 1) := by decide +kernel
theorem dX12_kindsOf_14 : decode cX12_kindsOf 14 = .ok (.getfield 16, 3) := by decide +kernel
theorem dX12_kindsOf_17 : decode cX12_kindsOf 17 = .ok (.iload_n 1, 1) := by decide +kernel
theorem dX12_kindsOf_18 : decode cX12_kindsOf 18 = .ok (.iaload, 1) := by decide +kernel
theorem dX12_kindsOf_19 : decode cX12_kindsOf 19 = .ok (.invokevirtual 228, 3) := by decide +kernel
theorem dX12_kindsOf_22 : decode cX12_kindsOf 22 = .ok (.ifCond .eq 9, 3) := by decide +kernel
theorem dX12_kindsOf_25 : decode cX12_kindsOf 25 = .ok (.iconst 1, 1) := by decide +kernel
theorem dX12_kindsOf_26 : decode cX12_kindsOf 26 = .ok (.iload_n 3, 1) := by decide +kernel
theorem dX12_kindsOf_27 : decode cX12_kindsOf 27 = .ok (.ishl, 1) := by decide +kernel
theorem dX12_kindsOf_28 : decode cX12_kindsOf 28 = .ok (.goto 4, 3) := by decide +kernel
theorem dX12_kindsOf_31 : decode cX12_kindsOf 31 = .ok (.iconst 0, 1) := by decide +kernel
theorem dX12_kindsOf_32 : decode cX12_kindsOf 32 = .ok (.ior, 1) := by decide +kernel
theorem dX12_kindsOf_33 : decode cX12_kindsOf 33 = .ok (.istore_n 2, 1) := by decide +kernel
theorem dX12_kindsOf_34 : decode cX12_kindsOf 34 = .ok (.iinc 3 1, 3) := by decide +kernel
theorem dX12_kindsOf_37 : decode cX12_kindsOf 37 = .ok (.goto (-33), 3) := by decide +kernel
theorem dX12_kindsOf_40 : decode cX12_kindsOf 40 = .ok (.iload_n 2, 1) := by decide +kernel
theorem dX12_kindsOf_41 : decode cX12_kindsOf 41 = .ok (.ireturn, 1) := by decide +kernel
theorem dX12_is_0 : decode cX12_is 0 = .ok (.aload_n 0, 1) := by decide +kernel
theorem dX12_is_1 : decode cX12_is 1 = .ok (.iload_n 1, 1) := by decide +kernel
theorem dX12_is_2 : decode cX12_is 2 = .ok (.invokevirtual 108, 3) := by decide +kernel
theorem dX12_is_5 : decode cX12_is 5 = .ok (.ifCond .eq 12, 3) := by decide +kernel
theorem dX12_is_8 : decode cX12_is 8 = .ok (.iload_n 2, 1) := by decide +kernel
theorem dX12_is_9 : decode cX12_is 9 = .ok (.iconst 0, 1) := by decide +kernel
theorem dX12_is_10 : decode cX12_is 10 = .ok (.iconst 1, 1) := by decide +kernel
theorem dX12_is_11 : decode cX12_is 11 = .ok (.invokestatic 93, 3) := by decide +kernel
theorem dX12_is_14 : decode cX12_is 14 = .ok (.ifCond .ne 8, 3) := by decide +kernel
theorem dX12_is_17 : decode cX12_is 17 = .ok (.aload_n 0, 1) := by decide +kernel
theorem dX12_is_18 : decode cX12_is 18 = .ok (.invokevirtual 97, 3) := by decide +kernel
theorem dX12_is_21 : decode cX12_is 21 = .ok (.ireturn, 1) := by decide +kernel
theorem dX12_is_22 : decode cX12_is 22 = .ok (.iload_n 2, 1) := by decide +kernel
theorem dX12_is_23 : decode cX12_is 23 = .ok (.ifCond .ne 9, 3) := by decide +kernel
theorem dX12_is_26 : decode cX12_is 26 = .ok (.aload_n 0, 1) := by decide +kernel
theorem dX12_is_27 : decode cX12_is 27 = .ok (.iload_n 1, 1) := by decide +kernel
theorem dX12_is_28 : decode cX12_is 28 = .ok (.invokevirtual 231, 3) := by decide +kernel
theorem dX12_is_31 : decode cX12_is 31 = .ok (.ireturn, 1) := by decide +kernel
theorem dX12_is_32 : decode cX12_is 32 = .ok (.iconst 0, 1) := by decide +kernel
theorem dX12_is_33 : decode cX12_is 33 = .ok (.istore_n 3, 1) := by decide +kernel
theorem dX12_is_34 : decode cX12_is 34 = .ok (.iconst 0, 1) := by decide +kernel
theorem dX12_is_35 : decode cX12_is 35 = .ok (.istore 4, 2) := by decide +kernel
theorem dX12_is_37 : decode cX12_is 37 = .ok (.iload 4, 2) := by decide +kernel
theorem dX12_is_39 : decode cX12_is 39 = .ok (.bipush 12, 2) := by decide +kernel
theorem dX12_is_41 : decode cX12_is 41 = .ok (.if_icmp .gt 36, 3) := by decide +kernel
theorem dX12_is_44 : decode cX12_is 44 = .ok (.iload_n 3, 1) := by decide +kernel
theorem dX12_is_45 : decode cX12_is 45 = .ok (.aload_n 0, 1) := by decide +kernel
theorem dX12_is_46 : decode cX12_is 46 = .ok (.iload_n 1, 1) := by decide +kernel
theorem dX12_is_47 : decode cX12_is 47 = .ok (.aload_n 0, 1) := by decide +kernel
theorem dX12_is_48 : decode cX12_is 48 = .ok (.getfield 13, 3) := by decide +kernel
theorem dX12_is_51 : decode cX12_is 51 = .ok (.iload_n 1, 1) := by decide +kernel
theorem dX12_is_52 : decode cX12_is 52 = .ok (.iaload, 1) := by decide +kernel
theorem dX12_is_53 : decode cX12_is 53 = .ok (.iload 4, 2) := by decide +kernel
theorem dX12_is_55 : decode cX12_is 55 = .ok (.invokevirtual 228, 3) := by decide +kernel
theorem dX12_is_58 : decode cX12_is 58 = .ok (.ifCond .eq 10, 3) := by decide +kernel
theorem dX12_is_61 : decode cX12_is 61 = .ok (.iconst 1, 1) := by decide +kernel
theorem dX12_is_62 : decode cX12_is 62 = .ok (.iload 4, 2) := by decide +kernel
theorem dX12_is_64 : decode cX12_is 64 = .ok (.ishl, 1) := by decide +kernel
theorem dX12_is_65 : decode cX12_is 65 = .ok (.goto 4, 3) := by decide +kernel
theorem dX12_is_68 : decode cX12_is 68 = .ok (.iconst 0, 1) := by decide +kernel
theorem dX12_is_69 : decode cX12_is 69 = .ok (.ior, 1) := by decide +kernel
theorem dX12_is_70 : decode cX12_is 70 = .ok (.istore_n 3, 1) := by decide +kernel
theorem dX12_is_71 : decode cX12_is 71 = .ok (.iinc 4 1, 3) := by decide +kernel
theorem dX12_is_74 : decode cX12_is 74 = .ok (.goto (-37), 3) := by decide +kernel
theorem dX12_is_77 : decode cX12_is 77 = .ok (.iload_n 3, 1) := by decide +kernel
theorem dX12_is_78 : decode cX12_is 78 = .ok (.ireturn, 1) := by decide +kernel
theorem dX12_alike_0 : decode cX12_alike 0 = .ok (.iconst 0, 1) := by decide +kernel
theorem dX12_alike_1 : decode cX12_alike 1 = .ok (.istore 4, 2) := by decide +kernel
theorem dX12_alike_3 : decode cX12_alike 3 = .ok (.iconst 0, 1) := by decide +kernel
theorem dX12_alike_4 : decode cX12_alike 4 = .ok (.istore 5, 2) := by decide +kernel
theorem dX12_alike_6 : decode cX12_alike 6 = .ok (.iload 5, 2) := by decide +kernel
theorem dX12_alike_8 : decode cX12_alike 8 = .ok (.iconst 5, 1) := by decide +kernel
theorem dX12_alike_9 : decode cX12_alike 9 = .ok (.if_icmp .gt 118, 3) := by decide +kernel
theorem dX12_alike_12 : decode cX12_alike 12 = .ok (.iconst 0, 1) := by decide +kernel
theorem dX12_alike_13 : decode cX12_alike 13 = .ok (.istore 6, 2) := by decide +kernel
theorem dX12_alike_15 : decode cX12_alike 15 = .ok (.iconst 0, 1) := by decide +kernel
theorem dX12_alike_16 : decode cX12_alike 16 = .ok (.istore 7, 2) := by decide +kernel
theorem dX12_alike_18 : decode cX12_alike 18 = .ok (.iload 7, 2) := by decide +kernel
theorem dX12_alike_20 : decode cX12_alike 20 = .ok (.iconst 5, 1) := by decide +kernel
theorem dX12_alike_21 : decode cX12_alike 21 = .ok (.if_icmp .gt 84, 3) := by decide +kernel
theorem dX12_alike_24 : decode cX12_alike 24 = .ok (.iload 5, 2) := by decide +kernel
theorem dX12_alike_26 : decode cX12_alike 26 = .ok (.iload_n 3, 1) := by decide +kernel
theorem dX12_alike_27 : decode cX12_alike 27 = .ok (.aload_n 0, 1) := by decide +kernel
theorem dX12_alike_28 : decode cX12_alike 28 = .ok (.getfield 16, 3) := by decide +kernel
theorem dX12_alike_31 : decode cX12_alike 31 = .ok (.iload_n 1, 1) := by decide +kernel
theorem dX12_alike_32 : decode cX12_alike 32 = .ok (.iaload, 1) := by decide +kernel
theorem dX12_alike_33 : decode cX12_alike 33 = .ok (.aload_n 0, 1) := by decide +kernel
theorem dX12_alike_34 : decode cX12_alike 34 = .ok (.getfield 81, 3) := by decide +kernel
theorem dX12_alike_37 : decode cX12_alike 37 = .ok (.invokestatic 183, 3) := by decide +kernel
theorem dX12_alike_40 : decode cX12_alike 40 = .ok (.iload 7, 2) := by decide +kernel
theorem dX12_alike_42 : decode cX12_alike 42 = .ok (.iload_n 3, 1) := by decide +kernel
theorem dX12_alike_43 : decode cX12_alike 43 = .ok (.aload_n 0, 1) := by decide +kernel
theorem dX12_alike_44 : decode cX12_alike 44 = .ok (.getfield 16, 3) := by decide +kernel
theorem dX12_alike_47 : decode cX12_alike 47 = .ok (.iload_n 1, 1) := by decide +kernel
theorem dX12_alike_48 : decode cX12_alike 48 = .ok (.iaload, 1) := by decide +kernel
theorem dX12_alike_49 : decode cX12_alike 49 = .ok (.aload_n 0, 1) := by decide +kernel
theorem dX12_alike_50 : decode cX12_alike 50 = .ok (.getfield 81, 3) := by decide +kernel
theorem dX12_alike_53 : decode cX12_alike 53 = .ok (.invokestatic 183, 3) := by decide +kernel
theorem dX12_alike_56 : decode cX12_alike 56 = .ok (.if_icmp .ne 7, 3) := by decide +kernel
theorem dX12_alike_59 : decode cX12_alike 59 = .ok (.iconst 1, 1) := by decide +kernel
theorem dX12_alike_60 : decode cX12_alike 60 = .ok (.goto 4, 3) := by decide +kernel
theorem dX12_alike_63 : decode cX12_alike 63 = .ok (.iconst 0, 1) := by decide +kernel
theorem dX12_alike_64 : decode cX12_alike 64 = .ok (.istore 8, 2) := by decide +kernel
theorem dX12_alike_66 : decode cX12_alike 66 = .ok (.iload 6, 2) := by decide +kernel
theorem dX12_alike_68 : decode cX12_alike 68 = .ok (.iload_n 2, 1) := by decide +kernel
theorem dX12_alike_69 : decode cX12_alike 69 = .ok (.iload 5, 2) := by decide +kernel
theorem dX12_alike_71 : decode cX12_alike 71 = .ok (.invokestatic 199, 3) := by decide +kernel
theorem dX12_alike_74 : decode cX12_alike 74 = .ok (.ifCond .eq 21, 3) := by decide +kernel
theorem dX12_alike_77 : decode cX12_alike 77 = .ok (.iload_n 2, 1) := by decide +kernel
theorem dX12_alike_78 : decode cX12_alike 78 = .ok (.iload 7, 2) := by decide +kernel
theorem dX12_alike_80 : decode cX12_alike 80 = .ok (.invokestatic 199, 3) := by decide +kernel
theorem dX12_alike_83 : decode cX12_alike 83 = .ok (.ifCond .eq 12, 3) := by decide +kernel
theorem dX12_alike_86 : decode cX12_alike 86 = .ok (.iload 8, 2) := by decide +kernel
theorem dX12_alike_88 : decode cX12_alike 88 = .ok (.ifCond .eq 7, 3) := by decide +kernel
theorem dX12_alike_91 : decode cX12_alike 91 = .ok (.iconst 1, 1) := by decide +kernel
theorem dX12_alike_92 : decode cX12_alike 92 = .ok (.goto 4, 3) := by decide +kernel
theorem dX12_alike_95 : decode cX12_alike 95 = .ok (.iconst 0, 1) := by decide +kernel
theorem dX12_alike_96 : decode cX12_alike 96 = .ok (.iadd, 1) := by decide +kernel
theorem dX12_alike_97 : decode cX12_alike 97 = .ok (.istore 6, 2) := by decide +kernel
theorem dX12_alike_99 : decode cX12_alike 99 = .ok (.iinc 7 1, 3) := by decide +kernel
theorem dX12_alike_102 : decode cX12_alike 102 = .ok (.goto (-84), 3) := by decide +kernel
theorem dX12_alike_105 : decode cX12_alike 105 = .ok (.iload 6, 2) := by decide +kernel
theorem dX12_alike_107 : decode cX12_alike 107 = .ok (.iload 4, 2) := by decide +kernel
theorem dX12_alike_109 : decode cX12_alike 109 = .ok (.if_icmp .le 8, 3) := by decide +kernel
theorem dX12_alike_112 : decode cX12_alike 112 = .ok (.iload 6, 2) := by decide +kernel
theorem dX12_alike_114 : decode cX12_alike 114 = .ok (.goto 5, 3) := by decide +kernel
theorem dX12_alike_117 : decode cX12_alike 117 = .ok (.iload 4, 2) := by decide +kernel
theorem dX12_alike_119 : decode cX12_alike 119 = .ok (.istore 4, 2) := by decide +kernel
theorem dX12_alike_121 : decode cX12_alike 121 = .ok (.iinc 5 1, 3) := by decide +kernel
theorem dX12_alike_124 : decode cX12_alike 124 = .ok (.goto (-118), 3) := by decide +kernel
theorem dX12_alike_127 : decode cX12_alike 127 = .ok (.iload 4, 2) := by decide +kernel
theorem dX12_alike_129 : decode cX12_alike 129 = .ok (.ireturn, 1) := by decide +kernel
theorem dX12_next_0 : decode cX12_next 0 = .ok (.aload_n 0, 1) := by decide +kernel
theorem dX12_next_1 : decode cX12_next 1 = .ok (.iload_n 1, 1) := by decide +kernel
theorem dX12_next_2 : decode cX12_next 2 = .ok (.invokevirtual 108, 3) := by decide +kernel
theorem dX12_next_5 : decode cX12_next 5 = .ok (.ifCond .ne 8, 3) := by decide +kernel
theorem dX12_next_8 : decode cX12_next 8 = .ok (.aload_n 0, 1) := by decide +kernel
theorem dX12_next_9 : decode cX12_next 9 = .ok (.invokevirtual 97, 3) := by decide +kernel
theorem dX12_next_12 : decode cX12_next 12 = .ok (.ireturn, 1) := by decide +kernel
theorem dX12_next_13 : decode cX12_next 13 = .ok (.aload_n 0, 1) := by decide +kernel
theorem dX12_next_14 : decode cX12_next 14 = .ok (.iload_n 1, 1) := by decide +kernel
theorem dX12_next_15 : decode cX12_next 15 = .ok (.invokevirtual 231, 3) := by decide +kernel
theorem dX12_next_18 : decode cX12_next 18 = .ok (.istore_n 2, 1) := by decide +kernel
theorem dX12_next_19 : decode cX12_next 19 = .ok (.iload_n 2, 1) := by decide +kernel
theorem dX12_next_20 : decode cX12_next 20 = .ok (.ifCond .ne 7, 3) := by decide +kernel
theorem dX12_next_23 : decode cX12_next 23 = .ok (.iconst (-1), 1) := by decide +kernel
theorem dX12_next_24 : decode cX12_next 24 = .ok (.goto 4, 3) := by decide +kernel
theorem dX12_next_27 : decode cX12_next 27 = .ok (.iconst 0, 1) := by decide +kernel
theorem dX12_next_28 : decode cX12_next 28 = .ok (.istore_n 3, 1) := by decide +kernel
theorem dX12_next_29 : decode cX12_next 29 = .ok (.iconst 1, 1) := by decide +kernel
theorem dX12_next_30 : decode cX12_next 30 = .ok (.istore 4, 2) := by decide +kernel
theorem dX12_next_32 : decode cX12_next 32 = .ok (.iload 4, 2) := by decide +kernel
theorem dX12_next_34 : decode cX12_next 34 = .ok (.bipush 20, 2) := by decide +kernel
theorem dX12_next_36 : decode cX12_next 36 = .ok (.if_icmp .gt 38, 3) := by decide +kernel
theorem dX12_next_39 : decode cX12_next 39 = .ok (.iload_n 2, 1) := by decide +kernel
theorem dX12_next_40 : decode cX12_next 40 = .ok (.ifCond .eq 34, 3) := by decide +kernel
theorem dX12_next_43 : decode cX12_next 43 = .ok (.aload_n 0, 1) := by decide +kernel
theorem dX12_next_44 : decode cX12_next 44 = .ok (.iload_n 1, 1) := by decide +kernel
theorem dX12_next_45 : decode cX12_next 45 = .ok (.iload_n 2, 1) := by decide +kernel
theorem dX12_next_46 : decode cX12_next 46 = .ok (.iload 4, 2) := by decide +kernel
theorem dX12_next_48 : decode cX12_next 48 = .ok (.invokevirtual 234, 3) := by decide +kernel
theorem dX12_next_51 : decode cX12_next 51 = .ok (.aload_n 0, 1) := by decide +kernel
theorem dX12_next_52 : decode cX12_next 52 = .ok (.iload_n 1, 1) := by decide +kernel
theorem dX12_next_53 : decode cX12_next 53 = .ok (.iload_n 2, 1) := by decide +kernel
theorem dX12_next_54 : decode cX12_next 54 = .ok (.iload_n 3, 1) := by decide +kernel
theorem dX12_next_55 : decode cX12_next 55 = .ok (.invokevirtual 234, 3) := by decide +kernel
theorem dX12_next_58 : decode cX12_next 58 = .ok (.if_icmp .ge 8, 3) := by decide +kernel
theorem dX12_next_61 : decode cX12_next 61 = .ok (.iload 4, 2) := by decide +kernel
theorem dX12_next_63 : decode cX12_next 63 = .ok (.goto 4, 3) := by decide +kernel
theorem dX12_next_66 : decode cX12_next 66 = .ok (.iload_n 3, 1) := by decide +kernel
theorem dX12_next_67 : decode cX12_next 67 = .ok (.istore_n 3, 1) := by decide +kernel
theorem dX12_next_68 : decode cX12_next 68 = .ok (.iinc 4 1, 3) := by decide +kernel
theorem dX12_next_71 : decode cX12_next 71 = .ok (.goto (-39), 3) := by decide +kernel
theorem dX12_next_74 : decode cX12_next 74 = .ok (.iload_n 3, 1) := by decide +kernel
theorem dX12_next_75 : decode cX12_next 75 = .ok (.ireturn, 1) := by decide +kernel
theorem dX12_gets_0 : decode cX12_gets 0 = .ok (.aload_n 0, 1) := by decide +kernel
theorem dX12_gets_1 : decode cX12_gets 1 = .ok (.getfield 13, 3) := by decide +kernel
theorem dX12_gets_4 : decode cX12_gets 4 = .ok (.iload_n 1, 1) := by decide +kernel
theorem dX12_gets_5 : decode cX12_gets 5 = .ok (.iaload, 1) := by decide +kernel
theorem dX12_gets_6 : decode cX12_gets 6 = .ok (.aload_n 0, 1) := by decide +kernel
theorem dX12_gets_7 : decode cX12_gets 7 = .ok (.getfield 19, 3) := by decide +kernel
theorem dX12_gets_10 : decode cX12_gets 10 = .ok (.iload_n 1, 1) := by decide +kernel
theorem dX12_gets_11 : decode cX12_gets 11 = .ok (.iaload, 1) := by decide +kernel
theorem dX12_gets_12 : decode cX12_gets 12 = .ok (.aload_n 0, 1) := by decide +kernel
theorem dX12_gets_13 : decode cX12_gets 13 = .ok (.iload_n 1, 1) := by decide +kernel
theorem dX12_gets_14 : decode cX12_gets 14 = .ok (.iconst 2, 1) := by decide +kernel
theorem dX12_gets_15 : decode cX12_gets 15 = .ok (.invokevirtual 196, 3) := by decide +kernel
theorem dX12_gets_18 : decode cX12_gets 18 = .ok (.aload_n 0, 1) := by decide +kernel
theorem dX12_gets_19 : decode cX12_gets 19 = .ok (.getfield 81, 3) := by decide +kernel
theorem dX12_gets_22 : decode cX12_gets 22 = .ok (.invokestatic 183, 3) := by decide +kernel
theorem dX12_gets_25 : decode cX12_gets 25 = .ok (.istore 4, 2) := by decide +kernel
theorem dX12_gets_27 : decode cX12_gets 27 = .ok (.iload_n 2, 1) := by decide +kernel
theorem dX12_gets_28 : decode cX12_gets 28 = .ok (.ifCond .eq 15, 3) := by decide +kernel
theorem dX12_gets_31 : decode cX12_gets 31 = .ok (.iload_n 3, 1) := by decide +kernel
theorem dX12_gets_32 : decode cX12_gets 32 = .ok (.ifCond .eq 7, 3) := by decide +kernel
theorem dX12_gets_35 : decode cX12_gets 35 = .ok (.iconst 1, 1) := by decide +kernel
theorem dX12_gets_36 : decode cX12_gets 36 = .ok (.goto 18, 3) := by decide +kernel
theorem dX12_gets_39 : decode cX12_gets 39 = .ok (.iconst 3, 1) := by decide +kernel
theorem dX12_gets_40 : decode cX12_gets 40 = .ok (.goto 14, 3) := by decide +kernel
theorem dX12_gets_43 : decode cX12_gets 43 = .ok (.aload_n 0, 1) := by decide +kernel
theorem dX12_gets_44 : decode cX12_gets 44 = .ok (.iload_n 1, 1) := by decide +kernel
theorem dX12_gets_45 : decode cX12_gets 45 = .ok (.invokevirtual 215, 3) := by decide +kernel
theorem dX12_gets_48 : decode cX12_gets 48 = .ok (.iload 4, 2) := by decide +kernel
theorem dX12_gets_50 : decode cX12_gets 50 = .ok (.isub, 1) := by decide +kernel
theorem dX12_gets_51 : decode cX12_gets 51 = .ok (.bipush 10, 2) := by decide +kernel
theorem dX12_gets_53 : decode cX12_gets 53 = .ok (.idiv, 1) := by decide +kernel
theorem dX12_gets_54 : decode cX12_gets 54 = .ok (.ireturn, 1) := by decide +kernel
theorem dX12_two_0 : decode cX12_two 0 = .ok (.aload_n 0, 1) := by decide +kernel
theorem dX12_two_1 : decode cX12_two 1 = .ok (.iload_n 1, 1) := by decide +kernel
theorem dX12_two_2 : decode cX12_two 2 = .ok (.invokevirtual 108, 3) := by decide +kernel
theorem dX12_two_5 : decode cX12_two 5 = .ok (.ifCond .eq 16, 3) := by decide +kernel
theorem dX12_two_8 : decode cX12_two 8 = .ok (.aload_n 0, 1) := by decide +kernel
theorem dX12_two_9 : decode cX12_two 9 = .ok (.iload_n 2, 1) := by decide +kernel
theorem dX12_two_10 : decode cX12_two 10 = .ok (.invokevirtual 108, 3) := by decide +kernel
theorem dX12_two_13 : decode cX12_two 13 = .ok (.ifCond .eq 8, 3) := by decide +kernel
theorem dX12_two_16 : decode cX12_two 16 = .ok (.iload_n 1, 1) := by decide +kernel
theorem dX12_two_17 : decode cX12_two 17 = .ok (.iload_n 2, 1) := by decide +kernel
theorem dX12_two_18 : decode cX12_two 18 = .ok (.if_icmp .ne 8, 3) := by decide +kernel
theorem dX12_two_21 : decode cX12_two 21 = .ok (.aload_n 0, 1) := by decide +kernel
theorem dX12_two_22 : decode cX12_two 22 = .ok (.invokevirtual 97, 3) := by decide +kernel
theorem dX12_two_25 : decode cX12_two 25 = .ok (.ireturn, 1) := by decide +kernel
theorem dX12_two_26 : decode cX12_two 26 = .ok (.iconst 0, 1) := by decide +kernel
theorem dX12_two_27 : decode cX12_two 27 = .ok (.istore_n 3, 1) := by decide +kernel
theorem dX12_two_28 : decode cX12_two 28 = .ok (.iconst 0, 1) := by decide +kernel
theorem dX12_two_29 : decode cX12_two 29 = .ok (.istore 4, 2) := by decide +kernel
theorem dX12_two_31 : decode cX12_two 31 = .ok (.iload 4, 2) := by decide +kernel
theorem dX12_two_33 : decode cX12_two 33 = .ok (.iconst 4, 1) := by decide +kernel
theorem dX12_two_34 : decode cX12_two 34 = .ok (.if_icmp .ge 118, 3) := by decide +kernel
theorem dX12_two_37 : decode cX12_two 37 = .ok (.iload 4, 2) := by decide +kernel
theorem dX12_two_39 : decode cX12_two 39 = .ok (.iconst 2, 1) := by decide +kernel
theorem dX12_two_40 : decode cX12_two 40 = .ok (.irem, 1) := by decide +kernel
theorem dX12_two_41 : decode cX12_two 41 = .ok (.iconst 1, 1) := by decide +kernel
theorem dX12_two_42 : decode cX12_two 42 = .ok (.if_icmp .ne 7, 3) := by decide +kernel
theorem dX12_two_45 : decode cX12_two 45 = .ok (.iconst 1, 1) := by decide +kernel
theorem dX12_two_46 : decode cX12_two 46 = .ok (.goto 4, 3) := by decide +kernel
theorem dX12_two_49 : decode cX12_two 49 = .ok (.iconst 0, 1) := by decide +kernel
theorem dX12_two_50 : decode cX12_two 50 = .ok (.istore 5, 2) := by decide +kernel
theorem dX12_two_52 : decode cX12_two 52 = .ok (.iload 4, 2) := by decide +kernel
theorem dX12_two_54 : decode cX12_two 54 = .ok (.iconst 1, 1) := by decide +kernel
theorem dX12_two_55 : decode cX12_two 55 = .ok (.if_icmp .le 7, 3) := by decide +kernel
theorem dX12_two_58 : decode cX12_two 58 = .ok (.iconst 1, 1) := by decide +kernel
theorem dX12_two_59 : decode cX12_two 59 = .ok (.goto 4, 3) := by decide +kernel
theorem dX12_two_62 : decode cX12_two 62 = .ok (.iconst 0, 1) := by decide +kernel
theorem dX12_two_63 : decode cX12_two 63 = .ok (.istore 6, 2) := by decide +kernel
theorem dX12_two_65 : decode cX12_two 65 = .ok (.aload_n 0, 1) := by decide +kernel
theorem dX12_two_66 : decode cX12_two 66 = .ok (.iload_n 1, 1) := by decide +kernel
theorem dX12_two_67 : decode cX12_two 67 = .ok (.iload 5, 2) := by decide +kernel
theorem dX12_two_69 : decode cX12_two 69 = .ok (.iload 6, 2) := by decide +kernel
theorem dX12_two_71 : decode cX12_two 71 = .ok (.invokevirtual 238, 3) := by decide +kernel
theorem dX12_two_74 : decode cX12_two 74 = .ok (.aload_n 0, 1) := by decide +kernel
theorem dX12_two_75 : decode cX12_two 75 = .ok (.iload_n 1, 1) := by decide +kernel
theorem dX12_two_76 : decode cX12_two 76 = .ok (.iload 5, 2) := by decide +kernel
theorem dX12_two_78 : decode cX12_two 78 = .ok (.ifCond .ne 7, 3) := by decide +kernel
theorem dX12_two_81 : decode cX12_two 81 = .ok (.iconst 1, 1) := by decide +kernel
theorem dX12_two_82 : decode cX12_two 82 = .ok (.goto 4, 3) := by decide +kernel
theorem dX12_two_85 : decode cX12_two 85 = .ok (.iconst 0, 1) := by decide +kernel
theorem dX12_two_86 : decode cX12_two 86 = .ok (.iload 6, 2) := by decide +kernel
theorem dX12_two_88 : decode cX12_two 88 = .ok (.invokevirtual 238, 3) := by decide +kernel
theorem dX12_two_91 : decode cX12_two 91 = .ok (.if_icmp .lt 36, 3) := by decide +kernel
theorem dX12_two_94 : decode cX12_two 94 = .ok (.aload_n 0, 1) := by decide +kernel
theorem dX12_two_95 : decode cX12_two 95 = .ok (.iload_n 2, 1) := by decide +kernel
theorem dX12_two_96 : decode cX12_two 96 = .ok (.iload 6, 2) := by decide +kernel
theorem dX12_two_98 : decode cX12_two 98 = .ok (.iload 5, 2) := by decide +kernel
theorem dX12_two_100 : decode cX12_two 100 = .ok (.invokevirtual 238, 3) := by decide +kernel
theorem dX12_two_103 : decode cX12_two 103 = .ok (.aload_n 0, 1) := by decide +kernel
theorem dX12_two_104 : decode cX12_two 104 = .ok (.iload_n 2, 1) := by decide +kernel
theorem dX12_two_105 : decode cX12_two 105 = .ok (.iload 6, 2) := by decide +kernel
theorem dX12_two_107 : decode cX12_two 107 = .ok (.ifCond .ne 7, 3) := by decide +kernel
theorem dX12_two_110 : decode cX12_two 110 = .ok (.iconst 1, 1) := by decide +kernel
theorem dX12_two_111 : decode cX12_two 111 = .ok (.goto 4, 3) := by decide +kernel
theorem dX12_two_114 : decode cX12_two 114 = .ok (.iconst 0, 1) := by decide +kernel
theorem dX12_two_115 : decode cX12_two 115 = .ok (.iload 5, 2) := by decide +kernel
theorem dX12_two_117 : decode cX12_two 117 = .ok (.invokevirtual 238, 3) := by decide +kernel
theorem dX12_two_120 : decode cX12_two 120 = .ok (.if_icmp .lt 7, 3) := by decide +kernel
theorem dX12_two_123 : decode cX12_two 123 = .ok (.iconst 1, 1) := by decide +kernel
theorem dX12_two_124 : decode cX12_two 124 = .ok (.goto 4, 3) := by decide +kernel
theorem dX12_two_127 : decode cX12_two 127 = .ok (.iconst 0, 1) := by decide +kernel
theorem dX12_two_128 : decode cX12_two 128 = .ok (.istore 7, 2) := by decide +kernel
theorem dX12_two_130 : decode cX12_two 130 = .ok (.iload_n 3, 1) := by decide +kernel
theorem dX12_two_131 : decode cX12_two 131 = .ok (.iload 7, 2) := by decide +kernel
theorem dX12_two_133 : decode cX12_two 133 = .ok (.ifCond .eq 10, 3) := by decide +kernel
theorem dX12_two_136 : decode cX12_two 136 = .ok (.iconst 1, 1) := by decide +kernel
theorem dX12_two_137 : decode cX12_two 137 = .ok (.iload 4, 2) := by decide +kernel
theorem dX12_two_139 : decode cX12_two 139 = .ok (.ishl, 1) := by decide +kernel
theorem dX12_two_140 : decode cX12_two 140 = .ok (.goto 4, 3) := by decide +kernel
theorem dX12_two_143 : decode cX12_two 143 = .ok (.iconst 0, 1) := by decide +kernel
theorem dX12_two_144 : decode cX12_two 144 = .ok (.ior, 1) := by decide +kernel
theorem dX12_two_145 : decode cX12_two 145 = .ok (.istore_n 3, 1) := by decide +kernel
theorem dX12_two_146 : decode cX12_two 146 = .ok (.iinc 4 1, 3) := by decide +kernel
theorem dX12_two_149 : decode cX12_two 149 = .ok (.goto (-118), 3) := by decide +kernel
theorem dX12_two_152 : decode cX12_two 152 = .ok (.iload_n 3, 1) := by decide +kernel
theorem dX12_two_153 : decode cX12_two 153 = .ok (.ireturn, 1) := by decide +kernel
theorem dX12_lay_0 : decode cX12_lay 0 = .ok (.lload_n 1, 1) := by decide +kernel
theorem dX12_lay_1 : decode cX12_lay 1 = .ok (.lstore 5, 2) := by decide +kernel
theorem dX12_lay_3 : decode cX12_lay 3 = .ok (.lload_n 3, 1) := by decide +kernel
theorem dX12_lay_4 : decode cX12_lay 4 = .ok (.lstore 7, 2) := by decide +kernel
theorem dX12_lay_6 : decode cX12_lay 6 = .ok (.lload 7, 2) := by decide +kernel
theorem dX12_lay_8 : decode cX12_lay 8 = .ok (.lconst 0, 1) := by decide +kernel
theorem dX12_lay_9 : decode cX12_lay 9 = .ok (.lcmp, 1) := by decide +kernel
theorem dX12_lay_10 : decode cX12_lay 10 = .ok (.ifCond .eq 21, 3) := by decide +kernel
theorem dX12_lay_13 : decode cX12_lay 13 = .ok (.lload 5, 2) := by decide +kernel
theorem dX12_lay_15 : decode cX12_lay 15 = .ok (.lload 7, 2) := by decide +kernel
theorem dX12_lay_17 : decode cX12_lay 17 = .ok (.lrem, 1) := by decide +kernel
theorem dX12_lay_18 : decode cX12_lay 18 = .ok (.lstore 9, 2) := by decide +kernel
theorem dX12_lay_20 : decode cX12_lay 20 = .ok (.lload 7, 2) := by decide +kernel
theorem dX12_lay_22 : decode cX12_lay 22 = .ok (.lstore 5, 2) := by decide +kernel
theorem dX12_lay_24 : decode cX12_lay 24 = .ok (.lload 9, 2) := by decide +kernel
theorem dX12_lay_26 : decode cX12_lay 26 = .ok (.lstore 7, 2) := by decide +kernel
theorem dX12_lay_28 : decode cX12_lay 28 = .ok (.goto (-22), 3) := by decide +kernel
theorem dX12_lay_31 : decode cX12_lay 31 = .ok (.aload_n 0, 1) := by decide +kernel
theorem dX12_lay_32 : decode cX12_lay 32 = .ok (.lload_n 1, 1) := by decide +kernel
theorem dX12_lay_33 : decode cX12_lay 33 = .ok (.lload 5, 2) := by decide +kernel
theorem dX12_lay_35 : decode cX12_lay 35 = .ok (.ldiv, 1) := by decide +kernel
theorem dX12_lay_36 : decode cX12_lay 36 = .ok (.putfield 242, 3) := by decide +kernel
theorem dX12_lay_39 : decode cX12_lay 39 = .ok (.aload_n 0, 1) := by decide +kernel
theorem dX12_lay_40 : decode cX12_lay 40 = .ok (.lload_n 3, 1) := by decide +kernel
theorem dX12_lay_41 : decode cX12_lay 41 = .ok (.lload 5, 2) := by decide +kernel
theorem dX12_lay_43 : decode cX12_lay 43 = .ok (.ldiv, 1) := by decide +kernel
theorem dX12_lay_44 : decode cX12_lay 44 = .ok (.putfield 64, 3) := by decide +kernel
theorem dX12_lay_47 : decode cX12_lay 47 = .ok (.return_, 1) := by decide +kernel
theorem dX12_winds_0 : decode cX12_winds 0 = .ok (.iload_n 1, 1) := by decide +kernel
theorem dX12_winds_1 : decode cX12_winds 1 = .ok (.iconst 0, 1) := by decide +kernel
theorem dX12_winds_2 : decode cX12_winds 2 = .ok (.sipush 999, 3) := by decide +kernel
theorem dX12_winds_5 : decode cX12_winds 5 = .ok (.invokestatic 93, 3) := by decide +kernel
theorem dX12_winds_8 : decode cX12_winds 8 = .ok (.ifCond .eq 13, 3) := by decide +kernel
theorem dX12_winds_11 : decode cX12_winds 11 = .ok (.iload_n 2, 1) := by decide +kernel
theorem dX12_winds_12 : decode cX12_winds 12 = .ok (.iconst 0, 1) := by decide +kernel
theorem dX12_winds_13 : decode cX12_winds 13 = .ok (.bipush 10, 2) := by decide +kernel
theorem dX12_winds_15 : decode cX12_winds 15 = .ok (.invokestatic 93, 3) := by decide +kernel
theorem dX12_winds_18 : decode cX12_winds 18 = .ok (.ifCond .ne 8, 3) := by decide +kernel
theorem dX12_winds_21 : decode cX12_winds 21 = .ok (.aload_n 0, 1) := by decide +kernel
theorem dX12_winds_22 : decode cX12_winds 22 = .ok (.invokevirtual 97, 3) := by decide +kernel
theorem dX12_winds_25 : decode cX12_winds 25 = .ok (.ireturn, 1) := by decide +kernel
theorem dX12_winds_26 : decode cX12_winds 26 = .ok (.iconst 0, 1) := by decide +kernel
theorem dX12_winds_27 : decode cX12_winds 27 = .ok (.istore_n 3, 1) := by decide +kernel
theorem dX12_winds_28 : decode cX12_winds 28 = .ok (.iconst 0, 1) := by decide +kernel
theorem dX12_winds_29 : decode cX12_winds 29 = .ok (.istore 4, 2) := by decide +kernel
theorem dX12_winds_31 : decode cX12_winds 31 = .ok (.iload 4, 2) := by decide +kernel
theorem dX12_winds_33 : decode cX12_winds 33 = .ok (.aload_n 0, 1) := by decide +kernel
theorem dX12_winds_34 : decode cX12_winds 34 = .ok (.getfield 77, 3) := by decide +kernel
theorem dX12_winds_37 : decode cX12_winds 37 = .ok (.if_icmp .ge 39, 3) := by decide +kernel
theorem dX12_winds_40 : decode cX12_winds 40 = .ok (.iload_n 3, 1) := by decide +kernel
theorem dX12_winds_41 : decode cX12_winds 41 = .ok (.aload_n 0, 1) := by decide +kernel
theorem dX12_winds_42 : decode cX12_winds 42 = .ok (.getfield 19, 3) := by decide +kernel
theorem dX12_winds_45 : decode cX12_winds 45 = .ok (.iload 4, 2) := by decide +kernel
theorem dX12_winds_47 : decode cX12_winds 47 = .ok (.iaload, 1) := by decide +kernel
theorem dX12_winds_48 : decode cX12_winds 48 = .ok (.aload_n 0, 1) := by decide +kernel
theorem dX12_winds_49 : decode cX12_winds 49 = .ok (.iload 4, 2) := by decide +kernel
theorem dX12_winds_51 : decode cX12_winds 51 = .ok (.invokevirtual 215, 3) := by decide +kernel
theorem dX12_winds_54 : decode cX12_winds 54 = .ok (.iload_n 1, 1) := by decide +kernel
theorem dX12_winds_55 : decode cX12_winds 55 = .ok (.if_icmp .ge 10, 3) := by decide +kernel
theorem dX12_winds_58 : decode cX12_winds 58 = .ok (.bipush 10, 2) := by decide +kernel
theorem dX12_winds_60 : decode cX12_winds 60 = .ok (.iload_n 2, 1) := by decide +kernel
theorem dX12_winds_61 : decode cX12_winds 61 = .ok (.isub, 1) := by decide +kernel
theorem dX12_winds_62 : decode cX12_winds 62 = .ok (.goto 5, 3) := by decide +kernel
theorem dX12_winds_65 : decode cX12_winds 65 = .ok (.bipush 10, 2) := by decide +kernel
theorem dX12_winds_67 : decode cX12_winds 67 = .ok (.imul, 1) := by decide +kernel
theorem dX12_winds_68 : decode cX12_winds 68 = .ok (.iadd, 1) := by decide +kernel
theorem dX12_winds_69 : decode cX12_winds 69 = .ok (.istore_n 3, 1) := by decide +kernel
theorem dX12_winds_70 : decode cX12_winds 70 = .ok (.iinc 4 1, 3) := by decide +kernel
theorem dX12_winds_73 : decode cX12_winds 73 = .ok (.goto (-42), 3) := by decide +kernel
theorem dX12_winds_76 : decode cX12_winds 76 = .ok (.aload_n 0, 1) := by decide +kernel
theorem dX12_winds_77 : decode cX12_winds 77 = .ok (.iload_n 3, 1) := by decide +kernel
theorem dX12_winds_78 : decode cX12_winds 78 = .ok (.i2l, 1) := by decide +kernel
theorem dX12_winds_79 : decode cX12_winds 79 = .ok (.ldc2_w 245, 3) := by decide +kernel
theorem dX12_winds_82 : decode cX12_winds 82 = .ok (.invokevirtual 247, 3) := by decide +kernel
theorem dX12_winds_85 : decode cX12_winds 85 = .ok (.iconst 1, 1) := by decide +kernel
theorem dX12_winds_86 : decode cX12_winds 86 = .ok (.ireturn, 1) := by decide +kernel
theorem dX12_years_0 : decode cX12_years 0 = .ok (.iload_n 1, 1) := by decide +kernel
theorem dX12_years_1 : decode cX12_years 1 = .ok (.iconst 0, 1) := by decide +kernel
theorem dX12_years_2 : decode cX12_years 2 = .ok (.ldc 251, 2) := by decide +kernel
theorem dX12_years_4 : decode cX12_years 4 = .ok (.invokestatic 93, 3) := by decide +kernel
theorem dX12_years_7 : decode cX12_years 7 = .ok (.ifCond .eq 13, 3) := by decide +kernel
theorem dX12_years_10 : decode cX12_years 10 = .ok (.iload_n 2, 1) := by decide +kernel
theorem dX12_years_11 : decode cX12_years 11 = .ok (.iconst 0, 1) := by decide +kernel
theorem dX12_years_12 : decode cX12_years 12 = .ok (.bipush 60, 2) := by decide +kernel
theorem dX12_years_14 : decode cX12_years 14 = .ok (.invokestatic 93, 3) := by decide +kernel
theorem dX12_years_17 : decode cX12_years 17 = .ok (.ifCond .ne 8, 3) := by decide +kernel
theorem dX12_years_20 : decode cX12_years 20 = .ok (.aload_n 0, 1) := by decide +kernel
theorem dX12_years_21 : decode cX12_years 21 = .ok (.invokevirtual 97, 3) := by decide +kernel
theorem dX12_years_24 : decode cX12_years 24 = .ok (.ireturn, 1) := by decide +kernel
theorem dX12_years_25 : decode cX12_years 25 = .ok (.aload_n 0, 1) := by decide +kernel
theorem dX12_years_26 : decode cX12_years 26 = .ok (.invokevirtual 252, 3) := by decide +kernel
theorem dX12_years_29 : decode cX12_years 29 = .ok (.iload_n 1, 1) := by decide +kernel
theorem dX12_years_30 : decode cX12_years 30 = .ok (.i2l, 1) := by decide +kernel
theorem dX12_years_31 : decode cX12_years 31 = .ok (.lstore_n 3, 1) := by decide +kernel
theorem dX12_years_32 : decode cX12_years 32 = .ok (.iconst 0, 1) := by decide +kernel
theorem dX12_years_33 : decode cX12_years 33 = .ok (.istore 5, 2) := by decide +kernel
theorem dX12_years_35 : decode cX12_years 35 = .ok (.iload 5, 2) := by decide +kernel
theorem dX12_years_37 : decode cX12_years 37 = .ok (.iload_n 2, 1) := by decide +kernel
theorem dX12_years_38 : decode cX12_years 38 = .ok (.if_icmp .ge 73, 3) := by decide +kernel
theorem dX12_years_41 : decode cX12_years 41 = .ok (.lload_n 3, 1) := by decide +kernel
theorem dX12_years_42 : decode cX12_years 42 = .ok (.ldc2_w 255, 3) := by decide +kernel
theorem dX12_years_45 : decode cX12_years 45 = .ok (.lmul, 1) := by decide +kernel
theorem dX12_years_46 : decode cX12_years 46 = .ok (.ldc2_w 257, 3) := by decide +kernel
theorem dX12_years_49 : decode cX12_years 49 = .ok (.ladd, 1) := by decide +kernel
theorem dX12_years_50 : decode cX12_years 50 = .ok (.ldc2_w 259, 3) := by decide +kernel
theorem dX12_years_53 : decode cX12_years 53 = .ok (.lrem, 1) := by decide +kernel
theorem dX12_years_54 : decode cX12_years 54 = .ok (.lstore_n 3, 1) := by decide +kernel
theorem dX12_years_55 : decode cX12_years 55 = .ok (.lload_n 3, 1) := by decide +kernel
theorem dX12_years_56 : decode cX12_years 56 = .ok (.ldc2_w 261, 3) := by decide +kernel
theorem dX12_years_59 : decode cX12_years 59 = .ok (.ldiv, 1) := by decide +kernel
theorem dX12_years_60 : decode cX12_years 60 = .ok (.ldc2_w 263, 3) := by decide +kernel
theorem dX12_years_63 : decode cX12_years 63 = .ok (.lrem, 1) := by decide +kernel
theorem dX12_years_64 : decode cX12_years 64 = .ok (.l2i, 1) := by decide +kernel
theorem dX12_years_65 : decode cX12_years 65 = .ok (.istore 6, 2) := by decide +kernel
theorem dX12_years_67 : decode cX12_years 67 = .ok (.lload_n 3, 1) := by decide +kernel
theorem dX12_years_68 : decode cX12_years 68 = .ok (.ldc2_w 265, 3) := by decide +kernel
theorem dX12_years_71 : decode cX12_years 71 = .ok (.ldiv, 1) := by decide +kernel
theorem dX12_years_72 : decode cX12_years 72 = .ok (.ldc2_w 267, 3) := by decide +kernel
theorem dX12_years_75 : decode cX12_years 75 = .ok (.lrem, 1) := by decide +kernel
theorem dX12_years_76 : decode cX12_years 76 = .ok (.l2i, 1) := by decide +kernel
theorem dX12_years_77 : decode cX12_years 77 = .ok (.istore 7, 2) := by decide +kernel
theorem dX12_years_79 : decode cX12_years 79 = .ok (.iload 7, 2) := by decide +kernel
theorem dX12_years_81 : decode cX12_years 81 = .ok (.ifCond .le 20, 3) := by decide +kernel
theorem dX12_years_84 : decode cX12_years 84 = .ok (.iload 6, 2) := by decide +kernel
theorem dX12_years_86 : decode cX12_years 86 = .ok (.aload_n 0, 1) := by decide +kernel
theorem dX12_years_87 : decode cX12_years 87 = .ok (.getfield 77, 3) := by decide +kernel
theorem dX12_years_90 : decode cX12_years 90 = .ok (.if_icmp .ge 11, 3) := by decide +kernel
theorem dX12_years_93 : decode cX12_years 93 = .ok (.aload_n 0, 1) := by decide +kernel
theorem dX12_years_94 : decode cX12_years 94 = .ok (.iload 6, 2) := by decide +kernel
theorem dX12_years_96 : decode cX12_years 96 = .ok (.iload 7, 2) := by decide +kernel
theorem dX12_years_98 : decode cX12_years 98 = .ok (.invokevirtual 205, 3) := by decide +kernel
theorem dX12_years_101 : decode cX12_years 101 = .ok (.aload_n 0, 1) := by decide +kernel
theorem dX12_years_102 : decode cX12_years 102 = .ok (.invokevirtual 212, 3) := by decide +kernel
theorem dX12_years_105 : decode cX12_years 105 = .ok (.iinc 5 1, 3) := by decide +kernel
theorem dX12_years_108 : decode cX12_years 108 = .ok (.goto (-73), 3) := by decide +kernel
theorem dX12_years_111 : decode cX12_years 111 = .ok (.aload_n 0, 1) := by decide +kernel
theorem dX12_years_112 : decode cX12_years 112 = .ok (.invokevirtual 269, 3) := by decide +kernel
theorem dX12_years_115 : decode cX12_years 115 = .ok (.istore 5, 2) := by decide +kernel
theorem dX12_years_117 : decode cX12_years 117 = .ok (.aload_n 0, 1) := by decide +kernel
theorem dX12_years_118 : decode cX12_years 118 = .ok (.invokevirtual 272, 3) := by decide +kernel
theorem dX12_years_121 : decode cX12_years 121 = .ok (.iload 5, 2) := by decide +kernel
theorem dX12_years_123 : decode cX12_years 123 = .ok (.ireturn, 1) := by decide +kernel
theorem dX12_part_0 : decode cX12_part 0 = .ok (.iload_n 1, 1) := by decide +kernel
theorem dX12_part_1 : decode cX12_part 1 = .ok (.ifCond .ne 10, 3) := by decide +kernel
theorem dX12_part_4 : decode cX12_part 4 = .ok (.aload_n 0, 1) := by decide +kernel
theorem dX12_part_5 : decode cX12_part 5 = .ok (.getfield 242, 3) := by decide +kernel
theorem dX12_part_8 : decode cX12_part 8 = .ok (.goto 20, 3) := by decide +kernel
theorem dX12_part_11 : decode cX12_part 11 = .ok (.iload_n 1, 1) := by decide +kernel
theorem dX12_part_12 : decode cX12_part 12 = .ok (.iconst 1, 1) := by decide +kernel
theorem dX12_part_13 : decode cX12_part 13 = .ok (.if_icmp .ne 10, 3) := by decide +kernel
theorem dX12_part_16 : decode cX12_part 16 = .ok (.aload_n 0, 1) := by decide +kernel
theorem dX12_part_17 : decode cX12_part 17 = .ok (.getfield 64, 3) := by decide +kernel
theorem dX12_part_20 : decode cX12_part 20 = .ok (.goto 8, 3) := by decide +kernel
theorem dX12_part_23 : decode cX12_part 23 = .ok (.aload_n 0, 1) := by decide +kernel
theorem dX12_part_24 : decode cX12_part 24 = .ok (.invokevirtual 97, 3) := by decide +kernel
theorem dX12_part_27 : decode cX12_part 27 = .ok (.i2l, 1) := by decide +kernel
theorem dX12_part_28 : decode cX12_part 28 = .ok (.lreturn, 1) := by decide +kernel
theorem dX12_image_0 : decode cX12_image 0 = .ok (.iload_n 1, 1) := by decide +kernel
theorem dX12_image_1 : decode cX12_image 1 = .ok (.iconst 0, 1) := by decide +kernel
theorem dX12_image_2 : decode cX12_image 2 = .ok (.iconst 1, 1) := by decide +kernel
theorem dX12_image_3 : decode cX12_image 3 = .ok (.invokestatic 93, 3) := by decide +kernel
theorem dX12_image_6 : decode cX12_image 6 = .ok (.ifCond .ne 8, 3) := by decide +kernel
theorem dX12_image_9 : decode cX12_image 9 = .ok (.aload_n 0, 1) := by decide +kernel
theorem dX12_image_10 : decode cX12_image 10 = .ok (.invokevirtual 97, 3) := by decide +kernel
theorem dX12_image_13 : decode cX12_image 13 = .ok (.ireturn, 1) := by decide +kernel
theorem dX12_image_14 : decode cX12_image 14 = .ok (.sipush 180, 3) := by decide +kernel
theorem dX12_image_17 : decode cX12_image 17 = .ok (.iload_n 1, 1) := by decide +kernel
theorem dX12_image_18 : decode cX12_image 18 = .ok (.imul, 1) := by decide +kernel
theorem dX12_image_19 : decode cX12_image 19 = .ok (.istore_n 2, 1) := by decide +kernel
theorem dX12_image_20 : decode cX12_image 20 = .ok (.aload_n 0, 1) := by decide +kernel
theorem dX12_image_21 : decode cX12_image 21 = .ok (.getfield 71, 3) := by decide +kernel
theorem dX12_image_24 : decode cX12_image 24 = .ok (.iload_n 1, 1) := by decide +kernel
theorem dX12_image_25 : decode cX12_image 25 = .ok (.iconst 1, 1) := by decide +kernel
theorem dX12_image_26 : decode cX12_image 26 = .ok (.iastore, 1) := by decide +kernel
theorem dX12_image_27 : decode cX12_image 27 = .ok (.aload_n 0, 1) := by decide +kernel
theorem dX12_image_28 : decode cX12_image 28 = .ok (.getfield 68, 3) := by decide +kernel
theorem dX12_image_31 : decode cX12_image 31 = .ok (.iload_n 2, 1) := by decide +kernel
theorem dX12_image_32 : decode cX12_image 32 = .ok (.aload_n 0, 1) := by decide +kernel
theorem dX12_image_33 : decode cX12_image 33 = .ok (.getfield 77, 3) := by decide +kernel
theorem dX12_image_36 : decode cX12_image 36 = .ok (.iastore, 1) := by decide +kernel
theorem dX12_image_37 : decode cX12_image 37 = .ok (.aload_n 0, 1) := by decide +kernel
theorem dX12_image_38 : decode cX12_image 38 = .ok (.getfield 68, 3) := by decide +kernel
theorem dX12_image_41 : decode cX12_image 41 = .ok (.iload_n 2, 1) := by decide +kernel
theorem dX12_image_42 : decode cX12_image 42 = .ok (.iconst 1, 1) := by decide +kernel
theorem dX12_image_43 : decode cX12_image 43 = .ok (.iadd, 1) := by decide +kernel
theorem dX12_image_44 : decode cX12_image 44 = .ok (.aload_n 0, 1) := by decide +kernel
theorem dX12_image_45 : decode cX12_image 45 = .ok (.getfield 87, 3) := by decide +kernel
theorem dX12_image_48 : decode cX12_image 48 = .ok (.iastore, 1) := by decide +kernel
theorem dX12_image_49 : decode cX12_image 49 = .ok (.aload_n 0, 1) := by decide +kernel
theorem dX12_image_50 : decode cX12_image 50 = .ok (.getfield 68, 3) := by decide +kernel
theorem dX12_image_53 : decode cX12_image 53 = .ok (.iload_n 2, 1) := by decide +kernel
theorem dX12_image_54 : decode cX12_image 54 = .ok (.iconst 2, 1) := by decide +kernel
theorem dX12_image_55 : decode cX12_image 55 = .ok (.iadd, 1) := by decide +kernel
theorem dX12_image_56 : decode cX12_image 56 = .ok (.aload_n 0, 1) := by decide +kernel
theorem dX12_image_57 : decode cX12_image 57 = .ok (.getfield 90, 3) := by decide +kernel
theorem dX12_image_60 : decode cX12_image 60 = .ok (.iastore, 1) := by decide +kernel
theorem dX12_image_61 : decode cX12_image 61 = .ok (.aload_n 0, 1) := by decide +kernel
theorem dX12_image_62 : decode cX12_image 62 = .ok (.aload_n 0, 1) := by decide +kernel
theorem dX12_image_63 : decode cX12_image 63 = .ok (.getfield 68, 3) := by decide +kernel
theorem dX12_image_66 : decode cX12_image 66 = .ok (.iload_n 2, 1) := by decide +kernel
theorem dX12_image_67 : decode cX12_image 67 = .ok (.iconst 3, 1) := by decide +kernel
theorem dX12_image_68 : decode cX12_image 68 = .ok (.iadd, 1) := by decide +kernel
theorem dX12_image_69 : decode cX12_image 69 = .ok (.invokevirtual 189, 3) := by decide +kernel
theorem dX12_image_72 : decode cX12_image 72 = .ok (.iconst 0, 1) := by decide +kernel
theorem dX12_image_73 : decode cX12_image 73 = .ok (.istore_n 3, 1) := by decide +kernel
theorem dX12_image_74 : decode cX12_image 74 = .ok (.iload_n 3, 1) := by decide +kernel
theorem dX12_image_75 : decode cX12_image 75 = .ok (.bipush 6, 2) := by decide +kernel
theorem dX12_image_77 : decode cX12_image 77 = .ok (.if_icmp .ge 128, 3) := by decide +kernel
theorem dX12_image_80 : decode cX12_image 80 = .ok (.aload_n 0, 1) := by decide +kernel
theorem dX12_image_81 : decode cX12_image 81 = .ok (.getfield 68, 3) := by decide +kernel
theorem dX12_image_84 : decode cX12_image 84 = .ok (.iload_n 2, 1) := by decide +kernel
theorem dX12_image_85 : decode cX12_image 85 = .ok (.bipush 17, 2) := by decide +kernel
theorem dX12_image_87 : decode cX12_image 87 = .ok (.iadd, 1) := by decide +kernel
theorem dX12_image_88 : decode cX12_image 88 = .ok (.iload_n 3, 1) := by decide +kernel
theorem dX12_image_89 : decode cX12_image 89 = .ok (.iadd, 1) := by decide +kernel
theorem dX12_image_90 : decode cX12_image 90 = .ok (.aload_n 0, 1) := by decide +kernel
theorem dX12_image_91 : decode cX12_image 91 = .ok (.getfield 13, 3) := by decide +kernel
theorem dX12_image_94 : decode cX12_image 94 = .ok (.iload_n 3, 1) := by decide +kernel
theorem dX12_image_95 : decode cX12_image 95 = .ok (.iaload, 1) := by decide +kernel
theorem dX12_image_96 : decode cX12_image 96 = .ok (.iastore, 1) := by decide +kernel
theorem dX12_image_97 : decode cX12_image 97 = .ok (.aload_n 0, 1) := by decide +kernel
theorem dX12_image_98 : decode cX12_image 98 = .ok (.getfield 68, 3) := by decide +kernel
theorem dX12_image_101 : decode cX12_image 101 = .ok (.iload_n 2, 1) := by decide +kernel
theorem dX12_image_102 : decode cX12_image 102 = .ok (.bipush 23, 2) := by decide +kernel
theorem dX12_image_104 : decode cX12_image 104 = .ok (.iadd, 1) := by decide +kernel
theorem dX12_image_105 : decode cX12_image 105 = .ok (.iload_n 3, 1) := by decide +kernel
theorem dX12_image_106 : decode cX12_image 106 = .ok (.iadd, 1) := by decide +kernel
theorem dX12_image_107 : decode cX12_image 107 = .ok (.aload_n 0, 1) := by decide +kernel
theorem dX12_image_108 : decode cX12_image 108 = .ok (.getfield 22, 3) := by decide +kernel
theorem dX12_image_111 : decode cX12_image 111 = .ok (.iload_n 3, 1) := by decide +kernel
theorem dX12_image_112 : decode cX12_image 112 = .ok (.iaload, 1) := by decide +kernel
theorem dX12_image_113 : decode cX12_image 113 = .ok (.iastore, 1) := by decide +kernel
theorem dX12_image_114 : decode cX12_image 114 = .ok (.aload_n 0, 1) := by decide +kernel
theorem dX12_image_115 : decode cX12_image 115 = .ok (.getfield 68, 3) := by decide +kernel
theorem dX12_image_118 : decode cX12_image 118 = .ok (.iload_n 2, 1) := by decide +kernel
theorem dX12_image_119 : decode cX12_image 119 = .ok (.bipush 29, 2) := by decide +kernel
theorem dX12_image_121 : decode cX12_image 121 = .ok (.iadd, 1) := by decide +kernel
theorem dX12_image_122 : decode cX12_image 122 = .ok (.iload_n 3, 1) := by decide +kernel
theorem dX12_image_123 : decode cX12_image 123 = .ok (.iadd, 1) := by decide +kernel
theorem dX12_image_124 : decode cX12_image 124 = .ok (.aload_n 0, 1) := by decide +kernel
theorem dX12_image_125 : decode cX12_image 125 = .ok (.getfield 25, 3) := by decide +kernel
theorem dX12_image_128 : decode cX12_image 128 = .ok (.iload_n 3, 1) := by decide +kernel
theorem dX12_image_129 : decode cX12_image 129 = .ok (.iaload, 1) := by decide +kernel
theorem dX12_image_130 : decode cX12_image 130 = .ok (.iastore, 1) := by decide +kernel
theorem dX12_image_131 : decode cX12_image 131 = .ok (.aload_n 0, 1) := by decide +kernel
theorem dX12_image_132 : decode cX12_image 132 = .ok (.getfield 68, 3) := by decide +kernel
theorem dX12_image_135 : decode cX12_image 135 = .ok (.iload_n 2, 1) := by decide +kernel
theorem dX12_image_136 : decode cX12_image 136 = .ok (.bipush 35, 2) := by decide +kernel
theorem dX12_image_138 : decode cX12_image 138 = .ok (.iadd, 1) := by decide +kernel
theorem dX12_image_139 : decode cX12_image 139 = .ok (.iload_n 3, 1) := by decide +kernel
theorem dX12_image_140 : decode cX12_image 140 = .ok (.iadd, 1) := by decide +kernel
theorem dX12_image_141 : decode cX12_image 141 = .ok (.aload_n 0, 1) := by decide +kernel
theorem dX12_image_142 : decode cX12_image 142 = .ok (.getfield 28, 3) := by decide +kernel
theorem dX12_image_145 : decode cX12_image 145 = .ok (.iload_n 3, 1) := by decide +kernel
theorem dX12_image_146 : decode cX12_image 146 = .ok (.iaload, 1) := by decide +kernel
theorem dX12_image_147 : decode cX12_image 147 = .ok (.iastore, 1) := by decide +kernel
theorem dX12_image_148 : decode cX12_image 148 = .ok (.aload_n 0, 1) := by decide +kernel
theorem dX12_image_149 : decode cX12_image 149 = .ok (.getfield 68, 3) := by decide +kernel
theorem dX12_image_152 : decode cX12_image 152 = .ok (.iload_n 2, 1) := by decide +kernel
theorem dX12_image_153 : decode cX12_image 153 = .ok (.bipush 41, 2) := by decide +kernel
theorem dX12_image_155 : decode cX12_image 155 = .ok (.iadd, 1) := by decide +kernel
theorem dX12_image_156 : decode cX12_image 156 = .ok (.iload_n 3, 1) := by decide +kernel
theorem dX12_image_157 : decode cX12_image 157 = .ok (.iadd, 1) := by decide +kernel
theorem dX12_image_158 : decode cX12_image 158 = .ok (.aload_n 0, 1) := by decide +kernel
theorem dX12_image_159 : decode cX12_image 159 = .ok (.getfield 31, 3) := by decide +kernel
theorem dX12_image_162 : decode cX12_image 162 = .ok (.iload_n 3, 1) := by decide +kernel
theorem dX12_image_163 : decode cX12_image 163 = .ok (.iaload, 1) := by decide +kernel
theorem dX12_image_164 : decode cX12_image 164 = .ok (.iastore, 1) := by decide +kernel
theorem dX12_image_165 : decode cX12_image 165 = .ok (.aload_n 0, 1) := by decide +kernel
theorem dX12_image_166 : decode cX12_image 166 = .ok (.getfield 68, 3) := by decide +kernel
theorem dX12_image_169 : decode cX12_image 169 = .ok (.iload_n 2, 1) := by decide +kernel
theorem dX12_image_170 : decode cX12_image 170 = .ok (.bipush 47, 2) := by decide +kernel
theorem dX12_image_172 : decode cX12_image 172 = .ok (.iadd, 1) := by decide +kernel
theorem dX12_image_173 : decode cX12_image 173 = .ok (.iload_n 3, 1) := by decide +kernel
theorem dX12_image_174 : decode cX12_image 174 = .ok (.iadd, 1) := by decide +kernel
theorem dX12_image_175 : decode cX12_image 175 = .ok (.aload_n 0, 1) := by decide +kernel
theorem dX12_image_176 : decode cX12_image 176 = .ok (.getfield 34, 3) := by decide +kernel
theorem dX12_image_179 : decode cX12_image 179 = .ok (.iload_n 3, 1) := by decide +kernel
theorem dX12_image_180 : decode cX12_image 180 = .ok (.iaload, 1) := by decide +kernel
theorem dX12_image_181 : decode cX12_image 181 = .ok (.iastore, 1) := by decide +kernel
theorem dX12_image_182 : decode cX12_image 182 = .ok (.aload_n 0, 1) := by decide +kernel
theorem dX12_image_183 : decode cX12_image 183 = .ok (.getfield 68, 3) := by decide +kernel
theorem dX12_image_186 : decode cX12_image 186 = .ok (.iload_n 2, 1) := by decide +kernel
theorem dX12_image_187 : decode cX12_image 187 = .ok (.bipush 53, 2) := by decide +kernel
theorem dX12_image_189 : decode cX12_image 189 = .ok (.iadd, 1) := by decide +kernel
theorem dX12_image_190 : decode cX12_image 190 = .ok (.iload_n 3, 1) := by decide +kernel
theorem dX12_image_191 : decode cX12_image 191 = .ok (.iadd, 1) := by decide +kernel
theorem dX12_image_192 : decode cX12_image 192 = .ok (.aload_n 0, 1) := by decide +kernel
theorem dX12_image_193 : decode cX12_image 193 = .ok (.getfield 37, 3) := by decide +kernel
theorem dX12_image_196 : decode cX12_image 196 = .ok (.iload_n 3, 1) := by decide +kernel
theorem dX12_image_197 : decode cX12_image 197 = .ok (.iaload, 1) := by decide +kernel
theorem dX12_image_198 : decode cX12_image 198 = .ok (.iastore, 1) := by decide +kernel
theorem dX12_image_199 : decode cX12_image 199 = .ok (.iinc 3 1, 3) := by decide +kernel
theorem dX12_image_202 : decode cX12_image 202 = .ok (.goto (-128), 3) := by decide +kernel
theorem dX12_image_205 : decode cX12_image 205 = .ok (.iconst 0, 1) := by decide +kernel
theorem dX12_image_206 : decode cX12_image 206 = .ok (.istore_n 3, 1) := by decide +kernel
theorem dX12_image_207 : decode cX12_image 207 = .ok (.iload_n 3, 1) := by decide +kernel
theorem dX12_image_208 : decode cX12_image 208 = .ok (.bipush 112, 2) := by decide +kernel
theorem dX12_image_210 : decode cX12_image 210 = .ok (.if_icmp .ge 26, 3) := by decide +kernel
theorem dX12_image_213 : decode cX12_image 213 = .ok (.aload_n 0, 1) := by decide +kernel
theorem dX12_image_214 : decode cX12_image 214 = .ok (.getfield 68, 3) := by decide +kernel
theorem dX12_image_217 : decode cX12_image 217 = .ok (.iload_n 2, 1) := by decide +kernel
theorem dX12_image_218 : decode cX12_image 218 = .ok (.bipush 59, 2) := by decide +kernel
theorem dX12_image_220 : decode cX12_image 220 = .ok (.iadd, 1) := by decide +kernel
theorem dX12_image_221 : decode cX12_image 221 = .ok (.iload_n 3, 1) := by decide +kernel
theorem dX12_image_222 : decode cX12_image 222 = .ok (.iadd, 1) := by decide +kernel
theorem dX12_image_223 : decode cX12_image 223 = .ok (.aload_n 0, 1) := by decide +kernel
theorem dX12_image_224 : decode cX12_image 224 = .ok (.getfield 46, 3) := by decide +kernel
theorem dX12_image_227 : decode cX12_image 227 = .ok (.iload_n 3, 1) := by decide +kernel
theorem dX12_image_228 : decode cX12_image 228 = .ok (.iaload, 1) := by decide +kernel
theorem dX12_image_229 : decode cX12_image 229 = .ok (.iastore, 1) := by decide +kernel
theorem dX12_image_230 : decode cX12_image 230 = .ok (.iinc 3 1, 3) := by decide +kernel
theorem dX12_image_233 : decode cX12_image 233 = .ok (.goto (-26), 3) := by decide +kernel
theorem dX12_image_236 : decode cX12_image 236 = .ok (.iconst 1, 1) := by decide +kernel
theorem dX12_image_237 : decode cX12_image 237 = .ok (.ireturn, 1) := by decide +kernel
theorem dX12_from_0 : decode cX12_from 0 = .ok (.iload_n 1, 1) := by decide +kernel
theorem dX12_from_1 : decode cX12_from 1 = .ok (.iconst 0, 1) := by decide +kernel
theorem dX12_from_2 : decode cX12_from 2 = .ok (.iconst 1, 1) := by decide +kernel
theorem dX12_from_3 : decode cX12_from 3 = .ok (.invokestatic 93, 3) := by decide +kernel
theorem dX12_from_6 : decode cX12_from 6 = .ok (.ifCond .ne 8, 3) := by decide +kernel
theorem dX12_from_9 : decode cX12_from 9 = .ok (.aload_n 0, 1) := by decide +kernel
theorem dX12_from_10 : decode cX12_from 10 = .ok (.invokevirtual 97, 3) := by decide +kernel
theorem dX12_from_13 : decode cX12_from 13 = .ok (.ireturn, 1) := by decide +kernel
theorem dX12_from_14 : decode cX12_from 14 = .ok (.aload_n 0, 1) := by decide +kernel
theorem dX12_from_15 : decode cX12_from 15 = .ok (.getfield 71, 3) := by decide +kernel
theorem dX12_from_18 : decode cX12_from 18 = .ok (.iload_n 1, 1) := by decide +kernel
theorem dX12_from_19 : decode cX12_from 19 = .ok (.iaload, 1) := by decide +kernel
theorem dX12_from_20 : decode cX12_from 20 = .ok (.ifCond .ne 8, 3) := by decide +kernel
theorem dX12_from_23 : decode cX12_from 23 = .ok (.aload_n 0, 1) := by decide +kernel
theorem dX12_from_24 : decode cX12_from 24 = .ok (.invokevirtual 209, 3) := by decide +kernel
theorem dX12_from_27 : decode cX12_from 27 = .ok (.ireturn, 1) := by decide +kernel
theorem dX12_from_28 : decode cX12_from 28 = .ok (.sipush 180, 3) := by decide +kernel
theorem dX12_from_31 : decode cX12_from 31 = .ok (.iload_n 1, 1) := by decide +kernel
theorem dX12_from_32 : decode cX12_from 32 = .ok (.imul, 1) := by decide +kernel
theorem dX12_from_33 : decode cX12_from 33 = .ok (.istore_n 2, 1) := by decide +kernel
theorem dX12_from_34 : decode cX12_from 34 = .ok (.aload_n 0, 1) := by decide +kernel
theorem dX12_from_35 : decode cX12_from 35 = .ok (.aload_n 0, 1) := by decide +kernel
theorem dX12_from_36 : decode cX12_from 36 = .ok (.getfield 68, 3) := by decide +kernel
theorem dX12_from_39 : decode cX12_from 39 = .ok (.iload_n 2, 1) := by decide +kernel
theorem dX12_from_40 : decode cX12_from 40 = .ok (.iaload, 1) := by decide +kernel
theorem dX12_from_41 : decode cX12_from 41 = .ok (.putfield 77, 3) := by decide +kernel
theorem dX12_from_44 : decode cX12_from 44 = .ok (.aload_n 0, 1) := by decide +kernel
theorem dX12_from_45 : decode cX12_from 45 = .ok (.aload_n 0, 1) := by decide +kernel
theorem dX12_from_46 : decode cX12_from 46 = .ok (.getfield 68, 3) := by decide +kernel
theorem dX12_from_49 : decode cX12_from 49 = .ok (.iload_n 2, 1) := by decide +kernel
theorem dX12_from_50 : decode cX12_from 50 = .ok (.iconst 1, 1) := by decide +kernel
theorem dX12_from_51 : decode cX12_from 51 = .ok (.iadd, 1) := by decide +kernel
theorem dX12_from_52 : decode cX12_from 52 = .ok (.iaload, 1) := by decide +kernel
theorem dX12_from_53 : decode cX12_from 53 = .ok (.putfield 87, 3) := by decide +kernel
theorem dX12_from_56 : decode cX12_from 56 = .ok (.aload_n 0, 1) := by decide +kernel
theorem dX12_from_57 : decode cX12_from 57 = .ok (.aload_n 0, 1) := by decide +kernel
theorem dX12_from_58 : decode cX12_from 58 = .ok (.getfield 68, 3) := by decide +kernel
theorem dX12_from_61 : decode cX12_from 61 = .ok (.iload_n 2, 1) := by decide +kernel
theorem dX12_from_62 : decode cX12_from 62 = .ok (.iconst 2, 1) := by decide +kernel
theorem dX12_from_63 : decode cX12_from 63 = .ok (.iadd, 1) := by decide +kernel
theorem dX12_from_64 : decode cX12_from 64 = .ok (.iaload, 1) := by decide +kernel
theorem dX12_from_65 : decode cX12_from 65 = .ok (.putfield 90, 3) := by decide +kernel
theorem dX12_from_68 : decode cX12_from 68 = .ok (.aload_n 0, 1) := by decide +kernel
theorem dX12_from_69 : decode cX12_from 69 = .ok (.aload_n 0, 1) := by decide +kernel
theorem dX12_from_70 : decode cX12_from 70 = .ok (.getfield 68, 3) := by decide +kernel
theorem dX12_from_73 : decode cX12_from 73 = .ok (.iload_n 2, 1) := by decide +kernel
theorem dX12_from_74 : decode cX12_from 74 = .ok (.iconst 3, 1) := by decide +kernel
theorem dX12_from_75 : decode cX12_from 75 = .ok (.iadd, 1) := by decide +kernel
theorem dX12_from_76 : decode cX12_from 76 = .ok (.invokevirtual 193, 3) := by decide +kernel
theorem dX12_from_79 : decode cX12_from 79 = .ok (.iconst 0, 1) := by decide +kernel
theorem dX12_from_80 : decode cX12_from 80 = .ok (.istore_n 3, 1) := by decide +kernel
theorem dX12_from_81 : decode cX12_from 81 = .ok (.iload_n 3, 1) := by decide +kernel
theorem dX12_from_82 : decode cX12_from 82 = .ok (.bipush 6, 2) := by decide +kernel
theorem dX12_from_84 : decode cX12_from 84 = .ok (.if_icmp .ge 128, 3) := by decide +kernel
theorem dX12_from_87 : decode cX12_from 87 = .ok (.aload_n 0, 1) := by decide +kernel
theorem dX12_from_88 : decode cX12_from 88 = .ok (.getfield 13, 3) := by decide +kernel
theorem dX12_from_91 : decode cX12_from 91 = .ok (.iload_n 3, 1) := by decide +kernel
theorem dX12_from_92 : decode cX12_from 92 = .ok (.aload_n 0, 1) := by decide +kernel
theorem dX12_from_93 : decode cX12_from 93 = .ok (.getfield 68, 3) := by decide +kernel
theorem dX12_from_96 : decode cX12_from 96 = .ok (.iload_n 2, 1) := by decide +kernel
theorem dX12_from_97 : decode cX12_from 97 = .ok (.bipush 17, 2) := by decide +kernel
theorem dX12_from_99 : decode cX12_from 99 = .ok (.iadd, 1) := by decide +kernel
theorem dX12_from_100 : decode cX12_from 100 = .ok (.iload_n 3, 1) := by decide +kernel
theorem dX12_from_101 : decode cX12_from 101 = .ok (.iadd, 1) := by decide +kernel
theorem dX12_from_102 : decode cX12_from 102 = .ok (.iaload, 1) := by decide +kernel
theorem dX12_from_103 : decode cX12_from 103 = .ok (.iastore, 1) := by decide +kernel
theorem dX12_from_104 : decode cX12_from 104 = .ok (.aload_n 0, 1) := by decide +kernel
theorem dX12_from_105 : decode cX12_from 105 = .ok (.getfield 22, 3) := by decide +kernel
theorem dX12_from_108 : decode cX12_from 108 = .ok (.iload_n 3, 1) := by decide +kernel
theorem dX12_from_109 : decode cX12_from 109 = .ok (.aload_n 0, 1) := by decide +kernel
theorem dX12_from_110 : decode cX12_from 110 = .ok (.getfield 68, 3) := by decide +kernel
theorem dX12_from_113 : decode cX12_from 113 = .ok (.iload_n 2, 1) := by decide +kernel
theorem dX12_from_114 : decode cX12_from 114 = .ok (.bipush 23, 2) := by decide +kernel
theorem dX12_from_116 : decode cX12_from 116 = .ok (.iadd, 1) := by decide +kernel
theorem dX12_from_117 : decode cX12_from 117 = .ok (.iload_n 3, 1) := by decide +kernel
theorem dX12_from_118 : decode cX12_from 118 = .ok (.iadd, 1) := by decide +kernel
theorem dX12_from_119 : decode cX12_from 119 = .ok (.iaload, 1) := by decide +kernel
theorem dX12_from_120 : decode cX12_from 120 = .ok (.iastore, 1) := by decide +kernel
theorem dX12_from_121 : decode cX12_from 121 = .ok (.aload_n 0, 1) := by decide +kernel
theorem dX12_from_122 : decode cX12_from 122 = .ok (.getfield 25, 3) := by decide +kernel
theorem dX12_from_125 : decode cX12_from 125 = .ok (.iload_n 3, 1) := by decide +kernel
theorem dX12_from_126 : decode cX12_from 126 = .ok (.aload_n 0, 1) := by decide +kernel
theorem dX12_from_127 : decode cX12_from 127 = .ok (.getfield 68, 3) := by decide +kernel
theorem dX12_from_130 : decode cX12_from 130 = .ok (.iload_n 2, 1) := by decide +kernel
theorem dX12_from_131 : decode cX12_from 131 = .ok (.bipush 29, 2) := by decide +kernel
theorem dX12_from_133 : decode cX12_from 133 = .ok (.iadd, 1) := by decide +kernel
theorem dX12_from_134 : decode cX12_from 134 = .ok (.iload_n 3, 1) := by decide +kernel
theorem dX12_from_135 : decode cX12_from 135 = .ok (.iadd, 1) := by decide +kernel
theorem dX12_from_136 : decode cX12_from 136 = .ok (.iaload, 1) := by decide +kernel
theorem dX12_from_137 : decode cX12_from 137 = .ok (.iastore, 1) := by decide +kernel
theorem dX12_from_138 : decode cX12_from 138 = .ok (.aload_n 0, 1) := by decide +kernel
theorem dX12_from_139 : decode cX12_from 139 = .ok (.getfield 28, 3) := by decide +kernel
theorem dX12_from_142 : decode cX12_from 142 = .ok (.iload_n 3, 1) := by decide +kernel
theorem dX12_from_143 : decode cX12_from 143 = .ok (.aload_n 0, 1) := by decide +kernel
theorem dX12_from_144 : decode cX12_from 144 = .ok (.getfield 68, 3) := by decide +kernel
theorem dX12_from_147 : decode cX12_from 147 = .ok (.iload_n 2, 1) := by decide +kernel
theorem dX12_from_148 : decode cX12_from 148 = .ok (.bipush 35, 2) := by decide +kernel
theorem dX12_from_150 : decode cX12_from 150 = .ok (.iadd, 1) := by decide +kernel
theorem dX12_from_151 : decode cX12_from 151 = .ok (.iload_n 3, 1) := by decide +kernel
theorem dX12_from_152 : decode cX12_from 152 = .ok (.iadd, 1) := by decide +kernel
theorem dX12_from_153 : decode cX12_from 153 = .ok (.iaload, 1) := by decide +kernel
theorem dX12_from_154 : decode cX12_from 154 = .ok (.iastore, 1) := by decide +kernel
theorem dX12_from_155 : decode cX12_from 155 = .ok (.aload_n 0, 1) := by decide +kernel
theorem dX12_from_156 : decode cX12_from 156 = .ok (.getfield 31, 3) := by decide +kernel
theorem dX12_from_159 : decode cX12_from 159 = .ok (.iload_n 3, 1) := by decide +kernel
theorem dX12_from_160 : decode cX12_from 160 = .ok (.aload_n 0, 1) := by decide +kernel
theorem dX12_from_161 : decode cX12_from 161 = .ok (.getfield 68, 3) := by decide +kernel
theorem dX12_from_164 : decode cX12_from 164 = .ok (.iload_n 2, 1) := by decide +kernel
theorem dX12_from_165 : decode cX12_from 165 = .ok (.bipush 41, 2) := by decide +kernel
theorem dX12_from_167 : decode cX12_from 167 = .ok (.iadd, 1) := by decide +kernel
theorem dX12_from_168 : decode cX12_from 168 = .ok (.iload_n 3, 1) := by decide +kernel
theorem dX12_from_169 : decode cX12_from 169 = .ok (.iadd, 1) := by decide +kernel
theorem dX12_from_170 : decode cX12_from 170 = .ok (.iaload, 1) := by decide +kernel
theorem dX12_from_171 : decode cX12_from 171 = .ok (.iastore, 1) := by decide +kernel
theorem dX12_from_172 : decode cX12_from 172 = .ok (.aload_n 0, 1) := by decide +kernel
theorem dX12_from_173 : decode cX12_from 173 = .ok (.getfield 34, 3) := by decide +kernel
theorem dX12_from_176 : decode cX12_from 176 = .ok (.iload_n 3, 1) := by decide +kernel
theorem dX12_from_177 : decode cX12_from 177 = .ok (.aload_n 0, 1) := by decide +kernel
theorem dX12_from_178 : decode cX12_from 178 = .ok (.getfield 68, 3) := by decide +kernel
theorem dX12_from_181 : decode cX12_from 181 = .ok (.iload_n 2, 1) := by decide +kernel
theorem dX12_from_182 : decode cX12_from 182 = .ok (.bipush 47, 2) := by decide +kernel
theorem dX12_from_184 : decode cX12_from 184 = .ok (.iadd, 1) := by decide +kernel
theorem dX12_from_185 : decode cX12_from 185 = .ok (.iload_n 3, 1) := by decide +kernel
theorem dX12_from_186 : decode cX12_from 186 = .ok (.iadd, 1) := by decide +kernel
theorem dX12_from_187 : decode cX12_from 187 = .ok (.iaload, 1) := by decide +kernel
theorem dX12_from_188 : decode cX12_from 188 = .ok (.iastore, 1) := by decide +kernel
theorem dX12_from_189 : decode cX12_from 189 = .ok (.aload_n 0, 1) := by decide +kernel
theorem dX12_from_190 : decode cX12_from 190 = .ok (.getfield 37, 3) := by decide +kernel
theorem dX12_from_193 : decode cX12_from 193 = .ok (.iload_n 3, 1) := by decide +kernel
theorem dX12_from_194 : decode cX12_from 194 = .ok (.aload_n 0, 1) := by decide +kernel
theorem dX12_from_195 : decode cX12_from 195 = .ok (.getfield 68, 3) := by decide +kernel
theorem dX12_from_198 : decode cX12_from 198 = .ok (.iload_n 2, 1) := by decide +kernel
theorem dX12_from_199 : decode cX12_from 199 = .ok (.bipush 53, 2) := by decide +kernel
theorem dX12_from_201 : decode cX12_from 201 = .ok (.iadd, 1) := by decide +kernel
theorem dX12_from_202 : decode cX12_from 202 = .ok (.iload_n 3, 1) := by decide +kernel
theorem dX12_from_203 : decode cX12_from 203 = .ok (.iadd, 1) := by decide +kernel
theorem dX12_from_204 : decode cX12_from 204 = .ok (.iaload, 1) := by decide +kernel
theorem dX12_from_205 : decode cX12_from 205 = .ok (.iastore, 1) := by decide +kernel
theorem dX12_from_206 : decode cX12_from 206 = .ok (.iinc 3 1, 3) := by decide +kernel
theorem dX12_from_209 : decode cX12_from 209 = .ok (.goto (-128), 3) := by decide +kernel
theorem dX12_from_212 : decode cX12_from 212 = .ok (.iconst 0, 1) := by decide +kernel
theorem dX12_from_213 : decode cX12_from 213 = .ok (.istore_n 3, 1) := by decide +kernel
theorem dX12_from_214 : decode cX12_from 214 = .ok (.iload_n 3, 1) := by decide +kernel
theorem dX12_from_215 : decode cX12_from 215 = .ok (.bipush 112, 2) := by decide +kernel
theorem dX12_from_217 : decode cX12_from 217 = .ok (.if_icmp .ge 26, 3) := by decide +kernel
theorem dX12_from_220 : decode cX12_from 220 = .ok (.aload_n 0, 1) := by decide +kernel
theorem dX12_from_221 : decode cX12_from 221 = .ok (.getfield 46, 3) := by decide +kernel
theorem dX12_from_224 : decode cX12_from 224 = .ok (.iload_n 3, 1) := by decide +kernel
theorem dX12_from_225 : decode cX12_from 225 = .ok (.aload_n 0, 1) := by decide +kernel
theorem dX12_from_226 : decode cX12_from 226 = .ok (.getfield 68, 3) := by decide +kernel
theorem dX12_from_229 : decode cX12_from 229 = .ok (.iload_n 2, 1) := by decide +kernel
theorem dX12_from_230 : decode cX12_from 230 = .ok (.bipush 59, 2) := by decide +kernel
theorem dX12_from_232 : decode cX12_from 232 = .ok (.iadd, 1) := by decide +kernel
theorem dX12_from_233 : decode cX12_from 233 = .ok (.iload_n 3, 1) := by decide +kernel
theorem dX12_from_234 : decode cX12_from 234 = .ok (.iadd, 1) := by decide +kernel
theorem dX12_from_235 : decode cX12_from 235 = .ok (.iaload, 1) := by decide +kernel
theorem dX12_from_236 : decode cX12_from 236 = .ok (.iastore, 1) := by decide +kernel
theorem dX12_from_237 : decode cX12_from 237 = .ok (.iinc 3 1, 3) := by decide +kernel
theorem dX12_from_240 : decode cX12_from 240 = .ok (.goto (-26), 3) := by decide +kernel
theorem dX12_from_243 : decode cX12_from 243 = .ok (.iconst 1, 1) := by decide +kernel
theorem dX12_from_244 : decode cX12_from 244 = .ok (.ireturn, 1) := by decide +kernel
theorem dX12_status_0 : decode cX12_status 0 = .ok (.iload_n 1, 1) := by decide +kernel
theorem dX12_status_1 : decode cX12_status 1 = .ok (.iconst 0, 1) := by decide +kernel
theorem dX12_status_2 : decode cX12_status 2 = .ok (.iconst 2, 1) := by decide +kernel
theorem dX12_status_3 : decode cX12_status 3 = .ok (.invokestatic 93, 3) := by decide +kernel
theorem dX12_status_6 : decode cX12_status 6 = .ok (.ifCond .ne 15, 3) := by decide +kernel
theorem dX12_status_9 : decode cX12_status 9 = .ok (.aload_n 0, 1) := by decide +kernel
theorem dX12_status_10 : decode cX12_status 10 = .ok (.getfield 1, 3) := by decide +kernel
theorem dX12_status_13 : decode cX12_status 13 = .ok (.iconst 0, 1) := by decide +kernel
theorem dX12_status_14 : decode cX12_status 14 = .ok (.dup2, 1) := by decide +kernel
theorem dX12_status_15 : decode cX12_status 15 = .ok (.iaload, 1) := by decide +kernel
theorem dX12_status_16 : decode cX12_status 16 = .ok (.iconst 1, 1) := by decide +kernel
theorem dX12_status_17 : decode cX12_status 17 = .ok (.iadd, 1) := by decide +kernel
theorem dX12_status_18 : decode cX12_status 18 = .ok (.iastore, 1) := by decide +kernel
theorem dX12_status_19 : decode cX12_status 19 = .ok (.iconst (-1), 1) := by decide +kernel
theorem dX12_status_20 : decode cX12_status 20 = .ok (.ireturn, 1) := by decide +kernel
theorem dX12_status_21 : decode cX12_status 21 = .ok (.aload_n 0, 1) := by decide +kernel
theorem dX12_status_22 : decode cX12_status 22 = .ok (.getfield 1, 3) := by decide +kernel
theorem dX12_status_25 : decode cX12_status 25 = .ok (.iload_n 1, 1) := by decide +kernel
theorem dX12_status_26 : decode cX12_status 26 = .ok (.iaload, 1) := by decide +kernel
theorem dX12_status_27 : decode cX12_status 27 = .ok (.ireturn, 1) := by decide +kernel
theorem dX12_bits_0 : decode cX12_bits 0 = .ok (.iconst 0, 1) := by decide +kernel
theorem dX12_bits_1 : decode cX12_bits 1 = .ok (.istore_n 1, 1) := by decide +kernel
theorem dX12_bits_2 : decode cX12_bits 2 = .ok (.iconst 0, 1) := by decide +kernel
theorem dX12_bits_3 : decode cX12_bits 3 = .ok (.istore_n 2, 1) := by decide +kernel
theorem dX12_bits_4 : decode cX12_bits 4 = .ok (.iload_n 2, 1) := by decide +kernel
theorem dX12_bits_5 : decode cX12_bits 5 = .ok (.bipush 6, 2) := by decide +kernel
theorem dX12_bits_7 : decode cX12_bits 7 = .ok (.if_icmp .ge 17, 3) := by decide +kernel
theorem dX12_bits_10 : decode cX12_bits 10 = .ok (.iload_n 1, 1) := by decide +kernel
theorem dX12_bits_11 : decode cX12_bits 11 = .ok (.iload_n 0, 1) := by decide +kernel
theorem dX12_bits_12 : decode cX12_bits 12 = .ok (.iload_n 2, 1) := by decide +kernel
theorem dX12_bits_13 : decode cX12_bits 13 = .ok (.ishr, 1) := by decide +kernel
theorem dX12_bits_14 : decode cX12_bits 14 = .ok (.iconst 1, 1) := by decide +kernel
theorem dX12_bits_15 : decode cX12_bits 15 = .ok (.iand, 1) := by decide +kernel
theorem dX12_bits_16 : decode cX12_bits 16 = .ok (.iadd, 1) := by decide +kernel
theorem dX12_bits_17 : decode cX12_bits 17 = .ok (.istore_n 1, 1) := by decide +kernel
theorem dX12_bits_18 : decode cX12_bits 18 = .ok (.iinc 2 1, 3) := by decide +kernel
theorem dX12_bits_21 : decode cX12_bits 21 = .ok (.goto (-17), 3) := by decide +kernel
theorem dX12_bits_24 : decode cX12_bits 24 = .ok (.iload_n 1, 1) := by decide +kernel
theorem dX12_bits_25 : decode cX12_bits 25 = .ok (.ireturn, 1) := by decide +kernel
theorem dX12_allPieces_0 : decode cX12_allPieces 0 = .ok (.iconst 0, 1) := by decide +kernel
theorem dX12_allPieces_1 : decode cX12_allPieces 1 = .ok (.istore_n 1, 1) := by decide +kernel
theorem dX12_allPieces_2 : decode cX12_allPieces 2 = .ok (.iconst 0, 1) := by decide +kernel
theorem dX12_allPieces_3 : decode cX12_allPieces 3 = .ok (.istore_n 2, 1) := by decide +kernel
theorem dX12_allPieces_4 : decode cX12_allPieces 4 = .ok (.iload_n 2, 1) := by decide +kernel
theorem dX12_allPieces_5 : decode cX12_allPieces 5 = .ok (.aload_n 0, 1) := by decide +kernel
theorem dX12_allPieces_6 : decode cX12_allPieces 6 = .ok (.getfield 77, 3) := by decide +kernel
theorem dX12_allPieces_9 : decode cX12_allPieces 9 = .ok (.if_icmp .ge 18, 3) := by decide +kernel
theorem dX12_allPieces_12 : decode cX12_allPieces 12 = .ok (.iload_n 1, 1) := by decide +kernel
theorem dX12_allPieces_13 : decode cX12_allPieces 13 = .ok (.aload_n 0, 1) := by decide +kernel
theorem dX12_allPieces_14 : decode cX12_allPieces 14 = .ok (.getfield 19, 3) := by decide +kernel
theorem dX12_allPieces_17 : decode cX12_allPieces 17 = .ok (.iload_n 2, 1) := by decide +kernel
theorem dX12_allPieces_18 : decode cX12_allPieces 18 = .ok (.iaload, 1) := by decide +kernel
theorem dX12_allPieces_19 : decode cX12_allPieces 19 = .ok (.iadd, 1) := by decide +kernel
theorem dX12_allPieces_20 : decode cX12_allPieces 20 = .ok (.istore_n 1, 1) := by decide +kernel
theorem dX12_allPieces_21 : decode cX12_allPieces 21 = .ok (.iinc 2 1, 3) := by decide +kernel
theorem dX12_allPieces_24 : decode cX12_allPieces 24 = .ok (.goto (-20), 3) := by decide +kernel
theorem dX12_allPieces_27 : decode cX12_allPieces 27 = .ok (.iload_n 1, 1) := by decide +kernel
theorem dX12_allPieces_28 : decode cX12_allPieces 28 = .ok (.ireturn, 1) := by decide +kernel
theorem dX12_countOf_0 : decode cX12_countOf 0 = .ok (.iload_n 1, 1) := by decide +kernel
theorem dX12_countOf_1 : decode cX12_countOf 1 = .ok (.tableswitch 72 0 5 #[39, 44, 49, 54, 62, 67], 39) := by decide +kernel
theorem dX12_countOf_40 : decode cX12_countOf 40 = .ok (.aload_n 0, 1) := by decide +kernel
theorem dX12_countOf_41 : decode cX12_countOf 41 = .ok (.getfield 77, 3) := by decide +kernel
theorem dX12_countOf_44 : decode cX12_countOf 44 = .ok (.ireturn, 1) := by decide +kernel
theorem dX12_countOf_45 : decode cX12_countOf 45 = .ok (.aload_n 0, 1) := by decide +kernel
theorem dX12_countOf_46 : decode cX12_countOf 46 = .ok (.getfield 81, 3) := by decide +kernel
theorem dX12_countOf_49 : decode cX12_countOf 49 = .ok (.ireturn, 1) := by decide +kernel
theorem dX12_countOf_50 : decode cX12_countOf 50 = .ok (.aload_n 0, 1) := by decide +kernel
theorem dX12_countOf_51 : decode cX12_countOf 51 = .ok (.invokevirtual 275, 3) := by decide +kernel
theorem dX12_countOf_54 : decode cX12_countOf 54 = .ok (.ireturn, 1) := by decide +kernel
theorem dX12_countOf_55 : decode cX12_countOf 55 = .ok (.aload_n 0, 1) := by decide +kernel
theorem dX12_countOf_56 : decode cX12_countOf 56 = .ok (.getfield 84, 3) := by decide +kernel
theorem dX12_countOf_59 : decode cX12_countOf 59 = .ok (.invokestatic 278, 3) := by decide +kernel
theorem dX12_countOf_62 : decode cX12_countOf 62 = .ok (.ireturn, 1) := by decide +kernel
theorem dX12_countOf_63 : decode cX12_countOf 63 = .ok (.aload_n 0, 1) := by decide +kernel
theorem dX12_countOf_64 : decode cX12_countOf 64 = .ok (.getfield 87, 3) := by decide +kernel
theorem dX12_countOf_67 : decode cX12_countOf 67 = .ok (.ireturn, 1) := by decide +kernel
theorem dX12_countOf_68 : decode cX12_countOf 68 = .ok (.aload_n 0, 1) := by decide +kernel
theorem dX12_countOf_69 : decode cX12_countOf 69 = .ok (.getfield 90, 3) := by decide +kernel
theorem dX12_countOf_72 : decode cX12_countOf 72 = .ok (.ireturn, 1) := by decide +kernel
theorem dX12_countOf_73 : decode cX12_countOf 73 = .ok (.aload_n 0, 1) := by decide +kernel
theorem dX12_countOf_74 : decode cX12_countOf 74 = .ok (.getfield 112, 3) := by decide +kernel
theorem dX12_countOf_77 : decode cX12_countOf 77 = .ok (.ireturn, 1) := by decide +kernel
theorem dX12_count_0 : decode cX12_count 0 = .ok (.iload_n 1, 1) := by decide +kernel
theorem dX12_count_1 : decode cX12_count 1 = .ok (.iconst 0, 1) := by decide +kernel
theorem dX12_count_2 : decode cX12_count 2 = .ok (.bipush 6, 2) := by decide +kernel
theorem dX12_count_4 : decode cX12_count 4 = .ok (.invokestatic 93, 3) := by decide +kernel
theorem dX12_count_7 : decode cX12_count 7 = .ok (.ifCond .eq 11, 3) := by decide +kernel
theorem dX12_count_10 : decode cX12_count 10 = .ok (.aload_n 0, 1) := by decide +kernel
theorem dX12_count_11 : decode cX12_count 11 = .ok (.iload_n 1, 1) := by decide +kernel
theorem dX12_count_12 : decode cX12_count 12 = .ok (.invokevirtual 281, 3) := by decide +kernel
theorem dX12_count_15 : decode cX12_count 15 = .ok (.goto 7, 3) := by decide +kernel
theorem dX12_count_18 : decode cX12_count 18 = .ok (.aload_n 0, 1) := by decide +kernel
theorem dX12_count_19 : decode cX12_count 19 = .ok (.invokevirtual 97, 3) := by decide +kernel
theorem dX12_count_22 : decode cX12_count 22 = .ok (.ireturn, 1) := by decide +kernel
theorem dX12_mix_0 : decode cX12_mix 0 = .ok (.aload_n 0, 1) := by decide +kernel
theorem dX12_mix_1 : decode cX12_mix 1 = .ok (.ldc2_w 284, 3) := by decide +kernel
theorem dX12_mix_4 : decode cX12_mix 4 = .ok (.aload_n 0, 1) := by decide +kernel
theorem dX12_mix_5 : decode cX12_mix 5 = .ok (.getfield 286, 3) := by decide +kernel
theorem dX12_mix_8 : decode cX12_mix 8 = .ok (.lmul, 1) := by decide +kernel
theorem dX12_mix_9 : decode cX12_mix 9 = .ok (.lload_n 1, 1) := by decide +kernel
theorem dX12_mix_10 : decode cX12_mix 10 = .ok (.ladd, 1) := by decide +kernel
theorem dX12_mix_11 : decode cX12_mix 11 = .ok (.putfield 286, 3) := by decide +kernel
theorem dX12_mix_14 : decode cX12_mix 14 = .ok (.return_, 1) := by decide +kernel
theorem dX12_digest_0 : decode cX12_digest 0 = .ok (.aload_n 0, 1) := by decide +kernel
theorem dX12_digest_1 : decode cX12_digest 1 = .ok (.ldc2_w 289, 3) := by decide +kernel
theorem dX12_digest_4 : decode cX12_digest 4 = .ok (.putfield 286, 3) := by decide +kernel
theorem dX12_digest_7 : decode cX12_digest 7 = .ok (.iconst 0, 1) := by decide +kernel
theorem dX12_digest_8 : decode cX12_digest 8 = .ok (.istore_n 1, 1) := by decide +kernel
theorem dX12_digest_9 : decode cX12_digest 9 = .ok (.iload_n 1, 1) := by decide +kernel
theorem dX12_digest_10 : decode cX12_digest 10 = .ok (.bipush 6, 2) := by decide +kernel
theorem dX12_digest_12 : decode cX12_digest 12 = .ok (.if_icmp .gt 19, 3) := by decide +kernel
theorem dX12_digest_15 : decode cX12_digest 15 = .ok (.aload_n 0, 1) := by decide +kernel
theorem dX12_digest_16 : decode cX12_digest 16 = .ok (.aload_n 0, 1) := by decide +kernel
theorem dX12_digest_17 : decode cX12_digest 17 = .ok (.iload_n 1, 1) := by decide +kernel
theorem dX12_digest_18 : decode cX12_digest 18 = .ok (.invokevirtual 281, 3) := by decide +kernel
theorem dX12_digest_21 : decode cX12_digest 21 = .ok (.i2l, 1) := by decide +kernel
theorem dX12_digest_22 : decode cX12_digest 22 = .ok (.invokevirtual 291, 3) := by decide +kernel
theorem dX12_digest_25 : decode cX12_digest 25 = .ok (.iinc 1 1, 3) := by decide +kernel
theorem dX12_digest_28 : decode cX12_digest 28 = .ok (.goto (-19), 3) := by decide +kernel
theorem dX12_digest_31 : decode cX12_digest 31 = .ok (.iconst 0, 1) := by decide +kernel
theorem dX12_digest_32 : decode cX12_digest 32 = .ok (.istore_n 1, 1) := by decide +kernel
theorem dX12_digest_33 : decode cX12_digest 33 = .ok (.iload_n 1, 1) := by decide +kernel
theorem dX12_digest_34 : decode cX12_digest 34 = .ok (.aload_n 0, 1) := by decide +kernel
theorem dX12_digest_35 : decode cX12_digest 35 = .ok (.getfield 77, 3) := by decide +kernel
theorem dX12_digest_38 : decode cX12_digest 38 = .ok (.if_icmp .ge 77, 3) := by decide +kernel
theorem dX12_digest_41 : decode cX12_digest 41 = .ok (.aload_n 0, 1) := by decide +kernel
theorem dX12_digest_42 : decode cX12_digest 42 = .ok (.aload_n 0, 1) := by decide +kernel
theorem dX12_digest_43 : decode cX12_digest 43 = .ok (.getfield 13, 3) := by decide +kernel
theorem dX12_digest_46 : decode cX12_digest 46 = .ok (.iload_n 1, 1) := by decide +kernel
theorem dX12_digest_47 : decode cX12_digest 47 = .ok (.iaload, 1) := by decide +kernel
theorem dX12_digest_48 : decode cX12_digest 48 = .ok (.i2l, 1) := by decide +kernel
theorem dX12_digest_49 : decode cX12_digest 49 = .ok (.invokevirtual 291, 3) := by decide +kernel
theorem dX12_digest_52 : decode cX12_digest 52 = .ok (.aload_n 0, 1) := by decide +kernel
theorem dX12_digest_53 : decode cX12_digest 53 = .ok (.aload_n 0, 1) := by decide +kernel
theorem dX12_digest_54 : decode cX12_digest 54 = .ok (.getfield 16, 3) := by decide +kernel
theorem dX12_digest_57 : decode cX12_digest 57 = .ok (.iload_n 1, 1) := by decide +kernel
theorem dX12_digest_58 : decode cX12_digest 58 = .ok (.iaload, 1) := by decide +kernel
theorem dX12_digest_59 : decode cX12_digest 59 = .ok (.i2l, 1) := by decide +kernel
theorem dX12_digest_60 : decode cX12_digest 60 = .ok (.invokevirtual 291, 3) := by decide +kernel
theorem dX12_digest_63 : decode cX12_digest 63 = .ok (.aload_n 0, 1) := by decide +kernel
theorem dX12_digest_64 : decode cX12_digest 64 = .ok (.aload_n 0, 1) := by decide +kernel
theorem dX12_digest_65 : decode cX12_digest 65 = .ok (.getfield 19, 3) := by decide +kernel
theorem dX12_digest_68 : decode cX12_digest 68 = .ok (.iload_n 1, 1) := by decide +kernel
theorem dX12_digest_69 : decode cX12_digest 69 = .ok (.iaload, 1) := by decide +kernel
theorem dX12_digest_70 : decode cX12_digest 70 = .ok (.i2l, 1) := by decide +kernel
theorem dX12_digest_71 : decode cX12_digest 71 = .ok (.invokevirtual 291, 3) := by decide +kernel
theorem dX12_digest_74 : decode cX12_digest 74 = .ok (.aload_n 0, 1) := by decide +kernel
theorem dX12_digest_75 : decode cX12_digest 75 = .ok (.aload_n 0, 1) := by decide +kernel
theorem dX12_digest_76 : decode cX12_digest 76 = .ok (.getfield 22, 3) := by decide +kernel
theorem dX12_digest_79 : decode cX12_digest 79 = .ok (.iload_n 1, 1) := by decide +kernel
theorem dX12_digest_80 : decode cX12_digest 80 = .ok (.iaload, 1) := by decide +kernel
theorem dX12_digest_81 : decode cX12_digest 81 = .ok (.i2l, 1) := by decide +kernel
theorem dX12_digest_82 : decode cX12_digest 82 = .ok (.invokevirtual 291, 3) := by decide +kernel
theorem dX12_digest_85 : decode cX12_digest 85 = .ok (.aload_n 0, 1) := by decide +kernel
theorem dX12_digest_86 : decode cX12_digest 86 = .ok (.aload_n 0, 1) := by decide +kernel
theorem dX12_digest_87 : decode cX12_digest 87 = .ok (.getfield 84, 3) := by decide +kernel
theorem dX12_digest_90 : decode cX12_digest 90 = .ok (.iload_n 1, 1) := by decide +kernel
theorem dX12_digest_91 : decode cX12_digest 91 = .ok (.ishr, 1) := by decide +kernel
theorem dX12_digest_92 : decode cX12_digest 92 = .ok (.iconst 1, 1) := by decide +kernel
theorem dX12_digest_93 : decode cX12_digest 93 = .ok (.iand, 1) := by decide +kernel
theorem dX12_digest_94 : decode cX12_digest 94 = .ok (.i2l, 1) := by decide +kernel
theorem dX12_digest_95 : decode cX12_digest 95 = .ok (.invokevirtual 291, 3) := by decide +kernel
theorem dX12_digest_98 : decode cX12_digest 98 = .ok (.aload_n 0, 1) := by decide +kernel
theorem dX12_digest_99 : decode cX12_digest 99 = .ok (.aload_n 0, 1) := by decide +kernel
theorem dX12_digest_100 : decode cX12_digest 100 = .ok (.getfield 25, 3) := by decide +kernel
theorem dX12_digest_103 : decode cX12_digest 103 = .ok (.iload_n 1, 1) := by decide +kernel
theorem dX12_digest_104 : decode cX12_digest 104 = .ok (.iaload, 1) := by decide +kernel
theorem dX12_digest_105 : decode cX12_digest 105 = .ok (.i2l, 1) := by decide +kernel
theorem dX12_digest_106 : decode cX12_digest 106 = .ok (.invokevirtual 291, 3) := by decide +kernel
theorem dX12_digest_109 : decode cX12_digest 109 = .ok (.iinc 1 1, 3) := by decide +kernel
theorem dX12_digest_112 : decode cX12_digest 112 = .ok (.goto (-79), 3) := by decide +kernel
theorem dX12_digest_115 : decode cX12_digest 115 = .ok (.iconst 0, 1) := by decide +kernel
theorem dX12_digest_116 : decode cX12_digest 116 = .ok (.istore_n 1, 1) := by decide +kernel
theorem dX12_digest_117 : decode cX12_digest 117 = .ok (.iload_n 1, 1) := by decide +kernel
theorem dX12_digest_118 : decode cX12_digest 118 = .ok (.aload_n 0, 1) := by decide +kernel
theorem dX12_digest_119 : decode cX12_digest 119 = .ok (.getfield 87, 3) := by decide +kernel
theorem dX12_digest_122 : decode cX12_digest 122 = .ok (.if_icmp .ge 53, 3) := by decide +kernel
theorem dX12_digest_125 : decode cX12_digest 125 = .ok (.aload_n 0, 1) := by decide +kernel
theorem dX12_digest_126 : decode cX12_digest 126 = .ok (.aload_n 0, 1) := by decide +kernel
theorem dX12_digest_127 : decode cX12_digest 127 = .ok (.getfield 28, 3) := by decide +kernel
theorem dX12_digest_130 : decode cX12_digest 130 = .ok (.iload_n 1, 1) := by decide +kernel
theorem dX12_digest_131 : decode cX12_digest 131 = .ok (.iaload, 1) := by decide +kernel
theorem dX12_digest_132 : decode cX12_digest 132 = .ok (.i2l, 1) := by decide +kernel
theorem dX12_digest_133 : decode cX12_digest 133 = .ok (.invokevirtual 291, 3) := by decide +kernel
theorem dX12_digest_136 : decode cX12_digest 136 = .ok (.aload_n 0, 1) := by decide +kernel
theorem dX12_digest_137 : decode cX12_digest 137 = .ok (.aload_n 0, 1) := by decide +kernel
theorem dX12_digest_138 : decode cX12_digest 138 = .ok (.getfield 31, 3) := by decide +kernel
theorem dX12_digest_141 : decode cX12_digest 141 = .ok (.iload_n 1, 1) := by decide +kernel
theorem dX12_digest_142 : decode cX12_digest 142 = .ok (.iaload, 1) := by decide +kernel
theorem dX12_digest_143 : decode cX12_digest 143 = .ok (.i2l, 1) := by decide +kernel
theorem dX12_digest_144 : decode cX12_digest 144 = .ok (.invokevirtual 291, 3) := by decide +kernel
theorem dX12_digest_147 : decode cX12_digest 147 = .ok (.aload_n 0, 1) := by decide +kernel
theorem dX12_digest_148 : decode cX12_digest 148 = .ok (.aload_n 0, 1) := by decide +kernel
theorem dX12_digest_149 : decode cX12_digest 149 = .ok (.getfield 34, 3) := by decide +kernel
theorem dX12_digest_152 : decode cX12_digest 152 = .ok (.iload_n 1, 1) := by decide +kernel
theorem dX12_digest_153 : decode cX12_digest 153 = .ok (.iaload, 1) := by decide +kernel
theorem dX12_digest_154 : decode cX12_digest 154 = .ok (.i2l, 1) := by decide +kernel
theorem dX12_digest_155 : decode cX12_digest 155 = .ok (.invokevirtual 291, 3) := by decide +kernel
theorem dX12_digest_158 : decode cX12_digest 158 = .ok (.aload_n 0, 1) := by decide +kernel
theorem dX12_digest_159 : decode cX12_digest 159 = .ok (.aload_n 0, 1) := by decide +kernel
theorem dX12_digest_160 : decode cX12_digest 160 = .ok (.getfield 37, 3) := by decide +kernel
theorem dX12_digest_163 : decode cX12_digest 163 = .ok (.iload_n 1, 1) := by decide +kernel
theorem dX12_digest_164 : decode cX12_digest 164 = .ok (.iaload, 1) := by decide +kernel
theorem dX12_digest_165 : decode cX12_digest 165 = .ok (.i2l, 1) := by decide +kernel
theorem dX12_digest_166 : decode cX12_digest 166 = .ok (.invokevirtual 291, 3) := by decide +kernel
theorem dX12_digest_169 : decode cX12_digest 169 = .ok (.iinc 1 1, 3) := by decide +kernel
theorem dX12_digest_172 : decode cX12_digest 172 = .ok (.goto (-55), 3) := by decide +kernel
theorem dX12_digest_175 : decode cX12_digest 175 = .ok (.aload_n 0, 1) := by decide +kernel
theorem dX12_digest_176 : decode cX12_digest 176 = .ok (.aload_n 0, 1) := by decide +kernel
theorem dX12_digest_177 : decode cX12_digest 177 = .ok (.getfield 242, 3) := by decide +kernel
theorem dX12_digest_180 : decode cX12_digest 180 = .ok (.invokevirtual 291, 3) := by decide +kernel
theorem dX12_digest_183 : decode cX12_digest 183 = .ok (.aload_n 0, 1) := by decide +kernel
theorem dX12_digest_184 : decode cX12_digest 184 = .ok (.aload_n 0, 1) := by decide +kernel
theorem dX12_digest_185 : decode cX12_digest 185 = .ok (.getfield 64, 3) := by decide +kernel
theorem dX12_digest_188 : decode cX12_digest 188 = .ok (.invokevirtual 291, 3) := by decide +kernel
theorem dX12_digest_191 : decode cX12_digest 191 = .ok (.aload_n 0, 1) := by decide +kernel
theorem dX12_digest_192 : decode cX12_digest 192 = .ok (.getfield 286, 3) := by decide +kernel
theorem dX12_digest_195 : decode cX12_digest 195 = .ok (.lreturn, 1) := by decide +kernel
end
section
/-! THE DECODE ROWS: each instruction of each method. -/
theorem dX11_init_0 : decode cX11_init 0 = .ok (.aload_n 0, 1) := by decide +kernel
theorem dX11_init_1 : decode cX11_init 1 = .ok (.invokespecial 1, 3) := by decide +kernel
theorem dX11_init_4 : decode cX11_init 4 = .ok (.aload_n 0, 1) := by decide +kernel
theorem dX11_init_5 : decode cX11_init 5 = .ok (.new 7, 3) := by decide +kernel
theorem dX11_init_8 : decode cX11_init 8 = .ok (.dup, 1) := by decide +kernel
theorem dX11_init_9 : decode cX11_init 9 = .ok (.invokespecial 9, 3) := by decide +kernel
theorem dX11_init_12 : decode cX11_init 12 = .ok (.putfield 10, 3) := by decide +kernel
theorem dX11_init_15 : decode cX11_init 15 = .ok (.aload_n 0, 1) := by decide +kernel
theorem dX11_init_16 : decode cX11_init 16 = .ok (.new 7, 3) := by decide +kernel
theorem dX11_init_19 : decode cX11_init 19 = .ok (.dup, 1) := by decide +kernel
theorem dX11_init_20 : decode cX11_init 20 = .ok (.invokespecial 9, 3) := by decide +kernel
theorem dX11_init_23 : decode cX11_init 23 = .ok (.putfield 16, 3) := by decide +kernel
theorem dX11_init_26 : decode cX11_init 26 = .ok (.aload_n 0, 1) := by decide +kernel
theorem dX11_init_27 : decode cX11_init 27 = .ok (.iconst 2, 1) := by decide +kernel
theorem dX11_init_28 : decode cX11_init 28 = .ok (.anewarray 7, 3) := by decide +kernel
theorem dX11_init_31 : decode cX11_init 31 = .ok (.putfield 19, 3) := by decide +kernel
theorem dX11_init_34 : decode cX11_init 34 = .ok (.aload_n 0, 1) := by decide +kernel
theorem dX11_init_35 : decode cX11_init 35 = .ok (.new 23, 3) := by decide +kernel
theorem dX11_init_38 : decode cX11_init 38 = .ok (.dup, 1) := by decide +kernel
theorem dX11_init_39 : decode cX11_init 39 = .ok (.invokespecial 25, 3) := by decide +kernel
theorem dX11_init_42 : decode cX11_init 42 = .ok (.putfield 26, 3) := by decide +kernel
theorem dX11_init_45 : decode cX11_init 45 = .ok (.aload_n 0, 1) := by decide +kernel
theorem dX11_init_46 : decode cX11_init 46 = .ok (.new 30, 3) := by decide +kernel
theorem dX11_init_49 : decode cX11_init 49 = .ok (.dup, 1) := by decide +kernel
theorem dX11_init_50 : decode cX11_init 50 = .ok (.invokespecial 32, 3) := by decide +kernel
theorem dX11_init_53 : decode cX11_init 53 = .ok (.putfield 33, 3) := by decide +kernel
theorem dX11_init_56 : decode cX11_init 56 = .ok (.aload_n 0, 1) := by decide +kernel
theorem dX11_init_57 : decode cX11_init 57 = .ok (.lconst 0, 1) := by decide +kernel
theorem dX11_init_58 : decode cX11_init 58 = .ok (.putfield 37, 3) := by decide +kernel
theorem dX11_init_61 : decode cX11_init 61 = .ok (.aload_n 0, 1) := by decide +kernel
theorem dX11_init_62 : decode cX11_init 62 = .ok (.lconst 1, 1) := by decide +kernel
theorem dX11_init_63 : decode cX11_init 63 = .ok (.putfield 41, 3) := by decide +kernel
theorem dX11_init_66 : decode cX11_init 66 = .ok (.return_, 1) := by decide +kernel
theorem dX11_gold_0 : decode cX11_gold 0 = .ok (.aload_n 0, 1) := by decide +kernel
theorem dX11_gold_1 : decode cX11_gold 1 = .ok (.getfield 10, 3) := by decide +kernel
theorem dX11_gold_4 : decode cX11_gold 4 = .ok (.invokevirtual 44, 3) := by decide +kernel
theorem dX11_gold_7 : decode cX11_gold 7 = .ok (.istore_n 1, 1) := by decide +kernel
theorem dX11_gold_8 : decode cX11_gold 8 = .ok (.aload_n 0, 1) := by decide +kernel
theorem dX11_gold_9 : decode cX11_gold 9 = .ok (.getfield 10, 3) := by decide +kernel
theorem dX11_gold_12 : decode cX11_gold 12 = .ok (.invokevirtual 48, 3) := by decide +kernel
theorem dX11_gold_15 : decode cX11_gold 15 = .ok (.iload_n 1, 1) := by decide +kernel
theorem dX11_gold_16 : decode cX11_gold 16 = .ok (.ireturn, 1) := by decide +kernel
theorem dX11_one_0 : decode cX11_one 0 = .ok (.iload_n 1, 1) := by decide +kernel
theorem dX11_one_1 : decode cX11_one 1 = .ok (.iconst 0, 1) := by decide +kernel
theorem dX11_one_2 : decode cX11_one 2 = .ok (.iconst 5, 1) := by decide +kernel
theorem dX11_one_3 : decode cX11_one 3 = .ok (.invokestatic 51, 3) := by decide +kernel
theorem dX11_one_6 : decode cX11_one 6 = .ok (.ifCond .eq 34, 3) := by decide +kernel
theorem dX11_one_9 : decode cX11_one 9 = .ok (.iload_n 2, 1) := by decide +kernel
theorem dX11_one_10 : decode cX11_one 10 = .ok (.iconst 0, 1) := by decide +kernel
theorem dX11_one_11 : decode cX11_one 11 = .ok (.bipush 12, 2) := by decide +kernel
theorem dX11_one_13 : decode cX11_one 13 = .ok (.invokestatic 51, 3) := by decide +kernel
theorem dX11_one_16 : decode cX11_one 16 = .ok (.ifCond .eq 24, 3) := by decide +kernel
theorem dX11_one_19 : decode cX11_one 19 = .ok (.iload_n 3, 1) := by decide +kernel
theorem dX11_one_20 : decode cX11_one 20 = .ok (.iconst 0, 1) := by decide +kernel
theorem dX11_one_21 : decode cX11_one 21 = .ok (.bipush 30, 2) := by decide +kernel
theorem dX11_one_23 : decode cX11_one 23 = .ok (.invokestatic 51, 3) := by decide +kernel
theorem dX11_one_26 : decode cX11_one 26 = .ok (.ifCond .eq 14, 3) := by decide +kernel
theorem dX11_one_29 : decode cX11_one 29 = .ok (.iload 4, 2) := by decide +kernel
theorem dX11_one_31 : decode cX11_one 31 = .ok (.iconst 0, 1) := by decide +kernel
theorem dX11_one_32 : decode cX11_one 32 = .ok (.bipush 20, 2) := by decide +kernel
theorem dX11_one_34 : decode cX11_one 34 = .ok (.invokestatic 51, 3) := by decide +kernel
theorem dX11_one_37 : decode cX11_one 37 = .ok (.ifCond .ne 8, 3) := by decide +kernel
theorem dX11_one_40 : decode cX11_one 40 = .ok (.aload_n 0, 1) := by decide +kernel
theorem dX11_one_41 : decode cX11_one 41 = .ok (.invokevirtual 55, 3) := by decide +kernel
theorem dX11_one_44 : decode cX11_one 44 = .ok (.ireturn, 1) := by decide +kernel
theorem dX11_one_45 : decode cX11_one 45 = .ok (.aload_n 0, 1) := by decide +kernel
theorem dX11_one_46 : decode cX11_one 46 = .ok (.getfield 10, 3) := by decide +kernel
theorem dX11_one_49 : decode cX11_one 49 = .ok (.invokevirtual 44, 3) := by decide +kernel
theorem dX11_one_52 : decode cX11_one 52 = .ok (.bipush 6, 2) := by decide +kernel
theorem dX11_one_54 : decode cX11_one 54 = .ok (.if_icmp .lt 8, 3) := by decide +kernel
theorem dX11_one_57 : decode cX11_one 57 = .ok (.aload_n 0, 1) := by decide +kernel
theorem dX11_one_58 : decode cX11_one 58 = .ok (.invokevirtual 58, 3) := by decide +kernel
theorem dX11_one_61 : decode cX11_one 61 = .ok (.ireturn, 1) := by decide +kernel
theorem dX11_one_62 : decode cX11_one 62 = .ok (.aload_n 0, 1) := by decide +kernel
theorem dX11_one_63 : decode cX11_one 63 = .ok (.getfield 10, 3) := by decide +kernel
theorem dX11_one_66 : decode cX11_one 66 = .ok (.invokevirtual 61, 3) := by decide +kernel
theorem dX11_one_69 : decode cX11_one 69 = .ok (.aload_n 0, 1) := by decide +kernel
theorem dX11_one_70 : decode cX11_one 70 = .ok (.getfield 10, 3) := by decide +kernel
theorem dX11_one_73 : decode cX11_one 73 = .ok (.iload_n 1, 1) := by decide +kernel
theorem dX11_one_74 : decode cX11_one 74 = .ok (.iload_n 2, 1) := by decide +kernel
theorem dX11_one_75 : decode cX11_one 75 = .ok (.iload_n 3, 1) := by decide +kernel
theorem dX11_one_76 : decode cX11_one 76 = .ok (.iload 4, 2) := by decide +kernel
theorem dX11_one_78 : decode cX11_one 78 = .ok (.invokevirtual 64, 3) := by decide +kernel
theorem dX11_one_81 : decode cX11_one 81 = .ok (.ireturn, 1) := by decide +kernel
theorem dX11_hands_0 : decode cX11_hands 0 = .ok (.aload_n 0, 1) := by decide +kernel
theorem dX11_hands_1 : decode cX11_hands 1 = .ok (.iload_n 1, 1) := by decide +kernel
theorem dX11_hands_2 : decode cX11_hands 2 = .ok (.iload_n 2, 1) := by decide +kernel
theorem dX11_hands_3 : decode cX11_hands 3 = .ok (.invokevirtual 68, 3) := by decide +kernel
theorem dX11_hands_6 : decode cX11_hands 6 = .ok (.ifCond .eq 12, 3) := by decide +kernel
theorem dX11_hands_9 : decode cX11_hands 9 = .ok (.iload_n 3, 1) := by decide +kernel
theorem dX11_hands_10 : decode cX11_hands 10 = .ok (.iconst 0, 1) := by decide +kernel
theorem dX11_hands_11 : decode cX11_hands 11 = .ok (.iconst 1, 1) := by decide +kernel
theorem dX11_hands_12 : decode cX11_hands 12 = .ok (.invokestatic 51, 3) := by decide +kernel
theorem dX11_hands_15 : decode cX11_hands 15 = .ok (.ifCond .ne 8, 3) := by decide +kernel
theorem dX11_hands_18 : decode cX11_hands 18 = .ok (.aload_n 0, 1) := by decide +kernel
theorem dX11_hands_19 : decode cX11_hands 19 = .ok (.invokevirtual 55, 3) := by decide +kernel
theorem dX11_hands_22 : decode cX11_hands 22 = .ok (.ireturn, 1) := by decide +kernel
theorem dX11_hands_23 : decode cX11_hands 23 = .ok (.aload_n 0, 1) := by decide +kernel
theorem dX11_hands_24 : decode cX11_hands 24 = .ok (.getfield 10, 3) := by decide +kernel
theorem dX11_hands_27 : decode cX11_hands 27 = .ok (.iload_n 1, 1) := by decide +kernel
theorem dX11_hands_28 : decode cX11_hands 28 = .ok (.invokevirtual 72, 3) := by decide +kernel
theorem dX11_hands_31 : decode cX11_hands 31 = .ok (.istore 4, 2) := by decide +kernel
theorem dX11_hands_33 : decode cX11_hands 33 = .ok (.iconst 1, 1) := by decide +kernel
theorem dX11_hands_34 : decode cX11_hands 34 = .ok (.iload_n 2, 1) := by decide +kernel
theorem dX11_hands_35 : decode cX11_hands 35 = .ok (.ishl, 1) := by decide +kernel
theorem dX11_hands_36 : decode cX11_hands 36 = .ok (.istore 5, 2) := by decide +kernel
theorem dX11_hands_38 : decode cX11_hands 38 = .ok (.aload_n 0, 1) := by decide +kernel
theorem dX11_hands_39 : decode cX11_hands 39 = .ok (.getfield 10, 3) := by decide +kernel
theorem dX11_hands_42 : decode cX11_hands 42 = .ok (.invokevirtual 61, 3) := by decide +kernel
theorem dX11_hands_45 : decode cX11_hands 45 = .ok (.aload_n 0, 1) := by decide +kernel
theorem dX11_hands_46 : decode cX11_hands 46 = .ok (.getfield 10, 3) := by decide +kernel
theorem dX11_hands_49 : decode cX11_hands 49 = .ok (.iload_n 1, 1) := by decide +kernel
theorem dX11_hands_50 : decode cX11_hands 50 = .ok (.iload_n 3, 1) := by decide +kernel
theorem dX11_hands_51 : decode cX11_hands 51 = .ok (.iconst 1, 1) := by decide +kernel
theorem dX11_hands_52 : decode cX11_hands 52 = .ok (.if_icmp .ne 11, 3) := by decide +kernel
theorem dX11_hands_55 : decode cX11_hands 55 = .ok (.iload 4, 2) := by decide +kernel
theorem dX11_hands_57 : decode cX11_hands 57 = .ok (.iload 5, 2) := by decide +kernel
theorem dX11_hands_59 : decode cX11_hands 59 = .ok (.ior, 1) := by decide +kernel
theorem dX11_hands_60 : decode cX11_hands 60 = .ok (.goto 10, 3) := by decide +kernel
theorem dX11_hands_63 : decode cX11_hands 63 = .ok (.iload 4, 2) := by decide +kernel
theorem dX11_hands_65 : decode cX11_hands 65 = .ok (.iload 5, 2) := by decide +kernel
theorem dX11_hands_67 : decode cX11_hands 67 = .ok (.iconst (-1), 1) := by decide +kernel
theorem dX11_hands_68 : decode cX11_hands 68 = .ok (.ixor, 1) := by decide +kernel
theorem dX11_hands_69 : decode cX11_hands 69 = .ok (.iand, 1) := by decide +kernel
theorem dX11_hands_70 : decode cX11_hands 70 = .ok (.invokevirtual 76, 3) := by decide +kernel
theorem dX11_hands_73 : decode cX11_hands 73 = .ok (.iload 4, 2) := by decide +kernel
theorem dX11_hands_75 : decode cX11_hands 75 = .ok (.iload 5, 2) := by decide +kernel
theorem dX11_hands_77 : decode cX11_hands 77 = .ok (.iand, 1) := by decide +kernel
theorem dX11_hands_78 : decode cX11_hands 78 = .ok (.ifCond .eq 7, 3) := by decide +kernel
theorem dX11_hands_81 : decode cX11_hands 81 = .ok (.iconst 1, 1) := by decide +kernel
theorem dX11_hands_82 : decode cX11_hands 82 = .ok (.goto 4, 3) := by decide +kernel
theorem dX11_hands_85 : decode cX11_hands 85 = .ok (.iconst 0, 1) := by decide +kernel
theorem dX11_hands_86 : decode cX11_hands 86 = .ok (.ireturn, 1) := by decide +kernel
theorem dX11_type_0 : decode cX11_type 0 = .ok (.iload_n 1, 1) := by decide +kernel
theorem dX11_type_1 : decode cX11_type 1 = .ok (.iconst 0, 1) := by decide +kernel
theorem dX11_type_2 : decode cX11_type 2 = .ok (.bipush 127, 2) := by decide +kernel
theorem dX11_type_4 : decode cX11_type 4 = .ok (.invokestatic 51, 3) := by decide +kernel
theorem dX11_type_7 : decode cX11_type 7 = .ok (.ifCond .ne 8, 3) := by decide +kernel
theorem dX11_type_10 : decode cX11_type 10 = .ok (.aload_n 0, 1) := by decide +kernel
theorem dX11_type_11 : decode cX11_type 11 = .ok (.invokevirtual 55, 3) := by decide +kernel
theorem dX11_type_14 : decode cX11_type 14 = .ok (.ireturn, 1) := by decide +kernel
theorem dX11_type_15 : decode cX11_type 15 = .ok (.aload_n 0, 1) := by decide +kernel
theorem dX11_type_16 : decode cX11_type 16 = .ok (.getfield 26, 3) := by decide +kernel
theorem dX11_type_19 : decode cX11_type 19 = .ok (.invokevirtual 80, 3) := by decide +kernel
theorem dX11_type_22 : decode cX11_type 22 = .ok (.sipush 150, 3) := by decide +kernel
theorem dX11_type_25 : decode cX11_type 25 = .ok (.if_icmp .lt 8, 3) := by decide +kernel
theorem dX11_type_28 : decode cX11_type 28 = .ok (.aload_n 0, 1) := by decide +kernel
theorem dX11_type_29 : decode cX11_type 29 = .ok (.invokevirtual 58, 3) := by decide +kernel
theorem dX11_type_32 : decode cX11_type 32 = .ok (.ireturn, 1) := by decide +kernel
theorem dX11_type_33 : decode cX11_type 33 = .ok (.aload_n 0, 1) := by decide +kernel
theorem dX11_type_34 : decode cX11_type 34 = .ok (.getfield 26, 3) := by decide +kernel
theorem dX11_type_37 : decode cX11_type 37 = .ok (.iload_n 1, 1) := by decide +kernel
theorem dX11_type_38 : decode cX11_type 38 = .ok (.invokevirtual 83, 3) := by decide +kernel
theorem dX11_type_41 : decode cX11_type 41 = .ok (.ireturn, 1) := by decide +kernel
theorem dX11_clear_0 : decode cX11_clear 0 = .ok (.aload_n 0, 1) := by decide +kernel
theorem dX11_clear_1 : decode cX11_clear 1 = .ok (.getfield 26, 3) := by decide +kernel
theorem dX11_clear_4 : decode cX11_clear 4 = .ok (.invokevirtual 80, 3) := by decide +kernel
theorem dX11_clear_7 : decode cX11_clear 7 = .ok (.istore_n 1, 1) := by decide +kernel
theorem dX11_clear_8 : decode cX11_clear 8 = .ok (.aload_n 0, 1) := by decide +kernel
theorem dX11_clear_9 : decode cX11_clear 9 = .ok (.getfield 26, 3) := by decide +kernel
theorem dX11_clear_12 : decode cX11_clear 12 = .ok (.invokevirtual 86, 3) := by decide +kernel
theorem dX11_clear_15 : decode cX11_clear 15 = .ok (.iload_n 1, 1) := by decide +kernel
theorem dX11_clear_16 : decode cX11_clear 16 = .ok (.ireturn, 1) := by decide +kernel
theorem dX11_read_0 : decode cX11_read 0 = .ok (.aload_n 0, 1) := by decide +kernel
theorem dX11_read_1 : decode cX11_read 1 = .ok (.getfield 26, 3) := by decide +kernel
theorem dX11_read_4 : decode cX11_read 4 = .ok (.aload_n 0, 1) := by decide +kernel
theorem dX11_read_5 : decode cX11_read 5 = .ok (.getfield 16, 3) := by decide +kernel
theorem dX11_read_8 : decode cX11_read 8 = .ok (.invokevirtual 89, 3) := by decide +kernel
theorem dX11_read_11 : decode cX11_read 11 = .ok (.istore_n 1, 1) := by decide +kernel
theorem dX11_read_12 : decode cX11_read 12 = .ok (.aload_n 0, 1) := by decide +kernel
theorem dX11_read_13 : decode cX11_read 13 = .ok (.getfield 26, 3) := by decide +kernel
theorem dX11_read_16 : decode cX11_read 16 = .ok (.invokevirtual 93, 3) := by decide +kernel
theorem dX11_read_19 : decode cX11_read 19 = .ok (.ifCond .lt 14, 3) := by decide +kernel
theorem dX11_read_22 : decode cX11_read 22 = .ok (.bipush (-10), 2) := by decide +kernel
theorem dX11_read_24 : decode cX11_read 24 = .ok (.aload_n 0, 1) := by decide +kernel
theorem dX11_read_25 : decode cX11_read 25 = .ok (.getfield 26, 3) := by decide +kernel
theorem dX11_read_28 : decode cX11_read 28 = .ok (.invokevirtual 93, 3) := by decide +kernel
theorem dX11_read_31 : decode cX11_read 31 = .ok (.isub, 1) := by decide +kernel
theorem dX11_read_32 : decode cX11_read 32 = .ok (.ireturn, 1) := by decide +kernel
theorem dX11_read_33 : decode cX11_read 33 = .ok (.aload_n 0, 1) := by decide +kernel
theorem dX11_read_34 : decode cX11_read 34 = .ok (.getfield 10, 3) := by decide +kernel
theorem dX11_read_37 : decode cX11_read 37 = .ok (.aload_n 0, 1) := by decide +kernel
theorem dX11_read_38 : decode cX11_read 38 = .ok (.getfield 16, 3) := by decide +kernel
theorem dX11_read_41 : decode cX11_read 41 = .ok (.invokevirtual 96, 3) := by decide +kernel
theorem dX11_read_44 : decode cX11_read 44 = .ok (.iload_n 1, 1) := by decide +kernel
theorem dX11_read_45 : decode cX11_read 45 = .ok (.ireturn, 1) := by decide +kernel
theorem dX11_lie_0 : decode cX11_lie 0 = .ok (.aload_n 0, 1) := by decide +kernel
theorem dX11_lie_1 : decode cX11_lie 1 = .ok (.getfield 10, 3) := by decide +kernel
theorem dX11_lie_4 : decode cX11_lie 4 = .ok (.iload_n 1, 1) := by decide +kernel
theorem dX11_lie_5 : decode cX11_lie 5 = .ok (.invokevirtual 100, 3) := by decide +kernel
theorem dX11_lie_8 : decode cX11_lie 8 = .ok (.ifCond .eq 12, 3) := by decide +kernel
theorem dX11_lie_11 : decode cX11_lie 11 = .ok (.iload_n 2, 1) := by decide +kernel
theorem dX11_lie_12 : decode cX11_lie 12 = .ok (.iconst 1, 1) := by decide +kernel
theorem dX11_lie_13 : decode cX11_lie 13 = .ok (.iconst 4, 1) := by decide +kernel
theorem dX11_lie_14 : decode cX11_lie 14 = .ok (.invokestatic 51, 3) := by decide +kernel
theorem dX11_lie_17 : decode cX11_lie 17 = .ok (.ifCond .ne 8, 3) := by decide +kernel
theorem dX11_lie_20 : decode cX11_lie 20 = .ok (.aload_n 0, 1) := by decide +kernel
theorem dX11_lie_21 : decode cX11_lie 21 = .ok (.invokevirtual 55, 3) := by decide +kernel
theorem dX11_lie_24 : decode cX11_lie 24 = .ok (.ireturn, 1) := by decide +kernel
theorem dX11_lie_25 : decode cX11_lie 25 = .ok (.aload_n 0, 1) := by decide +kernel
theorem dX11_lie_26 : decode cX11_lie 26 = .ok (.getfield 10, 3) := by decide +kernel
theorem dX11_lie_29 : decode cX11_lie 29 = .ok (.invokevirtual 104, 3) := by decide +kernel
theorem dX11_lie_32 : decode cX11_lie 32 = .ok (.aload_n 0, 1) := by decide +kernel
theorem dX11_lie_33 : decode cX11_lie 33 = .ok (.getfield 10, 3) := by decide +kernel
theorem dX11_lie_36 : decode cX11_lie 36 = .ok (.iload_n 1, 1) := by decide +kernel
theorem dX11_lie_37 : decode cX11_lie 37 = .ok (.iload_n 2, 1) := by decide +kernel
theorem dX11_lie_38 : decode cX11_lie 38 = .ok (.invokevirtual 107, 3) := by decide +kernel
theorem dX11_lie_41 : decode cX11_lie 41 = .ok (.aload_n 0, 1) := by decide +kernel
theorem dX11_lie_42 : decode cX11_lie 42 = .ok (.getfield 10, 3) := by decide +kernel
theorem dX11_lie_45 : decode cX11_lie 45 = .ok (.iload_n 1, 1) := by decide +kernel
theorem dX11_lie_46 : decode cX11_lie 46 = .ok (.invokevirtual 110, 3) := by decide +kernel
theorem dX11_lie_49 : decode cX11_lie 49 = .ok (.ireturn, 1) := by decide +kernel
theorem dX11_give_0 : decode cX11_give 0 = .ok (.aload_n 0, 1) := by decide +kernel
theorem dX11_give_1 : decode cX11_give 1 = .ok (.iload_n 1, 1) := by decide +kernel
theorem dX11_give_2 : decode cX11_give 2 = .ok (.iload_n 2, 1) := by decide +kernel
theorem dX11_give_3 : decode cX11_give 3 = .ok (.invokevirtual 68, 3) := by decide +kernel
theorem dX11_give_6 : decode cX11_give 6 = .ok (.ifCond .eq 13, 3) := by decide +kernel
theorem dX11_give_9 : decode cX11_give 9 = .ok (.iload_n 3, 1) := by decide +kernel
theorem dX11_give_10 : decode cX11_give 10 = .ok (.iconst 1, 1) := by decide +kernel
theorem dX11_give_11 : decode cX11_give 11 = .ok (.bipush 99, 2) := by decide +kernel
theorem dX11_give_13 : decode cX11_give 13 = .ok (.invokestatic 51, 3) := by decide +kernel
theorem dX11_give_16 : decode cX11_give 16 = .ok (.ifCond .ne 8, 3) := by decide +kernel
theorem dX11_give_19 : decode cX11_give 19 = .ok (.aload_n 0, 1) := by decide +kernel
theorem dX11_give_20 : decode cX11_give 20 = .ok (.invokevirtual 55, 3) := by decide +kernel
theorem dX11_give_23 : decode cX11_give 23 = .ok (.ireturn, 1) := by decide +kernel
theorem dX11_give_24 : decode cX11_give 24 = .ok (.aload_n 0, 1) := by decide +kernel
theorem dX11_give_25 : decode cX11_give 25 = .ok (.getfield 10, 3) := by decide +kernel
theorem dX11_give_28 : decode cX11_give 28 = .ok (.iload_n 1, 1) := by decide +kernel
theorem dX11_give_29 : decode cX11_give 29 = .ok (.invokevirtual 72, 3) := by decide +kernel
theorem dX11_give_32 : decode cX11_give 32 = .ok (.iconst 1, 1) := by decide +kernel
theorem dX11_give_33 : decode cX11_give 33 = .ok (.iload_n 2, 1) := by decide +kernel
theorem dX11_give_34 : decode cX11_give 34 = .ok (.ishl, 1) := by decide +kernel
theorem dX11_give_35 : decode cX11_give 35 = .ok (.iand, 1) := by decide +kernel
theorem dX11_give_36 : decode cX11_give 36 = .ok (.ifCond .eq 15, 3) := by decide +kernel
theorem dX11_give_39 : decode cX11_give 39 = .ok (.aload_n 0, 1) := by decide +kernel
theorem dX11_give_40 : decode cX11_give 40 = .ok (.getfield 10, 3) := by decide +kernel
theorem dX11_give_43 : decode cX11_give 43 = .ok (.iload_n 1, 1) := by decide +kernel
theorem dX11_give_44 : decode cX11_give 44 = .ok (.invokevirtual 113, 3) := by decide +kernel
theorem dX11_give_47 : decode cX11_give 47 = .ok (.iload_n 3, 1) := by decide +kernel
theorem dX11_give_48 : decode cX11_give 48 = .ok (.if_icmp .ge 8, 3) := by decide +kernel
theorem dX11_give_51 : decode cX11_give 51 = .ok (.aload_n 0, 1) := by decide +kernel
theorem dX11_give_52 : decode cX11_give 52 = .ok (.invokevirtual 116, 3) := by decide +kernel
theorem dX11_give_55 : decode cX11_give 55 = .ok (.ireturn, 1) := by decide +kernel
theorem dX11_give_56 : decode cX11_give 56 = .ok (.aload_n 0, 1) := by decide +kernel
theorem dX11_give_57 : decode cX11_give 57 = .ok (.getfield 10, 3) := by decide +kernel
theorem dX11_give_60 : decode cX11_give 60 = .ok (.invokevirtual 104, 3) := by decide +kernel
theorem dX11_give_63 : decode cX11_give 63 = .ok (.aload_n 0, 1) := by decide +kernel
theorem dX11_give_64 : decode cX11_give 64 = .ok (.getfield 10, 3) := by decide +kernel
theorem dX11_give_67 : decode cX11_give 67 = .ok (.iload_n 1, 1) := by decide +kernel
theorem dX11_give_68 : decode cX11_give 68 = .ok (.iload_n 2, 1) := by decide +kernel
theorem dX11_give_69 : decode cX11_give 69 = .ok (.iload_n 3, 1) := by decide +kernel
theorem dX11_give_70 : decode cX11_give 70 = .ok (.invokevirtual 119, 3) := by decide +kernel
theorem dX11_give_73 : decode cX11_give 73 = .ok (.aload_n 0, 1) := by decide +kernel
theorem dX11_give_74 : decode cX11_give 74 = .ok (.getfield 10, 3) := by decide +kernel
theorem dX11_give_77 : decode cX11_give 77 = .ok (.iload_n 1, 1) := by decide +kernel
theorem dX11_give_78 : decode cX11_give 78 = .ok (.invokevirtual 113, 3) := by decide +kernel
theorem dX11_give_81 : decode cX11_give 81 = .ok (.ireturn, 1) := by decide +kernel
theorem dX11_day_0 : decode cX11_day 0 = .ok (.aload_n 0, 1) := by decide +kernel
theorem dX11_day_1 : decode cX11_day 1 = .ok (.getfield 10, 3) := by decide +kernel
theorem dX11_day_4 : decode cX11_day 4 = .ok (.invokevirtual 104, 3) := by decide +kernel
theorem dX11_day_7 : decode cX11_day 7 = .ok (.aload_n 0, 1) := by decide +kernel
theorem dX11_day_8 : decode cX11_day 8 = .ok (.getfield 10, 3) := by decide +kernel
theorem dX11_day_11 : decode cX11_day 11 = .ok (.invokevirtual 123, 3) := by decide +kernel
theorem dX11_day_14 : decode cX11_day 14 = .ok (.aload_n 0, 1) := by decide +kernel
theorem dX11_day_15 : decode cX11_day 15 = .ok (.getfield 10, 3) := by decide +kernel
theorem dX11_day_18 : decode cX11_day 18 = .ok (.invokevirtual 126, 3) := by decide +kernel
theorem dX11_day_21 : decode cX11_day 21 = .ok (.ireturn, 1) := by decide +kernel
theorem dX11_undo_0 : decode cX11_undo 0 = .ok (.aload_n 0, 1) := by decide +kernel
theorem dX11_undo_1 : decode cX11_undo 1 = .ok (.getfield 10, 3) := by decide +kernel
theorem dX11_undo_4 : decode cX11_undo 4 = .ok (.invokevirtual 129, 3) := by decide +kernel
theorem dX11_undo_7 : decode cX11_undo 7 = .ok (.ifCond .ne 8, 3) := by decide +kernel
theorem dX11_undo_10 : decode cX11_undo 10 = .ok (.aload_n 0, 1) := by decide +kernel
theorem dX11_undo_11 : decode cX11_undo 11 = .ok (.invokevirtual 116, 3) := by decide +kernel
theorem dX11_undo_14 : decode cX11_undo 14 = .ok (.ireturn, 1) := by decide +kernel
theorem dX11_undo_15 : decode cX11_undo 15 = .ok (.aload_n 0, 1) := by decide +kernel
theorem dX11_undo_16 : decode cX11_undo 16 = .ok (.getfield 10, 3) := by decide +kernel
theorem dX11_undo_19 : decode cX11_undo 19 = .ok (.invokevirtual 132, 3) := by decide +kernel
theorem dX11_undo_22 : decode cX11_undo 22 = .ok (.aload_n 0, 1) := by decide +kernel
theorem dX11_undo_23 : decode cX11_undo 23 = .ok (.getfield 10, 3) := by decide +kernel
theorem dX11_undo_26 : decode cX11_undo 26 = .ok (.invokevirtual 126, 3) := by decide +kernel
theorem dX11_undo_29 : decode cX11_undo 29 = .ok (.ireturn, 1) := by decide +kernel
theorem dX11_of_0 : decode cX11_of 0 = .ok (.aload_n 0, 1) := by decide +kernel
theorem dX11_of_1 : decode cX11_of 1 = .ok (.getfield 10, 3) := by decide +kernel
theorem dX11_of_4 : decode cX11_of 4 = .ok (.iload_n 1, 1) := by decide +kernel
theorem dX11_of_5 : decode cX11_of 5 = .ok (.invokevirtual 100, 3) := by decide +kernel
theorem dX11_of_8 : decode cX11_of 8 = .ok (.ifCond .ne 8, 3) := by decide +kernel
theorem dX11_of_11 : decode cX11_of 11 = .ok (.aload_n 0, 1) := by decide +kernel
theorem dX11_of_12 : decode cX11_of 12 = .ok (.invokevirtual 55, 3) := by decide +kernel
theorem dX11_of_15 : decode cX11_of 15 = .ok (.ireturn, 1) := by decide +kernel
theorem dX11_of_16 : decode cX11_of 16 = .ok (.iload_n 2, 1) := by decide +kernel
theorem dX11_of_17 : decode cX11_of 17 = .ok (.tableswitch 106 0 6 #[43, 52, 61, 70, 79, 88, 97], 43) := by decide +kernel
theorem dX11_of_60 : decode cX11_of 60 = .ok (.aload_n 0, 1) := by decide +kernel
theorem dX11_of_61 : decode cX11_of 61 = .ok (.getfield 10, 3) := by decide +kernel
theorem dX11_of_64 : decode cX11_of 64 = .ok (.iload_n 1, 1) := by decide +kernel
theorem dX11_of_65 : decode cX11_of 65 = .ok (.invokevirtual 135, 3) := by decide +kernel
theorem dX11_of_68 : decode cX11_of 68 = .ok (.ireturn, 1) := by decide +kernel
theorem dX11_of_69 : decode cX11_of 69 = .ok (.aload_n 0, 1) := by decide +kernel
theorem dX11_of_70 : decode cX11_of 70 = .ok (.getfield 10, 3) := by decide +kernel
theorem dX11_of_73 : decode cX11_of 73 = .ok (.iload_n 1, 1) := by decide +kernel
theorem dX11_of_74 : decode cX11_of 74 = .ok (.invokevirtual 110, 3) := by decide +kernel
theorem dX11_of_77 : decode cX11_of 77 = .ok (.ireturn, 1) := by decide +kernel
theorem dX11_of_78 : decode cX11_of 78 = .ok (.aload_n 0, 1) := by decide +kernel
theorem dX11_of_79 : decode cX11_of 79 = .ok (.getfield 10, 3) := by decide +kernel
theorem dX11_of_82 : decode cX11_of 82 = .ok (.iload_n 1, 1) := by decide +kernel
theorem dX11_of_83 : decode cX11_of 83 = .ok (.invokevirtual 113, 3) := by decide +kernel
theorem dX11_of_86 : decode cX11_of 86 = .ok (.ireturn, 1) := by decide +kernel
theorem dX11_of_87 : decode cX11_of 87 = .ok (.aload_n 0, 1) := by decide +kernel
theorem dX11_of_88 : decode cX11_of 88 = .ok (.getfield 10, 3) := by decide +kernel
theorem dX11_of_91 : decode cX11_of 91 = .ok (.iload_n 1, 1) := by decide +kernel
theorem dX11_of_92 : decode cX11_of 92 = .ok (.invokevirtual 138, 3) := by decide +kernel
theorem dX11_of_95 : decode cX11_of 95 = .ok (.ireturn, 1) := by decide +kernel
theorem dX11_of_96 : decode cX11_of 96 = .ok (.aload_n 0, 1) := by decide +kernel
theorem dX11_of_97 : decode cX11_of 97 = .ok (.getfield 10, 3) := by decide +kernel
theorem dX11_of_100 : decode cX11_of 100 = .ok (.iload_n 1, 1) := by decide +kernel
theorem dX11_of_101 : decode cX11_of 101 = .ok (.invokevirtual 141, 3) := by decide +kernel
theorem dX11_of_104 : decode cX11_of 104 = .ok (.ireturn, 1) := by decide +kernel
theorem dX11_of_105 : decode cX11_of 105 = .ok (.aload_n 0, 1) := by decide +kernel
theorem dX11_of_106 : decode cX11_of 106 = .ok (.getfield 10, 3) := by decide +kernel
theorem dX11_of_109 : decode cX11_of 109 = .ok (.iload_n 1, 1) := by decide +kernel
theorem dX11_of_110 : decode cX11_of 110 = .ok (.invokevirtual 72, 3) := by decide +kernel
theorem dX11_of_113 : decode cX11_of 113 = .ok (.ireturn, 1) := by decide +kernel
theorem dX11_of_114 : decode cX11_of 114 = .ok (.aload_n 0, 1) := by decide +kernel
theorem dX11_of_115 : decode cX11_of 115 = .ok (.getfield 10, 3) := by decide +kernel
theorem dX11_of_118 : decode cX11_of 118 = .ok (.iload_n 1, 1) := by decide +kernel
theorem dX11_of_119 : decode cX11_of 119 = .ok (.invokevirtual 144, 3) := by decide +kernel
theorem dX11_of_122 : decode cX11_of 122 = .ok (.ireturn, 1) := by decide +kernel
theorem dX11_of_123 : decode cX11_of 123 = .ok (.aload_n 0, 1) := by decide +kernel
theorem dX11_of_124 : decode cX11_of 124 = .ok (.invokevirtual 55, 3) := by decide +kernel
theorem dX11_of_127 : decode cX11_of 127 = .ok (.ireturn, 1) := by decide +kernel
theorem dX11_weighs_0 : decode cX11_weighs 0 = .ok (.aload_n 0, 1) := by decide +kernel
theorem dX11_weighs_1 : decode cX11_weighs 1 = .ok (.getfield 10, 3) := by decide +kernel
theorem dX11_weighs_4 : decode cX11_weighs 4 = .ok (.iload_n 1, 1) := by decide +kernel
theorem dX11_weighs_5 : decode cX11_weighs 5 = .ok (.invokevirtual 100, 3) := by decide +kernel
theorem dX11_weighs_8 : decode cX11_weighs 8 = .ok (.ifCond .eq 13, 3) := by decide +kernel
theorem dX11_weighs_11 : decode cX11_weighs 11 = .ok (.iload_n 2, 1) := by decide +kernel
theorem dX11_weighs_12 : decode cX11_weighs 12 = .ok (.iconst 0, 1) := by decide +kernel
theorem dX11_weighs_13 : decode cX11_weighs 13 = .ok (.bipush 99, 2) := by decide +kernel
theorem dX11_weighs_15 : decode cX11_weighs 15 = .ok (.invokestatic 51, 3) := by decide +kernel
theorem dX11_weighs_18 : decode cX11_weighs 18 = .ok (.ifCond .ne 8, 3) := by decide +kernel
theorem dX11_weighs_21 : decode cX11_weighs 21 = .ok (.aload_n 0, 1) := by decide +kernel
theorem dX11_weighs_22 : decode cX11_weighs 22 = .ok (.invokevirtual 55, 3) := by decide +kernel
theorem dX11_weighs_25 : decode cX11_weighs 25 = .ok (.ireturn, 1) := by decide +kernel
theorem dX11_weighs_26 : decode cX11_weighs 26 = .ok (.aload_n 0, 1) := by decide +kernel
theorem dX11_weighs_27 : decode cX11_weighs 27 = .ok (.getfield 10, 3) := by decide +kernel
theorem dX11_weighs_30 : decode cX11_weighs 30 = .ok (.iload_n 1, 1) := by decide +kernel
theorem dX11_weighs_31 : decode cX11_weighs 31 = .ok (.iload_n 2, 1) := by decide +kernel
theorem dX11_weighs_32 : decode cX11_weighs 32 = .ok (.invokevirtual 147, 3) := by decide +kernel
theorem dX11_weighs_35 : decode cX11_weighs 35 = .ok (.ireturn, 1) := by decide +kernel
theorem dX11_all_0 : decode cX11_all 0 = .ok (.aload_n 0, 1) := by decide +kernel
theorem dX11_all_1 : decode cX11_all 1 = .ok (.getfield 10, 3) := by decide +kernel
theorem dX11_all_4 : decode cX11_all 4 = .ok (.invokevirtual 151, 3) := by decide +kernel
theorem dX11_all_7 : decode cX11_all 7 = .ok (.ireturn, 1) := by decide +kernel
theorem dX11_when_0 : decode cX11_when 0 = .ok (.aload_n 0, 1) := by decide +kernel
theorem dX11_when_1 : decode cX11_when 1 = .ok (.getfield 10, 3) := by decide +kernel
theorem dX11_when_4 : decode cX11_when 4 = .ok (.iload_n 1, 1) := by decide +kernel
theorem dX11_when_5 : decode cX11_when 5 = .ok (.invokevirtual 100, 3) := by decide +kernel
theorem dX11_when_8 : decode cX11_when 8 = .ok (.ifCond .eq 14, 3) := by decide +kernel
theorem dX11_when_11 : decode cX11_when 11 = .ok (.iload_n 2, 1) := by decide +kernel
theorem dX11_when_12 : decode cX11_when 12 = .ok (.iconst 0, 1) := by decide +kernel
theorem dX11_when_13 : decode cX11_when 13 = .ok (.sipush 999, 3) := by decide +kernel
theorem dX11_when_16 : decode cX11_when 16 = .ok (.invokestatic 51, 3) := by decide +kernel
theorem dX11_when_19 : decode cX11_when 19 = .ok (.ifCond .ne 8, 3) := by decide +kernel
theorem dX11_when_22 : decode cX11_when 22 = .ok (.aload_n 0, 1) := by decide +kernel
theorem dX11_when_23 : decode cX11_when 23 = .ok (.invokevirtual 55, 3) := by decide +kernel
theorem dX11_when_26 : decode cX11_when 26 = .ok (.ireturn, 1) := by decide +kernel
theorem dX11_when_27 : decode cX11_when 27 = .ok (.aload_n 0, 1) := by decide +kernel
theorem dX11_when_28 : decode cX11_when 28 = .ok (.getfield 10, 3) := by decide +kernel
theorem dX11_when_31 : decode cX11_when 31 = .ok (.iload_n 1, 1) := by decide +kernel
theorem dX11_when_32 : decode cX11_when 32 = .ok (.iload_n 2, 1) := by decide +kernel
theorem dX11_when_33 : decode cX11_when 33 = .ok (.invokevirtual 154, 3) := by decide +kernel
theorem dX11_when_36 : decode cX11_when 36 = .ok (.ireturn, 1) := by decide +kernel
theorem dX11_bag_0 : decode cX11_bag 0 = .ok (.aload_n 0, 1) := by decide +kernel
theorem dX11_bag_1 : decode cX11_bag 1 = .ok (.iload_n 1, 1) := by decide +kernel
theorem dX11_bag_2 : decode cX11_bag 2 = .ok (.iload_n 2, 1) := by decide +kernel
theorem dX11_bag_3 : decode cX11_bag 3 = .ok (.invokevirtual 68, 3) := by decide +kernel
theorem dX11_bag_6 : decode cX11_bag 6 = .ok (.ifCond .eq 19, 3) := by decide +kernel
theorem dX11_bag_9 : decode cX11_bag 9 = .ok (.iload_n 3, 1) := by decide +kernel
theorem dX11_bag_10 : decode cX11_bag 10 = .ok (.iconst 0, 1) := by decide +kernel
theorem dX11_bag_11 : decode cX11_bag 11 = .ok (.bipush 99, 2) := by decide +kernel
theorem dX11_bag_13 : decode cX11_bag 13 = .ok (.invokestatic 51, 3) := by decide +kernel
theorem dX11_bag_16 : decode cX11_bag 16 = .ok (.ifCond .eq 9, 3) := by decide +kernel
theorem dX11_bag_19 : decode cX11_bag 19 = .ok (.iload 4, 2) := by decide +kernel
theorem dX11_bag_21 : decode cX11_bag 21 = .ok (.iconst (-1), 1) := by decide +kernel
theorem dX11_bag_22 : decode cX11_bag 22 = .ok (.if_icmp .ge 11, 3) := by decide +kernel
theorem dX11_bag_25 : decode cX11_bag 25 = .ok (.aload_n 0, 1) := by decide +kernel
theorem dX11_bag_26 : decode cX11_bag 26 = .ok (.invokevirtual 55, 3) := by decide +kernel
theorem dX11_bag_29 : decode cX11_bag 29 = .ok (.pop, 1) := by decide +kernel
theorem dX11_bag_30 : decode cX11_bag 30 = .ok (.bipush (-10), 2) := by decide +kernel
theorem dX11_bag_32 : decode cX11_bag 32 = .ok (.ireturn, 1) := by decide +kernel
theorem dX11_bag_33 : decode cX11_bag 33 = .ok (.aload_n 0, 1) := by decide +kernel
theorem dX11_bag_34 : decode cX11_bag 34 = .ok (.getfield 33, 3) := by decide +kernel
theorem dX11_bag_37 : decode cX11_bag 37 = .ok (.aload_n 0, 1) := by decide +kernel
theorem dX11_bag_38 : decode cX11_bag 38 = .ok (.getfield 10, 3) := by decide +kernel
theorem dX11_bag_41 : decode cX11_bag 41 = .ok (.iload_n 1, 1) := by decide +kernel
theorem dX11_bag_42 : decode cX11_bag 42 = .ok (.iload_n 2, 1) := by decide +kernel
theorem dX11_bag_43 : decode cX11_bag 43 = .ok (.iload_n 3, 1) := by decide +kernel
theorem dX11_bag_44 : decode cX11_bag 44 = .ok (.invokevirtual 157, 3) := by decide +kernel
theorem dX11_bag_47 : decode cX11_bag 47 = .ok (.istore 5, 2) := by decide +kernel
theorem dX11_bag_49 : decode cX11_bag 49 = .ok (.iload 5, 2) := by decide +kernel
theorem dX11_bag_51 : decode cX11_bag 51 = .ok (.iconst (-1), 1) := by decide +kernel
theorem dX11_bag_52 : decode cX11_bag 52 = .ok (.if_icmp .eq 9, 3) := by decide +kernel
theorem dX11_bag_55 : decode cX11_bag 55 = .ok (.iload 4, 2) := by decide +kernel
theorem dX11_bag_57 : decode cX11_bag 57 = .ok (.iconst (-1), 1) := by decide +kernel
theorem dX11_bag_58 : decode cX11_bag 58 = .ok (.if_icmp .ne 6, 3) := by decide +kernel
theorem dX11_bag_61 : decode cX11_bag 61 = .ok (.iload 5, 2) := by decide +kernel
theorem dX11_bag_63 : decode cX11_bag 63 = .ok (.ireturn, 1) := by decide +kernel
theorem dX11_bag_64 : decode cX11_bag 64 = .ok (.aload_n 0, 1) := by decide +kernel
theorem dX11_bag_65 : decode cX11_bag 65 = .ok (.getfield 33, 3) := by decide +kernel
theorem dX11_bag_68 : decode cX11_bag 68 = .ok (.aload_n 0, 1) := by decide +kernel
theorem dX11_bag_69 : decode cX11_bag 69 = .ok (.getfield 10, 3) := by decide +kernel
theorem dX11_bag_72 : decode cX11_bag 72 = .ok (.iload_n 1, 1) := by decide +kernel
theorem dX11_bag_73 : decode cX11_bag 73 = .ok (.iload 4, 2) := by decide +kernel
theorem dX11_bag_75 : decode cX11_bag 75 = .ok (.invokevirtual 161, 3) := by decide +kernel
theorem dX11_bag_78 : decode cX11_bag 78 = .ok (.ireturn, 1) := by decide +kernel
theorem dX11_debt_0 : decode cX11_debt 0 = .ok (.aload_n 0, 1) := by decide +kernel
theorem dX11_debt_1 : decode cX11_debt 1 = .ok (.getfield 10, 3) := by decide +kernel
theorem dX11_debt_4 : decode cX11_debt 4 = .ok (.iload_n 1, 1) := by decide +kernel
theorem dX11_debt_5 : decode cX11_debt 5 = .ok (.invokevirtual 100, 3) := by decide +kernel
theorem dX11_debt_8 : decode cX11_debt 8 = .ok (.ifCond .eq 14, 3) := by decide +kernel
theorem dX11_debt_11 : decode cX11_debt 11 = .ok (.iload_n 2, 1) := by decide +kernel
theorem dX11_debt_12 : decode cX11_debt 12 = .ok (.iconst 0, 1) := by decide +kernel
theorem dX11_debt_13 : decode cX11_debt 13 = .ok (.sipush 999, 3) := by decide +kernel
theorem dX11_debt_16 : decode cX11_debt 16 = .ok (.invokestatic 51, 3) := by decide +kernel
theorem dX11_debt_19 : decode cX11_debt 19 = .ok (.ifCond .ne 8, 3) := by decide +kernel
theorem dX11_debt_22 : decode cX11_debt 22 = .ok (.aload_n 0, 1) := by decide +kernel
theorem dX11_debt_23 : decode cX11_debt 23 = .ok (.invokevirtual 55, 3) := by decide +kernel
theorem dX11_debt_26 : decode cX11_debt 26 = .ok (.ireturn, 1) := by decide +kernel
theorem dX11_debt_27 : decode cX11_debt 27 = .ok (.aload_n 0, 1) := by decide +kernel
theorem dX11_debt_28 : decode cX11_debt 28 = .ok (.getfield 10, 3) := by decide +kernel
theorem dX11_debt_31 : decode cX11_debt 31 = .ok (.iload_n 1, 1) := by decide +kernel
theorem dX11_debt_32 : decode cX11_debt 32 = .ok (.iload_n 2, 1) := by decide +kernel
theorem dX11_debt_33 : decode cX11_debt 33 = .ok (.invokevirtual 165, 3) := by decide +kernel
theorem dX11_debt_36 : decode cX11_debt 36 = .ok (.ireturn, 1) := by decide +kernel
theorem dX11_hire_0 : decode cX11_hire 0 = .ok (.iload_n 1, 1) := by decide +kernel
theorem dX11_hire_1 : decode cX11_hire 1 = .ok (.iconst 0, 1) := by decide +kernel
theorem dX11_hire_2 : decode cX11_hire 2 = .ok (.bipush 120, 2) := by decide +kernel
theorem dX11_hire_4 : decode cX11_hire 4 = .ok (.invokestatic 51, 3) := by decide +kernel
theorem dX11_hire_7 : decode cX11_hire 7 = .ok (.ifCond .eq 22, 3) := by decide +kernel
theorem dX11_hire_10 : decode cX11_hire 10 = .ok (.iload_n 2, 1) := by decide +kernel
theorem dX11_hire_11 : decode cX11_hire 11 = .ok (.iconst 0, 1) := by decide +kernel
theorem dX11_hire_12 : decode cX11_hire 12 = .ok (.bipush 99, 2) := by decide +kernel
theorem dX11_hire_14 : decode cX11_hire 14 = .ok (.invokestatic 51, 3) := by decide +kernel
theorem dX11_hire_17 : decode cX11_hire 17 = .ok (.ifCond .eq 12, 3) := by decide +kernel
theorem dX11_hire_20 : decode cX11_hire 20 = .ok (.iload_n 3, 1) := by decide +kernel
theorem dX11_hire_21 : decode cX11_hire 21 = .ok (.iconst 0, 1) := by decide +kernel
theorem dX11_hire_22 : decode cX11_hire 22 = .ok (.iconst 1, 1) := by decide +kernel
theorem dX11_hire_23 : decode cX11_hire 23 = .ok (.invokestatic 51, 3) := by decide +kernel
theorem dX11_hire_26 : decode cX11_hire 26 = .ok (.ifCond .ne 8, 3) := by decide +kernel
theorem dX11_hire_29 : decode cX11_hire 29 = .ok (.aload_n 0, 1) := by decide +kernel
theorem dX11_hire_30 : decode cX11_hire 30 = .ok (.invokevirtual 55, 3) := by decide +kernel
theorem dX11_hire_33 : decode cX11_hire 33 = .ok (.ireturn, 1) := by decide +kernel
theorem dX11_hire_34 : decode cX11_hire 34 = .ok (.aload_n 0, 1) := by decide +kernel
theorem dX11_hire_35 : decode cX11_hire 35 = .ok (.getfield 33, 3) := by decide +kernel
theorem dX11_hire_38 : decode cX11_hire 38 = .ok (.aload_n 0, 1) := by decide +kernel
theorem dX11_hire_39 : decode cX11_hire 39 = .ok (.getfield 10, 3) := by decide +kernel
theorem dX11_hire_42 : decode cX11_hire 42 = .ok (.iload_n 1, 1) := by decide +kernel
theorem dX11_hire_43 : decode cX11_hire 43 = .ok (.iload_n 2, 1) := by decide +kernel
theorem dX11_hire_44 : decode cX11_hire 44 = .ok (.invokevirtual 168, 3) := by decide +kernel
theorem dX11_hire_47 : decode cX11_hire 47 = .ok (.istore 4, 2) := by decide +kernel
theorem dX11_hire_49 : decode cX11_hire 49 = .ok (.iload_n 3, 1) := by decide +kernel
theorem dX11_hire_50 : decode cX11_hire 50 = .ok (.ifCond .ne 8, 3) := by decide +kernel
theorem dX11_hire_53 : decode cX11_hire 53 = .ok (.iload 4, 2) := by decide +kernel
theorem dX11_hire_55 : decode cX11_hire 55 = .ok (.goto 12, 3) := by decide +kernel
theorem dX11_hire_58 : decode cX11_hire 58 = .ok (.aload_n 0, 1) := by decide +kernel
theorem dX11_hire_59 : decode cX11_hire 59 = .ok (.getfield 33, 3) := by decide +kernel
theorem dX11_hire_62 : decode cX11_hire 62 = .ok (.iload 4, 2) := by decide +kernel
theorem dX11_hire_64 : decode cX11_hire 64 = .ok (.invokevirtual 171, 3) := by decide +kernel
theorem dX11_hire_67 : decode cX11_hire 67 = .ok (.ireturn, 1) := by decide +kernel
theorem dX11_shelves_0 : decode cX11_shelves 0 = .ok (.iload_n 1, 1) := by decide +kernel
theorem dX11_shelves_1 : decode cX11_shelves 1 = .ok (.iconst 0, 1) := by decide +kernel
theorem dX11_shelves_2 : decode cX11_shelves 2 = .ok (.bipush 20, 2) := by decide +kernel
theorem dX11_shelves_4 : decode cX11_shelves 4 = .ok (.invokestatic 51, 3) := by decide +kernel
theorem dX11_shelves_7 : decode cX11_shelves 7 = .ok (.ifCond .eq 29, 3) := by decide +kernel
theorem dX11_shelves_10 : decode cX11_shelves 10 = .ok (.iload_n 2, 1) := by decide +kernel
theorem dX11_shelves_11 : decode cX11_shelves 11 = .ok (.iconst 0, 1) := by decide +kernel
theorem dX11_shelves_12 : decode cX11_shelves 12 = .ok (.bipush 9, 2) := by decide +kernel
theorem dX11_shelves_14 : decode cX11_shelves 14 = .ok (.invokestatic 51, 3) := by decide +kernel
theorem dX11_shelves_17 : decode cX11_shelves 17 = .ok (.ifCond .eq 19, 3) := by decide +kernel
theorem dX11_shelves_20 : decode cX11_shelves 20 = .ok (.iload_n 3, 1) := by decide +kernel
theorem dX11_shelves_21 : decode cX11_shelves 21 = .ok (.iconst (-1), 1) := by decide +kernel
theorem dX11_shelves_22 : decode cX11_shelves 22 = .ok (.if_icmp .eq 22, 3) := by decide +kernel
theorem dX11_shelves_25 : decode cX11_shelves 25 = .ok (.aload_n 0, 1) := by decide +kernel
theorem dX11_shelves_26 : decode cX11_shelves 26 = .ok (.getfield 10, 3) := by decide +kernel
theorem dX11_shelves_29 : decode cX11_shelves 29 = .ok (.iload_n 3, 1) := by decide +kernel
theorem dX11_shelves_30 : decode cX11_shelves 30 = .ok (.invokevirtual 100, 3) := by decide +kernel
theorem dX11_shelves_33 : decode cX11_shelves 33 = .ok (.ifCond .ne 11, 3) := by decide +kernel
theorem dX11_shelves_36 : decode cX11_shelves 36 = .ok (.aload_n 0, 1) := by decide +kernel
theorem dX11_shelves_37 : decode cX11_shelves 37 = .ok (.invokevirtual 55, 3) := by decide +kernel
theorem dX11_shelves_40 : decode cX11_shelves 40 = .ok (.pop, 1) := by decide +kernel
theorem dX11_shelves_41 : decode cX11_shelves 41 = .ok (.bipush (-10), 2) := by decide +kernel
theorem dX11_shelves_43 : decode cX11_shelves 43 = .ok (.ireturn, 1) := by decide +kernel
theorem dX11_shelves_44 : decode cX11_shelves 44 = .ok (.aload_n 0, 1) := by decide +kernel
theorem dX11_shelves_45 : decode cX11_shelves 45 = .ok (.getfield 33, 3) := by decide +kernel
theorem dX11_shelves_48 : decode cX11_shelves 48 = .ok (.aload_n 0, 1) := by decide +kernel
theorem dX11_shelves_49 : decode cX11_shelves 49 = .ok (.getfield 10, 3) := by decide +kernel
theorem dX11_shelves_52 : decode cX11_shelves 52 = .ok (.iload_n 1, 1) := by decide +kernel
theorem dX11_shelves_53 : decode cX11_shelves 53 = .ok (.iload_n 2, 1) := by decide +kernel
theorem dX11_shelves_54 : decode cX11_shelves 54 = .ok (.invokevirtual 174, 3) := by decide +kernel
theorem dX11_shelves_57 : decode cX11_shelves 57 = .ok (.istore 4, 2) := by decide +kernel
theorem dX11_shelves_59 : decode cX11_shelves 59 = .ok (.iload_n 3, 1) := by decide +kernel
theorem dX11_shelves_60 : decode cX11_shelves 60 = .ok (.iconst (-1), 1) := by decide +kernel
theorem dX11_shelves_61 : decode cX11_shelves 61 = .ok (.if_icmp .ne 8, 3) := by decide +kernel
theorem dX11_shelves_64 : decode cX11_shelves 64 = .ok (.iload 4, 2) := by decide +kernel
theorem dX11_shelves_66 : decode cX11_shelves 66 = .ok (.goto 18, 3) := by decide +kernel
theorem dX11_shelves_69 : decode cX11_shelves 69 = .ok (.aload_n 0, 1) := by decide +kernel
theorem dX11_shelves_70 : decode cX11_shelves 70 = .ok (.getfield 33, 3) := by decide +kernel
theorem dX11_shelves_73 : decode cX11_shelves 73 = .ok (.iload_n 3, 1) := by decide +kernel
theorem dX11_shelves_74 : decode cX11_shelves 74 = .ok (.aload_n 0, 1) := by decide +kernel
theorem dX11_shelves_75 : decode cX11_shelves 75 = .ok (.getfield 10, 3) := by decide +kernel
theorem dX11_shelves_78 : decode cX11_shelves 78 = .ok (.invokevirtual 44, 3) := by decide +kernel
theorem dX11_shelves_81 : decode cX11_shelves 81 = .ok (.invokevirtual 177, 3) := by decide +kernel
theorem dX11_shelves_84 : decode cX11_shelves 84 = .ok (.ireturn, 1) := by decide +kernel
theorem dX11_note_0 : decode cX11_note 0 = .ok (.aload_n 0, 1) := by decide +kernel
theorem dX11_note_1 : decode cX11_note 1 = .ok (.getfield 10, 3) := by decide +kernel
theorem dX11_note_4 : decode cX11_note 4 = .ok (.iload_n 1, 1) := by decide +kernel
theorem dX11_note_5 : decode cX11_note 5 = .ok (.invokevirtual 100, 3) := by decide +kernel
theorem dX11_note_8 : decode cX11_note 8 = .ok (.ifCond .eq 35, 3) := by decide +kernel
theorem dX11_note_11 : decode cX11_note 11 = .ok (.iload_n 2, 1) := by decide +kernel
theorem dX11_note_12 : decode cX11_note 12 = .ok (.iconst 0, 1) := by decide +kernel
theorem dX11_note_13 : decode cX11_note 13 = .ok (.bipush 99, 2) := by decide +kernel
theorem dX11_note_15 : decode cX11_note 15 = .ok (.invokestatic 51, 3) := by decide +kernel
theorem dX11_note_18 : decode cX11_note 18 = .ok (.ifCond .eq 25, 3) := by decide +kernel
theorem dX11_note_21 : decode cX11_note 21 = .ok (.iload_n 3, 1) := by decide +kernel
theorem dX11_note_22 : decode cX11_note 22 = .ok (.iconst 0, 1) := by decide +kernel
theorem dX11_note_23 : decode cX11_note 23 = .ok (.sipush 2000, 3) := by decide +kernel
theorem dX11_note_26 : decode cX11_note 26 = .ok (.invokestatic 51, 3) := by decide +kernel
theorem dX11_note_29 : decode cX11_note 29 = .ok (.ifCond .eq 14, 3) := by decide +kernel
theorem dX11_note_32 : decode cX11_note 32 = .ok (.iload 4, 2) := by decide +kernel
theorem dX11_note_34 : decode cX11_note 34 = .ok (.iconst 0, 1) := by decide +kernel
theorem dX11_note_35 : decode cX11_note 35 = .ok (.bipush 99, 2) := by decide +kernel
theorem dX11_note_37 : decode cX11_note 37 = .ok (.invokestatic 51, 3) := by decide +kernel
theorem dX11_note_40 : decode cX11_note 40 = .ok (.ifCond .ne 8, 3) := by decide +kernel
theorem dX11_note_43 : decode cX11_note 43 = .ok (.aload_n 0, 1) := by decide +kernel
theorem dX11_note_44 : decode cX11_note 44 = .ok (.invokevirtual 55, 3) := by decide +kernel
theorem dX11_note_47 : decode cX11_note 47 = .ok (.ireturn, 1) := by decide +kernel
theorem dX11_note_48 : decode cX11_note 48 = .ok (.aload_n 0, 1) := by decide +kernel
theorem dX11_note_49 : decode cX11_note 49 = .ok (.getfield 10, 3) := by decide +kernel
theorem dX11_note_52 : decode cX11_note 52 = .ok (.invokevirtual 180, 3) := by decide +kernel
theorem dX11_note_55 : decode cX11_note 55 = .ok (.invokevirtual 184, 3) := by decide +kernel
theorem dX11_note_58 : decode cX11_note 58 = .ok (.bipush 6, 2) := by decide +kernel
theorem dX11_note_60 : decode cX11_note 60 = .ok (.if_icmp .lt 8, 3) := by decide +kernel
theorem dX11_note_63 : decode cX11_note 63 = .ok (.aload_n 0, 1) := by decide +kernel
theorem dX11_note_64 : decode cX11_note 64 = .ok (.invokevirtual 58, 3) := by decide +kernel
theorem dX11_note_67 : decode cX11_note 67 = .ok (.ireturn, 1) := by decide +kernel
theorem dX11_note_68 : decode cX11_note 68 = .ok (.aload_n 0, 1) := by decide +kernel
theorem dX11_note_69 : decode cX11_note 69 = .ok (.getfield 10, 3) := by decide +kernel
theorem dX11_note_72 : decode cX11_note 72 = .ok (.invokevirtual 180, 3) := by decide +kernel
theorem dX11_note_75 : decode cX11_note 75 = .ok (.iload_n 1, 1) := by decide +kernel
theorem dX11_note_76 : decode cX11_note 76 = .ok (.iload_n 2, 1) := by decide +kernel
theorem dX11_note_77 : decode cX11_note 77 = .ok (.iload_n 3, 1) := by decide +kernel
theorem dX11_note_78 : decode cX11_note 78 = .ok (.iload 4, 2) := by decide +kernel
theorem dX11_note_80 : decode cX11_note 80 = .ok (.invokevirtual 189, 3) := by decide +kernel
theorem dX11_note_83 : decode cX11_note 83 = .ok (.ireturn, 1) := by decide +kernel
theorem dX11_forget_0 : decode cX11_forget 0 = .ok (.aload_n 0, 1) := by decide +kernel
theorem dX11_forget_1 : decode cX11_forget 1 = .ok (.getfield 10, 3) := by decide +kernel
theorem dX11_forget_4 : decode cX11_forget 4 = .ok (.invokevirtual 180, 3) := by decide +kernel
theorem dX11_forget_7 : decode cX11_forget 7 = .ok (.invokevirtual 184, 3) := by decide +kernel
theorem dX11_forget_10 : decode cX11_forget 10 = .ok (.istore_n 1, 1) := by decide +kernel
theorem dX11_forget_11 : decode cX11_forget 11 = .ok (.aload_n 0, 1) := by decide +kernel
theorem dX11_forget_12 : decode cX11_forget 12 = .ok (.getfield 10, 3) := by decide +kernel
theorem dX11_forget_15 : decode cX11_forget 15 = .ok (.invokevirtual 180, 3) := by decide +kernel
theorem dX11_forget_18 : decode cX11_forget 18 = .ok (.invokevirtual 192, 3) := by decide +kernel
theorem dX11_forget_21 : decode cX11_forget 21 = .ok (.iload_n 1, 1) := by decide +kernel
theorem dX11_forget_22 : decode cX11_forget 22 = .ok (.ireturn, 1) := by decide +kernel
theorem dX11_is_0 : decode cX11_is 0 = .ok (.aload_n 0, 1) := by decide +kernel
theorem dX11_is_1 : decode cX11_is 1 = .ok (.getfield 10, 3) := by decide +kernel
theorem dX11_is_4 : decode cX11_is 4 = .ok (.iload_n 1, 1) := by decide +kernel
theorem dX11_is_5 : decode cX11_is 5 = .ok (.invokevirtual 100, 3) := by decide +kernel
theorem dX11_is_8 : decode cX11_is 8 = .ok (.ifCond .eq 12, 3) := by decide +kernel
theorem dX11_is_11 : decode cX11_is 11 = .ok (.iload_n 2, 1) := by decide +kernel
theorem dX11_is_12 : decode cX11_is 12 = .ok (.iconst 0, 1) := by decide +kernel
theorem dX11_is_13 : decode cX11_is 13 = .ok (.iconst 1, 1) := by decide +kernel
theorem dX11_is_14 : decode cX11_is 14 = .ok (.invokestatic 51, 3) := by decide +kernel
theorem dX11_is_17 : decode cX11_is 17 = .ok (.ifCond .ne 8, 3) := by decide +kernel
theorem dX11_is_20 : decode cX11_is 20 = .ok (.aload_n 0, 1) := by decide +kernel
theorem dX11_is_21 : decode cX11_is 21 = .ok (.invokevirtual 55, 3) := by decide +kernel
theorem dX11_is_24 : decode cX11_is 24 = .ok (.ireturn, 1) := by decide +kernel
theorem dX11_is_25 : decode cX11_is 25 = .ok (.iload_n 2, 1) := by decide +kernel
theorem dX11_is_26 : decode cX11_is 26 = .ok (.ifCond .ne 21, 3) := by decide +kernel
theorem dX11_is_29 : decode cX11_is 29 = .ok (.aload_n 0, 1) := by decide +kernel
theorem dX11_is_30 : decode cX11_is 30 = .ok (.getfield 10, 3) := by decide +kernel
theorem dX11_is_33 : decode cX11_is 33 = .ok (.invokevirtual 180, 3) := by decide +kernel
theorem dX11_is_36 : decode cX11_is 36 = .ok (.aload_n 0, 1) := by decide +kernel
theorem dX11_is_37 : decode cX11_is 37 = .ok (.getfield 10, 3) := by decide +kernel
theorem dX11_is_40 : decode cX11_is 40 = .ok (.iload_n 1, 1) := by decide +kernel
theorem dX11_is_41 : decode cX11_is 41 = .ok (.invokevirtual 193, 3) := by decide +kernel
theorem dX11_is_44 : decode cX11_is 44 = .ok (.goto 18, 3) := by decide +kernel
theorem dX11_is_47 : decode cX11_is 47 = .ok (.aload_n 0, 1) := by decide +kernel
theorem dX11_is_48 : decode cX11_is 48 = .ok (.getfield 10, 3) := by decide +kernel
theorem dX11_is_51 : decode cX11_is 51 = .ok (.invokevirtual 180, 3) := by decide +kernel
theorem dX11_is_54 : decode cX11_is 54 = .ok (.aload_n 0, 1) := by decide +kernel
theorem dX11_is_55 : decode cX11_is 55 = .ok (.getfield 10, 3) := by decide +kernel
theorem dX11_is_58 : decode cX11_is 58 = .ok (.iload_n 1, 1) := by decide +kernel
theorem dX11_is_59 : decode cX11_is 59 = .ok (.invokevirtual 197, 3) := by decide +kernel
theorem dX11_is_62 : decode cX11_is 62 = .ok (.ireturn, 1) := by decide +kernel
theorem dX11_next_0 : decode cX11_next 0 = .ok (.aload_n 0, 1) := by decide +kernel
theorem dX11_next_1 : decode cX11_next 1 = .ok (.getfield 10, 3) := by decide +kernel
theorem dX11_next_4 : decode cX11_next 4 = .ok (.iload_n 1, 1) := by decide +kernel
theorem dX11_next_5 : decode cX11_next 5 = .ok (.invokevirtual 100, 3) := by decide +kernel
theorem dX11_next_8 : decode cX11_next 8 = .ok (.ifCond .ne 8, 3) := by decide +kernel
theorem dX11_next_11 : decode cX11_next 11 = .ok (.aload_n 0, 1) := by decide +kernel
theorem dX11_next_12 : decode cX11_next 12 = .ok (.invokevirtual 55, 3) := by decide +kernel
theorem dX11_next_15 : decode cX11_next 15 = .ok (.ireturn, 1) := by decide +kernel
theorem dX11_next_16 : decode cX11_next 16 = .ok (.aload_n 0, 1) := by decide +kernel
theorem dX11_next_17 : decode cX11_next 17 = .ok (.getfield 10, 3) := by decide +kernel
theorem dX11_next_20 : decode cX11_next 20 = .ok (.invokevirtual 180, 3) := by decide +kernel
theorem dX11_next_23 : decode cX11_next 23 = .ok (.aload_n 0, 1) := by decide +kernel
theorem dX11_next_24 : decode cX11_next 24 = .ok (.getfield 10, 3) := by decide +kernel
theorem dX11_next_27 : decode cX11_next 27 = .ok (.iload_n 1, 1) := by decide +kernel
theorem dX11_next_28 : decode cX11_next 28 = .ok (.invokevirtual 193, 3) := by decide +kernel
theorem dX11_next_31 : decode cX11_next 31 = .ok (.istore_n 2, 1) := by decide +kernel
theorem dX11_next_32 : decode cX11_next 32 = .ok (.aload_n 0, 1) := by decide +kernel
theorem dX11_next_33 : decode cX11_next 33 = .ok (.getfield 10, 3) := by decide +kernel
theorem dX11_next_36 : decode cX11_next 36 = .ok (.iload_n 2, 1) := by decide +kernel
theorem dX11_next_37 : decode cX11_next 37 = .ok (.aload_n 0, 1) := by decide +kernel
theorem dX11_next_38 : decode cX11_next 38 = .ok (.getfield 10, 3) := by decide +kernel
theorem dX11_next_41 : decode cX11_next 41 = .ok (.iload_n 1, 1) := by decide +kernel
theorem dX11_next_42 : decode cX11_next 42 = .ok (.invokevirtual 110, 3) := by decide +kernel
theorem dX11_next_45 : decode cX11_next 45 = .ok (.invokestatic 200, 3) := by decide +kernel
theorem dX11_next_48 : decode cX11_next 48 = .ok (.ireturn, 1) := by decide +kernel
theorem dX11_two_0 : decode cX11_two 0 = .ok (.aload_n 0, 1) := by decide +kernel
theorem dX11_two_1 : decode cX11_two 1 = .ok (.iload_n 1, 1) := by decide +kernel
theorem dX11_two_2 : decode cX11_two 2 = .ok (.iload_n 2, 1) := by decide +kernel
theorem dX11_two_3 : decode cX11_two 3 = .ok (.invokevirtual 68, 3) := by decide +kernel
theorem dX11_two_6 : decode cX11_two 6 = .ok (.ifCond .ne 8, 3) := by decide +kernel
theorem dX11_two_9 : decode cX11_two 9 = .ok (.aload_n 0, 1) := by decide +kernel
theorem dX11_two_10 : decode cX11_two 10 = .ok (.invokevirtual 55, 3) := by decide +kernel
theorem dX11_two_13 : decode cX11_two 13 = .ok (.ireturn, 1) := by decide +kernel
theorem dX11_two_14 : decode cX11_two 14 = .ok (.aload_n 0, 1) := by decide +kernel
theorem dX11_two_15 : decode cX11_two 15 = .ok (.getfield 10, 3) := by decide +kernel
theorem dX11_two_18 : decode cX11_two 18 = .ok (.iload_n 1, 1) := by decide +kernel
theorem dX11_two_19 : decode cX11_two 19 = .ok (.invokevirtual 203, 3) := by decide +kernel
theorem dX11_two_22 : decode cX11_two 22 = .ok (.istore_n 3, 1) := by decide +kernel
theorem dX11_two_23 : decode cX11_two 23 = .ok (.aload_n 0, 1) := by decide +kernel
theorem dX11_two_24 : decode cX11_two 24 = .ok (.getfield 10, 3) := by decide +kernel
theorem dX11_two_27 : decode cX11_two 27 = .ok (.iload_n 2, 1) := by decide +kernel
theorem dX11_two_28 : decode cX11_two 28 = .ok (.invokevirtual 203, 3) := by decide +kernel
theorem dX11_two_31 : decode cX11_two 31 = .ok (.istore 4, 2) := by decide +kernel
theorem dX11_two_33 : decode cX11_two 33 = .ok (.iconst 0, 1) := by decide +kernel
theorem dX11_two_34 : decode cX11_two 34 = .ok (.istore 5, 2) := by decide +kernel
theorem dX11_two_36 : decode cX11_two 36 = .ok (.iconst 0, 1) := by decide +kernel
theorem dX11_two_37 : decode cX11_two 37 = .ok (.istore 6, 2) := by decide +kernel
theorem dX11_two_39 : decode cX11_two 39 = .ok (.iload 6, 2) := by decide +kernel
theorem dX11_two_41 : decode cX11_two 41 = .ok (.iconst 4, 1) := by decide +kernel
theorem dX11_two_42 : decode cX11_two 42 = .ok (.if_icmp .ge 69, 3) := by decide +kernel
theorem dX11_two_45 : decode cX11_two 45 = .ok (.iload 6, 2) := by decide +kernel
theorem dX11_two_47 : decode cX11_two 47 = .ok (.iconst 1, 1) := by decide +kernel
theorem dX11_two_48 : decode cX11_two 48 = .ok (.iand, 1) := by decide +kernel
theorem dX11_two_49 : decode cX11_two 49 = .ok (.ifCond .eq 7, 3) := by decide +kernel
theorem dX11_two_52 : decode cX11_two 52 = .ok (.iconst 1, 1) := by decide +kernel
theorem dX11_two_53 : decode cX11_two 53 = .ok (.goto 4, 3) := by decide +kernel
theorem dX11_two_56 : decode cX11_two 56 = .ok (.iconst 0, 1) := by decide +kernel
theorem dX11_two_57 : decode cX11_two 57 = .ok (.istore 7, 2) := by decide +kernel
theorem dX11_two_59 : decode cX11_two 59 = .ok (.iload 6, 2) := by decide +kernel
theorem dX11_two_61 : decode cX11_two 61 = .ok (.iconst 2, 1) := by decide +kernel
theorem dX11_two_62 : decode cX11_two 62 = .ok (.iand, 1) := by decide +kernel
theorem dX11_two_63 : decode cX11_two 63 = .ok (.ifCond .eq 7, 3) := by decide +kernel
theorem dX11_two_66 : decode cX11_two 66 = .ok (.iconst 1, 1) := by decide +kernel
theorem dX11_two_67 : decode cX11_two 67 = .ok (.goto 4, 3) := by decide +kernel
theorem dX11_two_70 : decode cX11_two 70 = .ok (.iconst 0, 1) := by decide +kernel
theorem dX11_two_71 : decode cX11_two 71 = .ok (.istore 8, 2) := by decide +kernel
theorem dX11_two_73 : decode cX11_two 73 = .ok (.iload_n 3, 1) := by decide +kernel
theorem dX11_two_74 : decode cX11_two 74 = .ok (.iload 7, 2) := by decide +kernel
theorem dX11_two_76 : decode cX11_two 76 = .ok (.iload 8, 2) := by decide +kernel
theorem dX11_two_78 : decode cX11_two 78 = .ok (.invokestatic 206, 3) := by decide +kernel
theorem dX11_two_81 : decode cX11_two 81 = .ok (.ifCond .eq 24, 3) := by decide +kernel
theorem dX11_two_84 : decode cX11_two 84 = .ok (.iload 4, 2) := by decide +kernel
theorem dX11_two_86 : decode cX11_two 86 = .ok (.iload 8, 2) := by decide +kernel
theorem dX11_two_88 : decode cX11_two 88 = .ok (.iload 7, 2) := by decide +kernel
theorem dX11_two_90 : decode cX11_two 90 = .ok (.invokestatic 206, 3) := by decide +kernel
theorem dX11_two_93 : decode cX11_two 93 = .ok (.ifCond .eq 12, 3) := by decide +kernel
theorem dX11_two_96 : decode cX11_two 96 = .ok (.iload 5, 2) := by decide +kernel
theorem dX11_two_98 : decode cX11_two 98 = .ok (.iconst 1, 1) := by decide +kernel
theorem dX11_two_99 : decode cX11_two 99 = .ok (.iload 6, 2) := by decide +kernel
theorem dX11_two_101 : decode cX11_two 101 = .ok (.ishl, 1) := by decide +kernel
theorem dX11_two_102 : decode cX11_two 102 = .ok (.ior, 1) := by decide +kernel
theorem dX11_two_103 : decode cX11_two 103 = .ok (.istore 5, 2) := by decide +kernel
theorem dX11_two_105 : decode cX11_two 105 = .ok (.iinc 6 1, 3) := by decide +kernel
theorem dX11_two_108 : decode cX11_two 108 = .ok (.goto (-69), 3) := by decide +kernel
theorem dX11_two_111 : decode cX11_two 111 = .ok (.iload 5, 2) := by decide +kernel
theorem dX11_two_113 : decode cX11_two 113 = .ok (.ireturn, 1) := by decide +kernel
theorem dX11_winds_0 : decode cX11_winds 0 = .ok (.iload_n 1, 1) := by decide +kernel
theorem dX11_winds_1 : decode cX11_winds 1 = .ok (.iconst 0, 1) := by decide +kernel
theorem dX11_winds_2 : decode cX11_winds 2 = .ok (.sipush 999, 3) := by decide +kernel
theorem dX11_winds_5 : decode cX11_winds 5 = .ok (.invokestatic 51, 3) := by decide +kernel
theorem dX11_winds_8 : decode cX11_winds 8 = .ok (.ifCond .eq 13, 3) := by decide +kernel
theorem dX11_winds_11 : decode cX11_winds 11 = .ok (.iload_n 2, 1) := by decide +kernel
theorem dX11_winds_12 : decode cX11_winds 12 = .ok (.iconst 0, 1) := by decide +kernel
theorem dX11_winds_13 : decode cX11_winds 13 = .ok (.bipush 10, 2) := by decide +kernel
theorem dX11_winds_15 : decode cX11_winds 15 = .ok (.invokestatic 51, 3) := by decide +kernel
theorem dX11_winds_18 : decode cX11_winds 18 = .ok (.ifCond .ne 8, 3) := by decide +kernel
theorem dX11_winds_21 : decode cX11_winds 21 = .ok (.aload_n 0, 1) := by decide +kernel
theorem dX11_winds_22 : decode cX11_winds 22 = .ok (.invokevirtual 55, 3) := by decide +kernel
theorem dX11_winds_25 : decode cX11_winds 25 = .ok (.ireturn, 1) := by decide +kernel
theorem dX11_winds_26 : decode cX11_winds 26 = .ok (.iconst 0, 1) := by decide +kernel
theorem dX11_winds_27 : decode cX11_winds 27 = .ok (.istore_n 3, 1) := by decide +kernel
theorem dX11_winds_28 : decode cX11_winds 28 = .ok (.iconst 0, 1) := by decide +kernel
theorem dX11_winds_29 : decode cX11_winds 29 = .ok (.istore 4, 2) := by decide +kernel
theorem dX11_winds_31 : decode cX11_winds 31 = .ok (.iload 4, 2) := by decide +kernel
theorem dX11_winds_33 : decode cX11_winds 33 = .ok (.aload_n 0, 1) := by decide +kernel
theorem dX11_winds_34 : decode cX11_winds 34 = .ok (.getfield 10, 3) := by decide +kernel
theorem dX11_winds_37 : decode cX11_winds 37 = .ok (.invokevirtual 44, 3) := by decide +kernel
theorem dX11_winds_40 : decode cX11_winds 40 = .ok (.if_icmp .ge 48, 3) := by decide +kernel
theorem dX11_winds_43 : decode cX11_winds 43 = .ok (.aload_n 0, 1) := by decide +kernel
theorem dX11_winds_44 : decode cX11_winds 44 = .ok (.getfield 10, 3) := by decide +kernel
theorem dX11_winds_47 : decode cX11_winds 47 = .ok (.iload 4, 2) := by decide +kernel
theorem dX11_winds_49 : decode cX11_winds 49 = .ok (.invokevirtual 144, 3) := by decide +kernel
theorem dX11_winds_52 : decode cX11_winds 52 = .ok (.iload_n 1, 1) := by decide +kernel
theorem dX11_winds_53 : decode cX11_winds 53 = .ok (.if_icmp .ge 10, 3) := by decide +kernel
theorem dX11_winds_56 : decode cX11_winds 56 = .ok (.bipush 10, 2) := by decide +kernel
theorem dX11_winds_58 : decode cX11_winds 58 = .ok (.iload_n 2, 1) := by decide +kernel
theorem dX11_winds_59 : decode cX11_winds 59 = .ok (.isub, 1) := by decide +kernel
theorem dX11_winds_60 : decode cX11_winds 60 = .ok (.goto 5, 3) := by decide +kernel
theorem dX11_winds_63 : decode cX11_winds 63 = .ok (.bipush 10, 2) := by decide +kernel
theorem dX11_winds_65 : decode cX11_winds 65 = .ok (.istore 5, 2) := by decide +kernel
theorem dX11_winds_67 : decode cX11_winds 67 = .ok (.iload_n 3, 1) := by decide +kernel
theorem dX11_winds_68 : decode cX11_winds 68 = .ok (.iload 5, 2) := by decide +kernel
theorem dX11_winds_70 : decode cX11_winds 70 = .ok (.aload_n 0, 1) := by decide +kernel
theorem dX11_winds_71 : decode cX11_winds 71 = .ok (.getfield 10, 3) := by decide +kernel
theorem dX11_winds_74 : decode cX11_winds 74 = .ok (.iload 4, 2) := by decide +kernel
theorem dX11_winds_76 : decode cX11_winds 76 = .ok (.invokevirtual 113, 3) := by decide +kernel
theorem dX11_winds_79 : decode cX11_winds 79 = .ok (.imul, 1) := by decide +kernel
theorem dX11_winds_80 : decode cX11_winds 80 = .ok (.iadd, 1) := by decide +kernel
theorem dX11_winds_81 : decode cX11_winds 81 = .ok (.istore_n 3, 1) := by decide +kernel
theorem dX11_winds_82 : decode cX11_winds 82 = .ok (.iinc 4 1, 3) := by decide +kernel
theorem dX11_winds_85 : decode cX11_winds 85 = .ok (.goto (-54), 3) := by decide +kernel
theorem dX11_winds_88 : decode cX11_winds 88 = .ok (.aload_n 0, 1) := by decide +kernel
theorem dX11_winds_89 : decode cX11_winds 89 = .ok (.iload_n 3, 1) := by decide +kernel
theorem dX11_winds_90 : decode cX11_winds 90 = .ok (.i2l, 1) := by decide +kernel
theorem dX11_winds_91 : decode cX11_winds 91 = .ok (.ldc2_w 210, 3) := by decide +kernel
theorem dX11_winds_94 : decode cX11_winds 94 = .ok (.invokevirtual 212, 3) := by decide +kernel
theorem dX11_winds_97 : decode cX11_winds 97 = .ok (.iconst 1, 1) := by decide +kernel
theorem dX11_winds_98 : decode cX11_winds 98 = .ok (.ireturn, 1) := by decide +kernel
theorem dX11_years_0 : decode cX11_years 0 = .ok (.iload_n 1, 1) := by decide +kernel
theorem dX11_years_1 : decode cX11_years 1 = .ok (.iconst 0, 1) := by decide +kernel
theorem dX11_years_2 : decode cX11_years 2 = .ok (.ldc 216, 2) := by decide +kernel
theorem dX11_years_4 : decode cX11_years 4 = .ok (.invokestatic 51, 3) := by decide +kernel
theorem dX11_years_7 : decode cX11_years 7 = .ok (.ifCond .eq 13, 3) := by decide +kernel
theorem dX11_years_10 : decode cX11_years 10 = .ok (.iload_n 2, 1) := by decide +kernel
theorem dX11_years_11 : decode cX11_years 11 = .ok (.iconst 0, 1) := by decide +kernel
theorem dX11_years_12 : decode cX11_years 12 = .ok (.bipush 60, 2) := by decide +kernel
theorem dX11_years_14 : decode cX11_years 14 = .ok (.invokestatic 51, 3) := by decide +kernel
theorem dX11_years_17 : decode cX11_years 17 = .ok (.ifCond .ne 8, 3) := by decide +kernel
theorem dX11_years_20 : decode cX11_years 20 = .ok (.aload_n 0, 1) := by decide +kernel
theorem dX11_years_21 : decode cX11_years 21 = .ok (.invokevirtual 55, 3) := by decide +kernel
theorem dX11_years_24 : decode cX11_years 24 = .ok (.ireturn, 1) := by decide +kernel
theorem dX11_years_25 : decode cX11_years 25 = .ok (.aload_n 0, 1) := by decide +kernel
theorem dX11_years_26 : decode cX11_years 26 = .ok (.getfield 16, 3) := by decide +kernel
theorem dX11_years_29 : decode cX11_years 29 = .ok (.aload_n 0, 1) := by decide +kernel
theorem dX11_years_30 : decode cX11_years 30 = .ok (.getfield 10, 3) := by decide +kernel
theorem dX11_years_33 : decode cX11_years 33 = .ok (.invokevirtual 96, 3) := by decide +kernel
theorem dX11_years_36 : decode cX11_years 36 = .ok (.iload_n 1, 1) := by decide +kernel
theorem dX11_years_37 : decode cX11_years 37 = .ok (.i2l, 1) := by decide +kernel
theorem dX11_years_38 : decode cX11_years 38 = .ok (.lstore_n 3, 1) := by decide +kernel
theorem dX11_years_39 : decode cX11_years 39 = .ok (.iconst 0, 1) := by decide +kernel
theorem dX11_years_40 : decode cX11_years 40 = .ok (.istore 5, 2) := by decide +kernel
theorem dX11_years_42 : decode cX11_years 42 = .ok (.iload 5, 2) := by decide +kernel
theorem dX11_years_44 : decode cX11_years 44 = .ok (.iload_n 2, 1) := by decide +kernel
theorem dX11_years_45 : decode cX11_years 45 = .ok (.if_icmp .ge 70, 3) := by decide +kernel
theorem dX11_years_48 : decode cX11_years 48 = .ok (.lload_n 3, 1) := by decide +kernel
theorem dX11_years_49 : decode cX11_years 49 = .ok (.ldc2_w 217, 3) := by decide +kernel
theorem dX11_years_52 : decode cX11_years 52 = .ok (.lmul, 1) := by decide +kernel
theorem dX11_years_53 : decode cX11_years 53 = .ok (.ldc2_w 219, 3) := by decide +kernel
theorem dX11_years_56 : decode cX11_years 56 = .ok (.ladd, 1) := by decide +kernel
theorem dX11_years_57 : decode cX11_years 57 = .ok (.ldc2_w 221, 3) := by decide +kernel
theorem dX11_years_60 : decode cX11_years 60 = .ok (.lrem, 1) := by decide +kernel
theorem dX11_years_61 : decode cX11_years 61 = .ok (.lstore_n 3, 1) := by decide +kernel
theorem dX11_years_62 : decode cX11_years 62 = .ok (.lload_n 3, 1) := by decide +kernel
theorem dX11_years_63 : decode cX11_years 63 = .ok (.ldc2_w 223, 3) := by decide +kernel
theorem dX11_years_66 : decode cX11_years 66 = .ok (.ldiv, 1) := by decide +kernel
theorem dX11_years_67 : decode cX11_years 67 = .ok (.ldc2_w 225, 3) := by decide +kernel
theorem dX11_years_70 : decode cX11_years 70 = .ok (.lrem, 1) := by decide +kernel
theorem dX11_years_71 : decode cX11_years 71 = .ok (.l2i, 1) := by decide +kernel
theorem dX11_years_72 : decode cX11_years 72 = .ok (.istore 6, 2) := by decide +kernel
theorem dX11_years_74 : decode cX11_years 74 = .ok (.lload_n 3, 1) := by decide +kernel
theorem dX11_years_75 : decode cX11_years 75 = .ok (.ldc2_w 227, 3) := by decide +kernel
theorem dX11_years_78 : decode cX11_years 78 = .ok (.ldiv, 1) := by decide +kernel
theorem dX11_years_79 : decode cX11_years 79 = .ok (.ldc2_w 229, 3) := by decide +kernel
theorem dX11_years_82 : decode cX11_years 82 = .ok (.lrem, 1) := by decide +kernel
theorem dX11_years_83 : decode cX11_years 83 = .ok (.l2i, 1) := by decide +kernel
theorem dX11_years_84 : decode cX11_years 84 = .ok (.istore 7, 2) := by decide +kernel
theorem dX11_years_86 : decode cX11_years 86 = .ok (.iload 7, 2) := by decide +kernel
theorem dX11_years_88 : decode cX11_years 88 = .ok (.ifCond .eq 14, 3) := by decide +kernel
theorem dX11_years_91 : decode cX11_years 91 = .ok (.aload_n 0, 1) := by decide +kernel
theorem dX11_years_92 : decode cX11_years 92 = .ok (.getfield 16, 3) := by decide +kernel
theorem dX11_years_95 : decode cX11_years 95 = .ok (.iload 6, 2) := by decide +kernel
theorem dX11_years_97 : decode cX11_years 97 = .ok (.iload 7, 2) := by decide +kernel
theorem dX11_years_99 : decode cX11_years 99 = .ok (.invokevirtual 107, 3) := by decide +kernel
theorem dX11_years_102 : decode cX11_years 102 = .ok (.aload_n 0, 1) := by decide +kernel
theorem dX11_years_103 : decode cX11_years 103 = .ok (.getfield 16, 3) := by decide +kernel
theorem dX11_years_106 : decode cX11_years 106 = .ok (.invokevirtual 123, 3) := by decide +kernel
theorem dX11_years_109 : decode cX11_years 109 = .ok (.iinc 5 1, 3) := by decide +kernel
theorem dX11_years_112 : decode cX11_years 112 = .ok (.goto (-70), 3) := by decide +kernel
theorem dX11_years_115 : decode cX11_years 115 = .ok (.aload_n 0, 1) := by decide +kernel
theorem dX11_years_116 : decode cX11_years 116 = .ok (.getfield 16, 3) := by decide +kernel
theorem dX11_years_119 : decode cX11_years 119 = .ok (.invokevirtual 151, 3) := by decide +kernel
theorem dX11_years_122 : decode cX11_years 122 = .ok (.ireturn, 1) := by decide +kernel
theorem dX11_part_0 : decode cX11_part 0 = .ok (.iload_n 1, 1) := by decide +kernel
theorem dX11_part_1 : decode cX11_part 1 = .ok (.lookupswitch 37 #[(0, 27), (1, 32)], 27) := by decide +kernel
theorem dX11_part_28 : decode cX11_part 28 = .ok (.aload_n 0, 1) := by decide +kernel
theorem dX11_part_29 : decode cX11_part 29 = .ok (.getfield 37, 3) := by decide +kernel
theorem dX11_part_32 : decode cX11_part 32 = .ok (.lreturn, 1) := by decide +kernel
theorem dX11_part_33 : decode cX11_part 33 = .ok (.aload_n 0, 1) := by decide +kernel
theorem dX11_part_34 : decode cX11_part 34 = .ok (.getfield 41, 3) := by decide +kernel
theorem dX11_part_37 : decode cX11_part 37 = .ok (.lreturn, 1) := by decide +kernel
theorem dX11_part_38 : decode cX11_part 38 = .ok (.aload_n 0, 1) := by decide +kernel
theorem dX11_part_39 : decode cX11_part 39 = .ok (.invokevirtual 55, 3) := by decide +kernel
theorem dX11_part_42 : decode cX11_part 42 = .ok (.i2l, 1) := by decide +kernel
theorem dX11_part_43 : decode cX11_part 43 = .ok (.lreturn, 1) := by decide +kernel
theorem dX11_image_0 : decode cX11_image 0 = .ok (.iload_n 1, 1) := by decide +kernel
theorem dX11_image_1 : decode cX11_image 1 = .ok (.iconst 0, 1) := by decide +kernel
theorem dX11_image_2 : decode cX11_image 2 = .ok (.iconst 1, 1) := by decide +kernel
theorem dX11_image_3 : decode cX11_image 3 = .ok (.invokestatic 51, 3) := by decide +kernel
theorem dX11_image_6 : decode cX11_image 6 = .ok (.ifCond .ne 8, 3) := by decide +kernel
theorem dX11_image_9 : decode cX11_image 9 = .ok (.aload_n 0, 1) := by decide +kernel
theorem dX11_image_10 : decode cX11_image 10 = .ok (.invokevirtual 55, 3) := by decide +kernel
theorem dX11_image_13 : decode cX11_image 13 = .ok (.ireturn, 1) := by decide +kernel
theorem dX11_image_14 : decode cX11_image 14 = .ok (.aload_n 0, 1) := by decide +kernel
theorem dX11_image_15 : decode cX11_image 15 = .ok (.getfield 19, 3) := by decide +kernel
theorem dX11_image_18 : decode cX11_image 18 = .ok (.iload_n 1, 1) := by decide +kernel
theorem dX11_image_19 : decode cX11_image 19 = .ok (.aaload, 1) := by decide +kernel
theorem dX11_image_20 : decode cX11_image 20 = .ok (.ifnonnull 16, 3) := by decide +kernel
theorem dX11_image_23 : decode cX11_image 23 = .ok (.aload_n 0, 1) := by decide +kernel
theorem dX11_image_24 : decode cX11_image 24 = .ok (.getfield 19, 3) := by decide +kernel
theorem dX11_image_27 : decode cX11_image 27 = .ok (.iload_n 1, 1) := by decide +kernel
theorem dX11_image_28 : decode cX11_image 28 = .ok (.new 7, 3) := by decide +kernel
theorem dX11_image_31 : decode cX11_image 31 = .ok (.dup, 1) := by decide +kernel
theorem dX11_image_32 : decode cX11_image 32 = .ok (.invokespecial 9, 3) := by decide +kernel
theorem dX11_image_35 : decode cX11_image 35 = .ok (.aastore, 1) := by decide +kernel
theorem dX11_image_36 : decode cX11_image 36 = .ok (.aload_n 0, 1) := by decide +kernel
theorem dX11_image_37 : decode cX11_image 37 = .ok (.getfield 19, 3) := by decide +kernel
theorem dX11_image_40 : decode cX11_image 40 = .ok (.iload_n 1, 1) := by decide +kernel
theorem dX11_image_41 : decode cX11_image 41 = .ok (.aaload, 1) := by decide +kernel
theorem dX11_image_42 : decode cX11_image 42 = .ok (.aload_n 0, 1) := by decide +kernel
theorem dX11_image_43 : decode cX11_image 43 = .ok (.getfield 10, 3) := by decide +kernel
theorem dX11_image_46 : decode cX11_image 46 = .ok (.invokevirtual 96, 3) := by decide +kernel
theorem dX11_image_49 : decode cX11_image 49 = .ok (.iconst 1, 1) := by decide +kernel
theorem dX11_image_50 : decode cX11_image 50 = .ok (.ireturn, 1) := by decide +kernel
theorem dX11_from_0 : decode cX11_from 0 = .ok (.iload_n 1, 1) := by decide +kernel
theorem dX11_from_1 : decode cX11_from 1 = .ok (.iconst 0, 1) := by decide +kernel
theorem dX11_from_2 : decode cX11_from 2 = .ok (.iconst 1, 1) := by decide +kernel
theorem dX11_from_3 : decode cX11_from 3 = .ok (.invokestatic 51, 3) := by decide +kernel
theorem dX11_from_6 : decode cX11_from 6 = .ok (.ifCond .ne 8, 3) := by decide +kernel
theorem dX11_from_9 : decode cX11_from 9 = .ok (.aload_n 0, 1) := by decide +kernel
theorem dX11_from_10 : decode cX11_from 10 = .ok (.invokevirtual 55, 3) := by decide +kernel
theorem dX11_from_13 : decode cX11_from 13 = .ok (.ireturn, 1) := by decide +kernel
theorem dX11_from_14 : decode cX11_from 14 = .ok (.aload_n 0, 1) := by decide +kernel
theorem dX11_from_15 : decode cX11_from 15 = .ok (.getfield 19, 3) := by decide +kernel
theorem dX11_from_18 : decode cX11_from 18 = .ok (.iload_n 1, 1) := by decide +kernel
theorem dX11_from_19 : decode cX11_from 19 = .ok (.aaload, 1) := by decide +kernel
theorem dX11_from_20 : decode cX11_from 20 = .ok (.ifnonnull 8, 3) := by decide +kernel
theorem dX11_from_23 : decode cX11_from 23 = .ok (.aload_n 0, 1) := by decide +kernel
theorem dX11_from_24 : decode cX11_from 24 = .ok (.invokevirtual 116, 3) := by decide +kernel
theorem dX11_from_27 : decode cX11_from 27 = .ok (.ireturn, 1) := by decide +kernel
theorem dX11_from_28 : decode cX11_from 28 = .ok (.aload_n 0, 1) := by decide +kernel
theorem dX11_from_29 : decode cX11_from 29 = .ok (.getfield 10, 3) := by decide +kernel
theorem dX11_from_32 : decode cX11_from 32 = .ok (.aload_n 0, 1) := by decide +kernel
theorem dX11_from_33 : decode cX11_from 33 = .ok (.getfield 19, 3) := by decide +kernel
theorem dX11_from_36 : decode cX11_from 36 = .ok (.iload_n 1, 1) := by decide +kernel
theorem dX11_from_37 : decode cX11_from 37 = .ok (.aaload, 1) := by decide +kernel
theorem dX11_from_38 : decode cX11_from 38 = .ok (.invokevirtual 96, 3) := by decide +kernel
theorem dX11_from_41 : decode cX11_from 41 = .ok (.iconst 1, 1) := by decide +kernel
theorem dX11_from_42 : decode cX11_from 42 = .ok (.ireturn, 1) := by decide +kernel
theorem dX11_status_0 : decode cX11_status 0 = .ok (.iload_n 1, 1) := by decide +kernel
theorem dX11_status_1 : decode cX11_status 1 = .ok (.tableswitch 42 0 2 #[27, 32, 37], 27) := by decide +kernel
theorem dX11_status_28 : decode cX11_status 28 = .ok (.aload_n 0, 1) := by decide +kernel
theorem dX11_status_29 : decode cX11_status 29 = .ok (.getfield 231, 3) := by decide +kernel
theorem dX11_status_32 : decode cX11_status 32 = .ok (.ireturn, 1) := by decide +kernel
theorem dX11_status_33 : decode cX11_status 33 = .ok (.aload_n 0, 1) := by decide +kernel
theorem dX11_status_34 : decode cX11_status 34 = .ok (.getfield 235, 3) := by decide +kernel
theorem dX11_status_37 : decode cX11_status 37 = .ok (.ireturn, 1) := by decide +kernel
theorem dX11_status_38 : decode cX11_status 38 = .ok (.aload_n 0, 1) := by decide +kernel
theorem dX11_status_39 : decode cX11_status 39 = .ok (.getfield 238, 3) := by decide +kernel
theorem dX11_status_42 : decode cX11_status 42 = .ok (.ireturn, 1) := by decide +kernel
theorem dX11_status_43 : decode cX11_status 43 = .ok (.aload_n 0, 1) := by decide +kernel
theorem dX11_status_44 : decode cX11_status 44 = .ok (.invokevirtual 55, 3) := by decide +kernel
theorem dX11_status_47 : decode cX11_status 47 = .ok (.pop, 1) := by decide +kernel
theorem dX11_status_48 : decode cX11_status 48 = .ok (.iconst (-1), 1) := by decide +kernel
theorem dX11_status_49 : decode cX11_status 49 = .ok (.ireturn, 1) := by decide +kernel
theorem dX11_count_0 : decode cX11_count 0 = .ok (.iload_n 1, 1) := by decide +kernel
theorem dX11_count_1 : decode cX11_count 1 = .ok (.iconst 0, 1) := by decide +kernel
theorem dX11_count_2 : decode cX11_count 2 = .ok (.bipush 6, 2) := by decide +kernel
theorem dX11_count_4 : decode cX11_count 4 = .ok (.invokestatic 51, 3) := by decide +kernel
theorem dX11_count_7 : decode cX11_count 7 = .ok (.ifCond .eq 11, 3) := by decide +kernel
theorem dX11_count_10 : decode cX11_count 10 = .ok (.aload_n 0, 1) := by decide +kernel
theorem dX11_count_11 : decode cX11_count 11 = .ok (.iload_n 1, 1) := by decide +kernel
theorem dX11_count_12 : decode cX11_count 12 = .ok (.invokevirtual 241, 3) := by decide +kernel
theorem dX11_count_15 : decode cX11_count 15 = .ok (.goto 7, 3) := by decide +kernel
theorem dX11_count_18 : decode cX11_count 18 = .ok (.aload_n 0, 1) := by decide +kernel
theorem dX11_count_19 : decode cX11_count 19 = .ok (.invokevirtual 55, 3) := by decide +kernel
theorem dX11_count_22 : decode cX11_count 22 = .ok (.ireturn, 1) := by decide +kernel
theorem dX11_digest_0 : decode cX11_digest 0 = .ok (.ldc2_w 244, 3) := by decide +kernel
theorem dX11_digest_3 : decode cX11_digest 3 = .ok (.lstore_n 1, 1) := by decide +kernel
theorem dX11_digest_4 : decode cX11_digest 4 = .ok (.iconst 0, 1) := by decide +kernel
theorem dX11_digest_5 : decode cX11_digest 5 = .ok (.istore_n 3, 1) := by decide +kernel
theorem dX11_digest_6 : decode cX11_digest 6 = .ok (.iload_n 3, 1) := by decide +kernel
theorem dX11_digest_7 : decode cX11_digest 7 = .ok (.bipush 7, 2) := by decide +kernel
theorem dX11_digest_9 : decode cX11_digest 9 = .ok (.if_icmp .ge 22, 3) := by decide +kernel
theorem dX11_digest_12 : decode cX11_digest 12 = .ok (.ldc2_w 246, 3) := by decide +kernel
theorem dX11_digest_15 : decode cX11_digest 15 = .ok (.lload_n 1, 1) := by decide +kernel
theorem dX11_digest_16 : decode cX11_digest 16 = .ok (.lmul, 1) := by decide +kernel
theorem dX11_digest_17 : decode cX11_digest 17 = .ok (.aload_n 0, 1) := by decide +kernel
theorem dX11_digest_18 : decode cX11_digest 18 = .ok (.iload_n 3, 1) := by decide +kernel
theorem dX11_digest_19 : decode cX11_digest 19 = .ok (.invokevirtual 241, 3) := by decide +kernel
theorem dX11_digest_22 : decode cX11_digest 22 = .ok (.i2l, 1) := by decide +kernel
theorem dX11_digest_23 : decode cX11_digest 23 = .ok (.ladd, 1) := by decide +kernel
theorem dX11_digest_24 : decode cX11_digest 24 = .ok (.lstore_n 1, 1) := by decide +kernel
theorem dX11_digest_25 : decode cX11_digest 25 = .ok (.iinc 3 1, 3) := by decide +kernel
theorem dX11_digest_28 : decode cX11_digest 28 = .ok (.goto (-22), 3) := by decide +kernel
theorem dX11_digest_31 : decode cX11_digest 31 = .ok (.aload_n 0, 1) := by decide +kernel
theorem dX11_digest_32 : decode cX11_digest 32 = .ok (.getfield 10, 3) := by decide +kernel
theorem dX11_digest_35 : decode cX11_digest 35 = .ok (.lload_n 1, 1) := by decide +kernel
theorem dX11_digest_36 : decode cX11_digest 36 = .ok (.invokevirtual 248, 3) := by decide +kernel
theorem dX11_digest_39 : decode cX11_digest 39 = .ok (.lstore_n 1, 1) := by decide +kernel
theorem dX11_digest_40 : decode cX11_digest 40 = .ok (.ldc2_w 246, 3) := by decide +kernel
theorem dX11_digest_43 : decode cX11_digest 43 = .ok (.lload_n 1, 1) := by decide +kernel
theorem dX11_digest_44 : decode cX11_digest 44 = .ok (.lmul, 1) := by decide +kernel
theorem dX11_digest_45 : decode cX11_digest 45 = .ok (.aload_n 0, 1) := by decide +kernel
theorem dX11_digest_46 : decode cX11_digest 46 = .ok (.getfield 37, 3) := by decide +kernel
theorem dX11_digest_49 : decode cX11_digest 49 = .ok (.ladd, 1) := by decide +kernel
theorem dX11_digest_50 : decode cX11_digest 50 = .ok (.lstore_n 1, 1) := by decide +kernel
theorem dX11_digest_51 : decode cX11_digest 51 = .ok (.ldc2_w 246, 3) := by decide +kernel
theorem dX11_digest_54 : decode cX11_digest 54 = .ok (.lload_n 1, 1) := by decide +kernel
theorem dX11_digest_55 : decode cX11_digest 55 = .ok (.lmul, 1) := by decide +kernel
theorem dX11_digest_56 : decode cX11_digest 56 = .ok (.aload_n 0, 1) := by decide +kernel
theorem dX11_digest_57 : decode cX11_digest 57 = .ok (.getfield 41, 3) := by decide +kernel
theorem dX11_digest_60 : decode cX11_digest 60 = .ok (.ladd, 1) := by decide +kernel
theorem dX11_digest_61 : decode cX11_digest 61 = .ok (.lreturn, 1) := by decide +kernel
theorem dX11_within_0 : decode cX11_within 0 = .ok (.iload_n 0, 1) := by decide +kernel
theorem dX11_within_1 : decode cX11_within 1 = .ok (.iload_n 1, 1) := by decide +kernel
theorem dX11_within_2 : decode cX11_within 2 = .ok (.if_icmp .lt 12, 3) := by decide +kernel
theorem dX11_within_5 : decode cX11_within 5 = .ok (.iload_n 0, 1) := by decide +kernel
theorem dX11_within_6 : decode cX11_within 6 = .ok (.iload_n 2, 1) := by decide +kernel
theorem dX11_within_7 : decode cX11_within 7 = .ok (.if_icmp .gt 7, 3) := by decide +kernel
theorem dX11_within_10 : decode cX11_within 10 = .ok (.iconst 1, 1) := by decide +kernel
theorem dX11_within_11 : decode cX11_within 11 = .ok (.goto 4, 3) := by decide +kernel
theorem dX11_within_14 : decode cX11_within 14 = .ok (.iconst 0, 1) := by decide +kernel
theorem dX11_within_15 : decode cX11_within 15 = .ok (.ireturn, 1) := by decide +kernel
theorem dX11_twoOfThem_0 : decode cX11_twoOfThem 0 = .ok (.aload_n 0, 1) := by decide +kernel
theorem dX11_twoOfThem_1 : decode cX11_twoOfThem 1 = .ok (.getfield 10, 3) := by decide +kernel
theorem dX11_twoOfThem_4 : decode cX11_twoOfThem 4 = .ok (.iload_n 1, 1) := by decide +kernel
theorem dX11_twoOfThem_5 : decode cX11_twoOfThem 5 = .ok (.invokevirtual 100, 3) := by decide +kernel
theorem dX11_twoOfThem_8 : decode cX11_twoOfThem 8 = .ok (.ifCond .eq 23, 3) := by decide +kernel
theorem dX11_twoOfThem_11 : decode cX11_twoOfThem 11 = .ok (.aload_n 0, 1) := by decide +kernel
theorem dX11_twoOfThem_12 : decode cX11_twoOfThem 12 = .ok (.getfield 10, 3) := by decide +kernel
theorem dX11_twoOfThem_15 : decode cX11_twoOfThem 15 = .ok (.iload_n 2, 1) := by decide +kernel
theorem dX11_twoOfThem_16 : decode cX11_twoOfThem 16 = .ok (.invokevirtual 100, 3) := by decide +kernel
theorem dX11_twoOfThem_19 : decode cX11_twoOfThem 19 = .ok (.ifCond .eq 12, 3) := by decide +kernel
theorem dX11_twoOfThem_22 : decode cX11_twoOfThem 22 = .ok (.iload_n 1, 1) := by decide +kernel
theorem dX11_twoOfThem_23 : decode cX11_twoOfThem 23 = .ok (.iload_n 2, 1) := by decide +kernel
theorem dX11_twoOfThem_24 : decode cX11_twoOfThem 24 = .ok (.if_icmp .eq 7, 3) := by decide +kernel
theorem dX11_twoOfThem_27 : decode cX11_twoOfThem 27 = .ok (.iconst 1, 1) := by decide +kernel
theorem dX11_twoOfThem_28 : decode cX11_twoOfThem 28 = .ok (.goto 4, 3) := by decide +kernel
theorem dX11_twoOfThem_31 : decode cX11_twoOfThem 31 = .ok (.iconst 0, 1) := by decide +kernel
theorem dX11_twoOfThem_32 : decode cX11_twoOfThem 32 = .ok (.ireturn, 1) := by decide +kernel
theorem dX11_refuseBad_0 : decode cX11_refuseBad 0 = .ok (.aload_n 0, 1) := by decide +kernel
theorem dX11_refuseBad_1 : decode cX11_refuseBad 1 = .ok (.dup, 1) := by decide +kernel
theorem dX11_refuseBad_2 : decode cX11_refuseBad 2 = .ok (.getfield 231, 3) := by decide +kernel
theorem dX11_refuseBad_5 : decode cX11_refuseBad 5 = .ok (.iconst 1, 1) := by decide +kernel
theorem dX11_refuseBad_6 : decode cX11_refuseBad 6 = .ok (.iadd, 1) := by decide +kernel
theorem dX11_refuseBad_7 : decode cX11_refuseBad 7 = .ok (.putfield 231, 3) := by decide +kernel
theorem dX11_refuseBad_10 : decode cX11_refuseBad 10 = .ok (.bipush (-2), 2) := by decide +kernel
theorem dX11_refuseBad_12 : decode cX11_refuseBad 12 = .ok (.ireturn, 1) := by decide +kernel
theorem dX11_refuseNo_0 : decode cX11_refuseNo 0 = .ok (.aload_n 0, 1) := by decide +kernel
theorem dX11_refuseNo_1 : decode cX11_refuseNo 1 = .ok (.dup, 1) := by decide +kernel
theorem dX11_refuseNo_2 : decode cX11_refuseNo 2 = .ok (.getfield 235, 3) := by decide +kernel
theorem dX11_refuseNo_5 : decode cX11_refuseNo 5 = .ok (.iconst 1, 1) := by decide +kernel
theorem dX11_refuseNo_6 : decode cX11_refuseNo 6 = .ok (.iadd, 1) := by decide +kernel
theorem dX11_refuseNo_7 : decode cX11_refuseNo 7 = .ok (.putfield 235, 3) := by decide +kernel
theorem dX11_refuseNo_10 : decode cX11_refuseNo 10 = .ok (.bipush (-3), 2) := by decide +kernel
theorem dX11_refuseNo_12 : decode cX11_refuseNo 12 = .ok (.ireturn, 1) := by decide +kernel
theorem dX11_refuseFull_0 : decode cX11_refuseFull 0 = .ok (.aload_n 0, 1) := by decide +kernel
theorem dX11_refuseFull_1 : decode cX11_refuseFull 1 = .ok (.dup, 1) := by decide +kernel
theorem dX11_refuseFull_2 : decode cX11_refuseFull 2 = .ok (.getfield 238, 3) := by decide +kernel
theorem dX11_refuseFull_5 : decode cX11_refuseFull 5 = .ok (.iconst 1, 1) := by decide +kernel
theorem dX11_refuseFull_6 : decode cX11_refuseFull 6 = .ok (.iadd, 1) := by decide +kernel
theorem dX11_refuseFull_7 : decode cX11_refuseFull 7 = .ok (.putfield 238, 3) := by decide +kernel
theorem dX11_refuseFull_10 : decode cX11_refuseFull 10 = .ok (.bipush (-4), 2) := by decide +kernel
theorem dX11_refuseFull_12 : decode cX11_refuseFull 12 = .ok (.ireturn, 1) := by decide +kernel
theorem dX11_counted_0 : decode cX11_counted 0 = .ok (.iload_n 1, 1) := by decide +kernel
theorem dX11_counted_1 : decode cX11_counted 1 = .ok (.tableswitch 90 0 5 #[39, 47, 55, 63, 71, 82], 39) := by decide +kernel
theorem dX11_counted_40 : decode cX11_counted 40 = .ok (.aload_n 0, 1) := by decide +kernel
theorem dX11_counted_41 : decode cX11_counted 41 = .ok (.getfield 10, 3) := by decide +kernel
theorem dX11_counted_44 : decode cX11_counted 44 = .ok (.invokevirtual 44, 3) := by decide +kernel
theorem dX11_counted_47 : decode cX11_counted 47 = .ok (.ireturn, 1) := by decide +kernel
theorem dX11_counted_48 : decode cX11_counted 48 = .ok (.aload_n 0, 1) := by decide +kernel
theorem dX11_counted_49 : decode cX11_counted 49 = .ok (.getfield 10, 3) := by decide +kernel
theorem dX11_counted_52 : decode cX11_counted 52 = .ok (.invokevirtual 126, 3) := by decide +kernel
theorem dX11_counted_55 : decode cX11_counted 55 = .ok (.ireturn, 1) := by decide +kernel
theorem dX11_counted_56 : decode cX11_counted 56 = .ok (.aload_n 0, 1) := by decide +kernel
theorem dX11_counted_57 : decode cX11_counted 57 = .ok (.getfield 10, 3) := by decide +kernel
theorem dX11_counted_60 : decode cX11_counted 60 = .ok (.invokevirtual 252, 3) := by decide +kernel
theorem dX11_counted_63 : decode cX11_counted 63 = .ok (.ireturn, 1) := by decide +kernel
theorem dX11_counted_64 : decode cX11_counted 64 = .ok (.aload_n 0, 1) := by decide +kernel
theorem dX11_counted_65 : decode cX11_counted 65 = .ok (.getfield 10, 3) := by decide +kernel
theorem dX11_counted_68 : decode cX11_counted 68 = .ok (.invokevirtual 255, 3) := by decide +kernel
theorem dX11_counted_71 : decode cX11_counted 71 = .ok (.ireturn, 1) := by decide +kernel
theorem dX11_counted_72 : decode cX11_counted 72 = .ok (.aload_n 0, 1) := by decide +kernel
theorem dX11_counted_73 : decode cX11_counted 73 = .ok (.getfield 10, 3) := by decide +kernel
theorem dX11_counted_76 : decode cX11_counted 76 = .ok (.invokevirtual 180, 3) := by decide +kernel
theorem dX11_counted_79 : decode cX11_counted 79 = .ok (.invokevirtual 184, 3) := by decide +kernel
theorem dX11_counted_82 : decode cX11_counted 82 = .ok (.ireturn, 1) := by decide +kernel
theorem dX11_counted_83 : decode cX11_counted 83 = .ok (.aload_n 0, 1) := by decide +kernel
theorem dX11_counted_84 : decode cX11_counted 84 = .ok (.getfield 10, 3) := by decide +kernel
theorem dX11_counted_87 : decode cX11_counted 87 = .ok (.invokevirtual 129, 3) := by decide +kernel
theorem dX11_counted_90 : decode cX11_counted 90 = .ok (.ireturn, 1) := by decide +kernel
theorem dX11_counted_91 : decode cX11_counted 91 = .ok (.aload_n 0, 1) := by decide +kernel
theorem dX11_counted_92 : decode cX11_counted 92 = .ok (.getfield 26, 3) := by decide +kernel
theorem dX11_counted_95 : decode cX11_counted 95 = .ok (.invokevirtual 80, 3) := by decide +kernel
theorem dX11_counted_98 : decode cX11_counted 98 = .ok (.ireturn, 1) := by decide +kernel
theorem dX11_isContent_0 : decode cX11_isContent 0 = .ok (.iload_n 2, 1) := by decide +kernel
theorem dX11_isContent_1 : decode cX11_isContent 1 = .ok (.ifCond .eq 7, 3) := by decide +kernel
theorem dX11_isContent_4 : decode cX11_isContent 4 = .ok (.iconst 1, 1) := by decide +kernel
theorem dX11_isContent_5 : decode cX11_isContent 5 = .ok (.goto 4, 3) := by decide +kernel
theorem dX11_isContent_8 : decode cX11_isContent 8 = .ok (.iconst 3, 1) := by decide +kernel
theorem dX11_isContent_9 : decode cX11_isContent 9 = .ok (.istore_n 3, 1) := by decide +kernel
theorem dX11_isContent_10 : decode cX11_isContent 10 = .ok (.iload_n 1, 1) := by decide +kernel
theorem dX11_isContent_11 : decode cX11_isContent 11 = .ok (.ifCond .eq 16, 3) := by decide +kernel
theorem dX11_isContent_14 : decode cX11_isContent 14 = .ok (.iload_n 3, 1) := by decide +kernel
theorem dX11_isContent_15 : decode cX11_isContent 15 = .ok (.iload_n 0, 1) := by decide +kernel
theorem dX11_isContent_16 : decode cX11_isContent 16 = .ok (.if_icmp .lt 7, 3) := by decide +kernel
theorem dX11_isContent_19 : decode cX11_isContent 19 = .ok (.iconst 1, 1) := by decide +kernel
theorem dX11_isContent_20 : decode cX11_isContent 20 = .ok (.goto 17, 3) := by decide +kernel
theorem dX11_isContent_23 : decode cX11_isContent 23 = .ok (.iconst 0, 1) := by decide +kernel
theorem dX11_isContent_24 : decode cX11_isContent 24 = .ok (.goto 13, 3) := by decide +kernel
theorem dX11_isContent_27 : decode cX11_isContent 27 = .ok (.iload_n 0, 1) := by decide +kernel
theorem dX11_isContent_28 : decode cX11_isContent 28 = .ok (.iload_n 3, 1) := by decide +kernel
theorem dX11_isContent_29 : decode cX11_isContent 29 = .ok (.if_icmp .lt 7, 3) := by decide +kernel
theorem dX11_isContent_32 : decode cX11_isContent 32 = .ok (.iconst 1, 1) := by decide +kernel
theorem dX11_isContent_33 : decode cX11_isContent 33 = .ok (.goto 4, 3) := by decide +kernel
theorem dX11_isContent_36 : decode cX11_isContent 36 = .ok (.iconst 0, 1) := by decide +kernel
theorem dX11_isContent_37 : decode cX11_isContent 37 = .ok (.ireturn, 1) := by decide +kernel
theorem dX11_keepFraction_0 : decode cX11_keepFraction 0 = .ok (.lload_n 1, 1) := by decide +kernel
theorem dX11_keepFraction_1 : decode cX11_keepFraction 1 = .ok (.lstore 5, 2) := by decide +kernel
theorem dX11_keepFraction_3 : decode cX11_keepFraction 3 = .ok (.lload_n 3, 1) := by decide +kernel
theorem dX11_keepFraction_4 : decode cX11_keepFraction 4 = .ok (.lstore 7, 2) := by decide +kernel
theorem dX11_keepFraction_6 : decode cX11_keepFraction 6 = .ok (.iconst 0, 1) := by decide +kernel
theorem dX11_keepFraction_7 : decode cX11_keepFraction 7 = .ok (.istore 9, 2) := by decide +kernel
theorem dX11_keepFraction_9 : decode cX11_keepFraction 9 = .ok (.iload 9, 2) := by decide +kernel
theorem dX11_keepFraction_11 : decode cX11_keepFraction 11 = .ok (.bipush 100, 2) := by decide +kernel
theorem dX11_keepFraction_13 : decode cX11_keepFraction 13 = .ok (.if_icmp .ge 31, 3) := by decide +kernel
theorem dX11_keepFraction_16 : decode cX11_keepFraction 16 = .ok (.lload 7, 2) := by decide +kernel
theorem dX11_keepFraction_18 : decode cX11_keepFraction 18 = .ok (.lconst 0, 1) := by decide +kernel
theorem dX11_keepFraction_19 : decode cX11_keepFraction 19 = .ok (.lcmp, 1) := by decide +kernel
theorem dX11_keepFraction_20 : decode cX11_keepFraction 20 = .ok (.ifCond .eq 24, 3) := by decide +kernel
theorem dX11_keepFraction_23 : decode cX11_keepFraction 23 = .ok (.lload 5, 2) := by decide +kernel
theorem dX11_keepFraction_25 : decode cX11_keepFraction 25 = .ok (.lload 7, 2) := by decide +kernel
theorem dX11_keepFraction_27 : decode cX11_keepFraction 27 = .ok (.lrem, 1) := by decide +kernel
theorem dX11_keepFraction_28 : decode cX11_keepFraction 28 = .ok (.lstore 10, 2) := by decide +kernel
theorem dX11_keepFraction_30 : decode cX11_keepFraction 30 = .ok (.lload 7, 2) := by decide +kernel
theorem dX11_keepFraction_32 : decode cX11_keepFraction 32 = .ok (.lstore 5, 2) := by decide +kernel
theorem dX11_keepFraction_34 : decode cX11_keepFraction 34 = .ok (.lload 10, 2) := by decide +kernel
theorem dX11_keepFraction_36 : decode cX11_keepFraction 36 = .ok (.lstore 7, 2) := by decide +kernel
theorem dX11_keepFraction_38 : decode cX11_keepFraction 38 = .ok (.iinc 9 1, 3) := by decide +kernel
theorem dX11_keepFraction_41 : decode cX11_keepFraction 41 = .ok (.goto (-32), 3) := by decide +kernel
theorem dX11_keepFraction_44 : decode cX11_keepFraction 44 = .ok (.lload 5, 2) := by decide +kernel
theorem dX11_keepFraction_46 : decode cX11_keepFraction 46 = .ok (.lconst 0, 1) := by decide +kernel
theorem dX11_keepFraction_47 : decode cX11_keepFraction 47 = .ok (.lcmp, 1) := by decide +kernel
theorem dX11_keepFraction_48 : decode cX11_keepFraction 48 = .ok (.ifCond .le 19, 3) := by decide +kernel
theorem dX11_keepFraction_51 : decode cX11_keepFraction 51 = .ok (.aload_n 0, 1) := by decide +kernel
theorem dX11_keepFraction_52 : decode cX11_keepFraction 52 = .ok (.lload_n 1, 1) := by decide +kernel
theorem dX11_keepFraction_53 : decode cX11_keepFraction 53 = .ok (.lload 5, 2) := by decide +kernel
theorem dX11_keepFraction_55 : decode cX11_keepFraction 55 = .ok (.ldiv, 1) := by decide +kernel
theorem dX11_keepFraction_56 : decode cX11_keepFraction 56 = .ok (.putfield 37, 3) := by decide +kernel
theorem dX11_keepFraction_59 : decode cX11_keepFraction 59 = .ok (.aload_n 0, 1) := by decide +kernel
theorem dX11_keepFraction_60 : decode cX11_keepFraction 60 = .ok (.lload_n 3, 1) := by decide +kernel
theorem dX11_keepFraction_61 : decode cX11_keepFraction 61 = .ok (.lload 5, 2) := by decide +kernel
theorem dX11_keepFraction_63 : decode cX11_keepFraction 63 = .ok (.ldiv, 1) := by decide +kernel
theorem dX11_keepFraction_64 : decode cX11_keepFraction 64 = .ok (.putfield 41, 3) := by decide +kernel
theorem dX11_keepFraction_67 : decode cX11_keepFraction 67 = .ok (.return_, 1) := by decide +kernel
theorem dJ6_bitCount_0f7a4_0 : decode cJ6_bitCount_0f7a4 0 = .ok (.iload_n 0, 1) := by decide +kernel
theorem dJ6_bitCount_0f7a4_1 : decode cJ6_bitCount_0f7a4 1 = .ok (.iload_n 0, 1) := by decide +kernel
theorem dJ6_bitCount_0f7a4_2 : decode cJ6_bitCount_0f7a4 2 = .ok (.iconst 1, 1) := by decide +kernel
theorem dJ6_bitCount_0f7a4_3 : decode cJ6_bitCount_0f7a4 3 = .ok (.iushr, 1) := by decide +kernel
theorem dJ6_bitCount_0f7a4_4 : decode cJ6_bitCount_0f7a4 4 = .ok (.ldc_w 265, 3) := by decide +kernel
theorem dJ6_bitCount_0f7a4_7 : decode cJ6_bitCount_0f7a4 7 = .ok (.iand, 1) := by decide +kernel
theorem dJ6_bitCount_0f7a4_8 : decode cJ6_bitCount_0f7a4 8 = .ok (.isub, 1) := by decide +kernel
theorem dJ6_bitCount_0f7a4_9 : decode cJ6_bitCount_0f7a4 9 = .ok (.istore_n 0, 1) := by decide +kernel
theorem dJ6_bitCount_0f7a4_10 : decode cJ6_bitCount_0f7a4 10 = .ok (.iload_n 0, 1) := by decide +kernel
theorem dJ6_bitCount_0f7a4_11 : decode cJ6_bitCount_0f7a4 11 = .ok (.ldc_w 266, 3) := by decide +kernel
theorem dJ6_bitCount_0f7a4_14 : decode cJ6_bitCount_0f7a4 14 = .ok (.iand, 1) := by decide +kernel
theorem dJ6_bitCount_0f7a4_15 : decode cJ6_bitCount_0f7a4 15 = .ok (.iload_n 0, 1) := by decide +kernel
theorem dJ6_bitCount_0f7a4_16 : decode cJ6_bitCount_0f7a4 16 = .ok (.iconst 2, 1) := by decide +kernel
theorem dJ6_bitCount_0f7a4_17 : decode cJ6_bitCount_0f7a4 17 = .ok (.iushr, 1) := by decide +kernel
theorem dJ6_bitCount_0f7a4_18 : decode cJ6_bitCount_0f7a4 18 = .ok (.ldc_w 266, 3) := by decide +kernel
theorem dJ6_bitCount_0f7a4_21 : decode cJ6_bitCount_0f7a4 21 = .ok (.iand, 1) := by decide +kernel
theorem dJ6_bitCount_0f7a4_22 : decode cJ6_bitCount_0f7a4 22 = .ok (.iadd, 1) := by decide +kernel
theorem dJ6_bitCount_0f7a4_23 : decode cJ6_bitCount_0f7a4 23 = .ok (.istore_n 0, 1) := by decide +kernel
theorem dJ6_bitCount_0f7a4_24 : decode cJ6_bitCount_0f7a4 24 = .ok (.iload_n 0, 1) := by decide +kernel
theorem dJ6_bitCount_0f7a4_25 : decode cJ6_bitCount_0f7a4 25 = .ok (.iload_n 0, 1) := by decide +kernel
theorem dJ6_bitCount_0f7a4_26 : decode cJ6_bitCount_0f7a4 26 = .ok (.iconst 4, 1) := by decide +kernel
theorem dJ6_bitCount_0f7a4_27 : decode cJ6_bitCount_0f7a4 27 = .ok (.iushr, 1) := by decide +kernel
theorem dJ6_bitCount_0f7a4_28 : decode cJ6_bitCount_0f7a4 28 = .ok (.iadd, 1) := by decide +kernel
theorem dJ6_bitCount_0f7a4_29 : decode cJ6_bitCount_0f7a4 29 = .ok (.ldc_w 267, 3) := by decide +kernel
theorem dJ6_bitCount_0f7a4_32 : decode cJ6_bitCount_0f7a4 32 = .ok (.iand, 1) := by decide +kernel
theorem dJ6_bitCount_0f7a4_33 : decode cJ6_bitCount_0f7a4 33 = .ok (.istore_n 0, 1) := by decide +kernel
theorem dJ6_bitCount_0f7a4_34 : decode cJ6_bitCount_0f7a4 34 = .ok (.iload_n 0, 1) := by decide +kernel
theorem dJ6_bitCount_0f7a4_35 : decode cJ6_bitCount_0f7a4 35 = .ok (.iload_n 0, 1) := by decide +kernel
theorem dJ6_bitCount_0f7a4_36 : decode cJ6_bitCount_0f7a4 36 = .ok (.bipush 8, 2) := by decide +kernel
theorem dJ6_bitCount_0f7a4_38 : decode cJ6_bitCount_0f7a4 38 = .ok (.iushr, 1) := by decide +kernel
theorem dJ6_bitCount_0f7a4_39 : decode cJ6_bitCount_0f7a4 39 = .ok (.iadd, 1) := by decide +kernel
theorem dJ6_bitCount_0f7a4_40 : decode cJ6_bitCount_0f7a4 40 = .ok (.istore_n 0, 1) := by decide +kernel
theorem dJ6_bitCount_0f7a4_41 : decode cJ6_bitCount_0f7a4 41 = .ok (.iload_n 0, 1) := by decide +kernel
theorem dJ6_bitCount_0f7a4_42 : decode cJ6_bitCount_0f7a4 42 = .ok (.iload_n 0, 1) := by decide +kernel
theorem dJ6_bitCount_0f7a4_43 : decode cJ6_bitCount_0f7a4 43 = .ok (.bipush 16, 2) := by decide +kernel
theorem dJ6_bitCount_0f7a4_45 : decode cJ6_bitCount_0f7a4 45 = .ok (.iushr, 1) := by decide +kernel
theorem dJ6_bitCount_0f7a4_46 : decode cJ6_bitCount_0f7a4 46 = .ok (.iadd, 1) := by decide +kernel
theorem dJ6_bitCount_0f7a4_47 : decode cJ6_bitCount_0f7a4 47 = .ok (.istore_n 0, 1) := by decide +kernel
theorem dJ6_bitCount_0f7a4_48 : decode cJ6_bitCount_0f7a4 48 = .ok (.iload_n 0, 1) := by decide +kernel
theorem dJ6_bitCount_0f7a4_49 : decode cJ6_bitCount_0f7a4 49 = .ok (.bipush 63, 2) := by decide +kernel
theorem dJ6_bitCount_0f7a4_51 : decode cJ6_bitCount_0f7a4 51 = .ok (.iand, 1) := by decide +kernel
theorem dJ6_bitCount_0f7a4_52 : decode cJ6_bitCount_0f7a4 52 = .ok (.ireturn, 1) := by decide +kernel
theorem dJ9_max_7cf53_0 : decode cJ9_max_7cf53 0 = .ok (.iload_n 0, 1) := by decide +kernel
theorem dJ9_max_7cf53_1 : decode cJ9_max_7cf53 1 = .ok (.iload_n 1, 1) := by decide +kernel
theorem dJ9_max_7cf53_2 : decode cJ9_max_7cf53 2 = .ok (.if_icmp .lt 7, 3) := by decide +kernel
theorem dJ9_max_7cf53_5 : decode cJ9_max_7cf53 5 = .ok (.iload_n 0, 1) := by decide +kernel
theorem dJ9_max_7cf53_6 : decode cJ9_max_7cf53 6 = .ok (.goto 4, 3) := by decide +kernel
theorem dJ9_max_7cf53_9 : decode cJ9_max_7cf53 9 = .ok (.iload_n 1, 1) := by decide +kernel
theorem dJ9_max_7cf53_10 : decode cJ9_max_7cf53 10 = .ok (.ireturn, 1) := by decide +kernel
theorem dJ9_min_7cf53_0 : decode cJ9_min_7cf53 0 = .ok (.iload_n 0, 1) := by decide +kernel
theorem dJ9_min_7cf53_1 : decode cJ9_min_7cf53 1 = .ok (.iload_n 1, 1) := by decide +kernel
theorem dJ9_min_7cf53_2 : decode cJ9_min_7cf53 2 = .ok (.if_icmp .gt 7, 3) := by decide +kernel
theorem dJ9_min_7cf53_5 : decode cJ9_min_7cf53 5 = .ok (.iload_n 0, 1) := by decide +kernel
theorem dJ9_min_7cf53_6 : decode cJ9_min_7cf53 6 = .ok (.goto 4, 3) := by decide +kernel
theorem dJ9_min_7cf53_9 : decode cJ9_min_7cf53 9 = .ok (.iload_n 1, 1) := by decide +kernel
theorem dJ9_min_7cf53_10 : decode cJ9_min_7cf53 10 = .ok (.ireturn, 1) := by decide +kernel
theorem dJ0_length_8abf5_0 : decode cJ0_length_8abf5 0 = .ok (.aload_n 0, 1) := by decide +kernel
theorem dJ0_length_8abf5_1 : decode cJ0_length_8abf5 1 = .ok (.getfield 9, 3) := by decide +kernel
theorem dJ0_length_8abf5_4 : decode cJ0_length_8abf5 4 = .ok (.arraylength, 1) := by decide +kernel
theorem dJ0_length_8abf5_5 : decode cJ0_length_8abf5 5 = .ok (.aload_n 0, 1) := by decide +kernel
theorem dJ0_length_8abf5_6 : decode cJ0_length_8abf5 6 = .ok (.invokevirtual 335, 3) := by decide +kernel
theorem dJ0_length_8abf5_9 : decode cJ0_length_8abf5 9 = .ok (.ishr, 1) := by decide +kernel
theorem dJ0_length_8abf5_10 : decode cJ0_length_8abf5 10 = .ok (.ireturn, 1) := by decide +kernel
theorem dJ0_charAt_5068e_0 : decode cJ0_charAt_5068e 0 = .ok (.aload_n 0, 1) := by decide +kernel
theorem dJ0_charAt_5068e_1 : decode cJ0_charAt_5068e 1 = .ok (.invokevirtual 492, 3) := by decide +kernel
theorem dJ0_charAt_5068e_4 : decode cJ0_charAt_5068e 4 = .ok (.ifCond .eq 12, 3) := by decide +kernel
theorem dJ0_charAt_5068e_7 : decode cJ0_charAt_5068e 7 = .ok (.aload_n 0, 1) := by decide +kernel
theorem dJ0_charAt_5068e_8 : decode cJ0_charAt_5068e 8 = .ok (.getfield 9, 3) := by decide +kernel
theorem dJ0_charAt_5068e_11 : decode cJ0_charAt_5068e 11 = .ok (.iload_n 1, 1) := by decide +kernel
theorem dJ0_charAt_5068e_12 : decode cJ0_charAt_5068e 12 = .ok (.invokestatic 495, 3) := by decide +kernel
theorem dJ0_charAt_5068e_15 : decode cJ0_charAt_5068e 15 = .ok (.ireturn, 1) := by decide +kernel
theorem dJ0_charAt_5068e_16 : decode cJ0_charAt_5068e 16 = .ok (.aload_n 0, 1) := by decide +kernel
theorem dJ0_charAt_5068e_17 : decode cJ0_charAt_5068e 17 = .ok (.getfield 9, 3) := by decide +kernel
theorem dJ0_charAt_5068e_20 : decode cJ0_charAt_5068e 20 = .ok (.iload_n 1, 1) := by decide +kernel
theorem dJ0_charAt_5068e_21 : decode cJ0_charAt_5068e 21 = .ok (.invokestatic 498, 3) := by decide +kernel
theorem dJ0_charAt_5068e_24 : decode cJ0_charAt_5068e 24 = .ok (.ireturn, 1) := by decide +kernel
theorem dJ0_coder_7d493_0 : decode cJ0_coder_7d493 0 = .ok (.getstatic 38, 3) := by decide +kernel
theorem dJ0_coder_7d493_3 : decode cJ0_coder_7d493 3 = .ok (.ifCond .eq 10, 3) := by decide +kernel
theorem dJ0_coder_7d493_6 : decode cJ0_coder_7d493 6 = .ok (.aload_n 0, 1) := by decide +kernel
theorem dJ0_coder_7d493_7 : decode cJ0_coder_7d493 7 = .ok (.getfield 15, 3) := by decide +kernel
theorem dJ0_coder_7d493_10 : decode cJ0_coder_7d493 10 = .ok (.goto 4, 3) := by decide +kernel
theorem dJ0_coder_7d493_13 : decode cJ0_coder_7d493 13 = .ok (.iconst 1, 1) := by decide +kernel
theorem dJ0_coder_7d493_14 : decode cJ0_coder_7d493 14 = .ok (.ireturn, 1) := by decide +kernel
theorem dJ0_isLatin1_aae02_0 : decode cJ0_isLatin1_aae02 0 = .ok (.getstatic 38, 3) := by decide +kernel
theorem dJ0_isLatin1_aae02_3 : decode cJ0_isLatin1_aae02 3 = .ok (.ifCond .eq 14, 3) := by decide +kernel
theorem dJ0_isLatin1_aae02_6 : decode cJ0_isLatin1_aae02 6 = .ok (.aload_n 0, 1) := by decide +kernel
theorem dJ0_isLatin1_aae02_7 : decode cJ0_isLatin1_aae02 7 = .ok (.getfield 15, 3) := by decide +kernel
theorem dJ0_isLatin1_aae02_10 : decode cJ0_isLatin1_aae02 10 = .ok (.ifCond .ne 7, 3) := by decide +kernel
theorem dJ0_isLatin1_aae02_13 : decode cJ0_isLatin1_aae02 13 = .ok (.iconst 1, 1) := by decide +kernel
theorem dJ0_isLatin1_aae02_14 : decode cJ0_isLatin1_aae02 14 = .ok (.goto 4, 3) := by decide +kernel
theorem dJ0_isLatin1_aae02_17 : decode cJ0_isLatin1_aae02 17 = .ok (.iconst 0, 1) := by decide +kernel
theorem dJ0_isLatin1_aae02_18 : decode cJ0_isLatin1_aae02 18 = .ok (.ireturn, 1) := by decide +kernel
theorem dJ0_checkIndex_df160_0 : decode cJ0_checkIndex_df160 0 = .ok (.iload_n 0, 1) := by decide +kernel
theorem dJ0_checkIndex_df160_1 : decode cJ0_checkIndex_df160 1 = .ok (.iload_n 1, 1) := by decide +kernel
theorem dJ0_checkIndex_df160_2 : decode cJ0_checkIndex_df160 2 = .ok (.getstatic 1053, 3) := by decide +kernel
theorem dJ0_checkIndex_df160_5 : decode cJ0_checkIndex_df160 5 = .ok (.invokestatic 1059, 3) := by decide +kernel
theorem dJ0_checkIndex_df160_8 : decode cJ0_checkIndex_df160 8 = .ok (.pop, 1) := by decide +kernel
theorem dJ0_checkIndex_df160_9 : decode cJ0_checkIndex_df160 9 = .ok (.return_, 1) := by decide +kernel
theorem dJ1_charAt_3b067_0 : decode cJ1_charAt_3b067 0 = .ok (.iload_n 1, 1) := by decide +kernel
theorem dJ1_charAt_3b067_1 : decode cJ1_charAt_3b067 1 = .ok (.aload_n 0, 1) := by decide +kernel
theorem dJ1_charAt_3b067_2 : decode cJ1_charAt_3b067 2 = .ok (.arraylength, 1) := by decide +kernel
theorem dJ1_charAt_3b067_3 : decode cJ1_charAt_3b067 3 = .ok (.invokestatic 9, 3) := by decide +kernel
theorem dJ1_charAt_3b067_6 : decode cJ1_charAt_3b067 6 = .ok (.aload_n 0, 1) := by decide +kernel
theorem dJ1_charAt_3b067_7 : decode cJ1_charAt_3b067 7 = .ok (.iload_n 1, 1) := by decide +kernel
theorem dJ1_charAt_3b067_8 : decode cJ1_charAt_3b067 8 = .ok (.baload, 1) := by decide +kernel
theorem dJ1_charAt_3b067_9 : decode cJ1_charAt_3b067 9 = .ok (.sipush 255, 3) := by decide +kernel
theorem dJ1_charAt_3b067_12 : decode cJ1_charAt_3b067 12 = .ok (.iand, 1) := by decide +kernel
theorem dJ1_charAt_3b067_13 : decode cJ1_charAt_3b067 13 = .ok (.i2c, 1) := by decide +kernel
theorem dJ1_charAt_3b067_14 : decode cJ1_charAt_3b067 14 = .ok (.ireturn, 1) := by decide +kernel
theorem dJ3_checkIndex_8e157_0 : decode cJ3_checkIndex_8e157 0 = .ok (.iload_n 0, 1) := by decide +kernel
theorem dJ3_checkIndex_8e157_1 : decode cJ3_checkIndex_8e157 1 = .ok (.ifCond .lt 8, 3) := by decide +kernel
theorem dJ3_checkIndex_8e157_4 : decode cJ3_checkIndex_8e157 4 = .ok (.iload_n 0, 1) := by decide +kernel
theorem dJ3_checkIndex_8e157_5 : decode cJ3_checkIndex_8e157 5 = .ok (.iload_n 1, 1) := by decide +kernel
theorem dJ3_checkIndex_8e157_6 : decode cJ3_checkIndex_8e157 6 = .ok (.if_icmp .lt 10, 3) := by decide +kernel
theorem dJ3_checkIndex_8e157_9 : decode cJ3_checkIndex_8e157 9 = .ok (.aload_n 2, 1) := by decide +kernel
theorem dJ3_checkIndex_8e157_10 : decode cJ3_checkIndex_8e157 10 = .ok (.iload_n 0, 1) := by decide +kernel
theorem dJ3_checkIndex_8e157_11 : decode cJ3_checkIndex_8e157 11 = .ok (.iload_n 1, 1) := by decide +kernel
theorem dJ3_checkIndex_8e157_12 : decode cJ3_checkIndex_8e157 12 = .ok (.invokestatic 95, 3) := by decide +kernel
theorem dJ3_checkIndex_8e157_15 : decode cJ3_checkIndex_8e157 15 = .ok (.athrow, 1) := by decide +kernel
theorem dJ3_checkIndex_8e157_16 : decode cJ3_checkIndex_8e157 16 = .ok (.iload_n 0, 1) := by decide +kernel
theorem dJ3_checkIndex_8e157_17 : decode cJ3_checkIndex_8e157 17 = .ok (.ireturn, 1) := by decide +kernel
end
section
/-! THE DECODE ROWS: each instruction of each method. -/
theorem dL_law_0 : decode cL_law 0 = .ok (.new 7, 3) := by decide +kernel
theorem dL_law_3 : decode cL_law 3 = .ok (.dup, 1) := by decide +kernel
theorem dL_law_4 : decode cL_law 4 = .ok (.invokespecial 9, 3) := by decide +kernel
theorem dL_law_7 : decode cL_law 7 = .ok (.astore_n 1, 1) := by decide +kernel
theorem dL_law_8 : decode cL_law 8 = .ok (.new 10, 3) := by decide +kernel
theorem dL_law_11 : decode cL_law 11 = .ok (.dup, 1) := by decide +kernel
theorem dL_law_12 : decode cL_law 12 = .ok (.invokespecial 12, 3) := by decide +kernel
theorem dL_law_15 : decode cL_law 15 = .ok (.astore_n 2, 1) := by decide +kernel
theorem dL_law_16 : decode cL_law 16 = .ok (.iconst 0, 1) := by decide +kernel
theorem dL_law_17 : decode cL_law 17 = .ok (.istore_n 3, 1) := by decide +kernel
theorem dL_law_18 : decode cL_law 18 = .ok (.iload_n 3, 1) := by decide +kernel
theorem dL_law_19 : decode cL_law 19 = .ok (.aload_n 0, 1) := by decide +kernel
theorem dL_law_20 : decode cL_law 20 = .ok (.arraylength, 1) := by decide +kernel
theorem dL_law_21 : decode cL_law 21 = .ok (.iconst 5, 1) := by decide +kernel
theorem dL_law_22 : decode cL_law 22 = .ok (.isub, 1) := by decide +kernel
theorem dL_law_23 : decode cL_law 23 = .ok (.if_icmp .gt 1050, 3) := by decide +kernel
theorem dL_law_26 : decode cL_law 26 = .ok (.aload_n 0, 1) := by decide +kernel
theorem dL_law_27 : decode cL_law 27 = .ok (.iload_n 3, 1) := by decide +kernel
theorem dL_law_28 : decode cL_law 28 = .ok (.iaload, 1) := by decide +kernel
theorem dL_law_29 : decode cL_law 29 = .ok (.bipush 31, 2) := by decide +kernel
theorem dL_law_31 : decode cL_law 31 = .ok (.iand, 1) := by decide +kernel
theorem dL_law_32 : decode cL_law 32 = .ok (.tableswitch 1035 0 30 #[140, 153, 206, 249, 272, 285, 298, 331, 374, 387, 400, 433, 466, 479, 512, 565, 598, 641, 684, 737, 750, 783, 806, 839, 872, 905, 929, 952, 975, 998, 1021], 140) := by decide +kernel
theorem dL_law_172 : decode cL_law 172 = .ok (.aload_n 1, 1) := by decide +kernel
theorem dL_law_173 : decode cL_law 173 = .ok (.invokevirtual 13, 3) := by decide +kernel
theorem dL_law_176 : decode cL_law 176 = .ok (.aload_n 2, 1) := by decide +kernel
theorem dL_law_177 : decode cL_law 177 = .ok (.invokevirtual 17, 3) := by decide +kernel
theorem dL_law_180 : decode cL_law 180 = .ok (.if_icmp .eq 887, 3) := by decide +kernel
theorem dL_law_183 : decode cL_law 183 = .ok (.iconst 0, 1) := by decide +kernel
theorem dL_law_184 : decode cL_law 184 = .ok (.ireturn, 1) := by decide +kernel
theorem dL_law_185 : decode cL_law 185 = .ok (.aload_n 1, 1) := by decide +kernel
theorem dL_law_186 : decode cL_law 186 = .ok (.aload_n 0, 1) := by decide +kernel
theorem dL_law_187 : decode cL_law 187 = .ok (.iload_n 3, 1) := by decide +kernel
theorem dL_law_188 : decode cL_law 188 = .ok (.iconst 1, 1) := by decide +kernel
theorem dL_law_189 : decode cL_law 189 = .ok (.iadd, 1) := by decide +kernel
theorem dL_law_190 : decode cL_law 190 = .ok (.iaload, 1) := by decide +kernel
theorem dL_law_191 : decode cL_law 191 = .ok (.aload_n 0, 1) := by decide +kernel
theorem dL_law_192 : decode cL_law 192 = .ok (.iload_n 3, 1) := by decide +kernel
theorem dL_law_193 : decode cL_law 193 = .ok (.iconst 2, 1) := by decide +kernel
theorem dL_law_194 : decode cL_law 194 = .ok (.iadd, 1) := by decide +kernel
theorem dL_law_195 : decode cL_law 195 = .ok (.iaload, 1) := by decide +kernel
theorem dL_law_196 : decode cL_law 196 = .ok (.aload_n 0, 1) := by decide +kernel
theorem dL_law_197 : decode cL_law 197 = .ok (.iload_n 3, 1) := by decide +kernel
theorem dL_law_198 : decode cL_law 198 = .ok (.iconst 3, 1) := by decide +kernel
theorem dL_law_199 : decode cL_law 199 = .ok (.iadd, 1) := by decide +kernel
theorem dL_law_200 : decode cL_law 200 = .ok (.iaload, 1) := by decide +kernel
theorem dL_law_201 : decode cL_law 201 = .ok (.aload_n 0, 1) := by decide +kernel
theorem dL_law_202 : decode cL_law 202 = .ok (.iload_n 3, 1) := by decide +kernel
theorem dL_law_203 : decode cL_law 203 = .ok (.iconst 4, 1) := by decide +kernel
theorem dL_law_204 : decode cL_law 204 = .ok (.iadd, 1) := by decide +kernel
theorem dL_law_205 : decode cL_law 205 = .ok (.iaload, 1) := by decide +kernel
theorem dL_law_206 : decode cL_law 206 = .ok (.invokevirtual 18, 3) := by decide +kernel
theorem dL_law_209 : decode cL_law 209 = .ok (.aload_n 2, 1) := by decide +kernel
theorem dL_law_210 : decode cL_law 210 = .ok (.aload_n 0, 1) := by decide +kernel
theorem dL_law_211 : decode cL_law 211 = .ok (.iload_n 3, 1) := by decide +kernel
theorem dL_law_212 : decode cL_law 212 = .ok (.iconst 1, 1) := by decide +kernel
theorem dL_law_213 : decode cL_law 213 = .ok (.iadd, 1) := by decide +kernel
theorem dL_law_214 : decode cL_law 214 = .ok (.iaload, 1) := by decide +kernel
theorem dL_law_215 : decode cL_law 215 = .ok (.aload_n 0, 1) := by decide +kernel
theorem dL_law_216 : decode cL_law 216 = .ok (.iload_n 3, 1) := by decide +kernel
theorem dL_law_217 : decode cL_law 217 = .ok (.iconst 2, 1) := by decide +kernel
theorem dL_law_218 : decode cL_law 218 = .ok (.iadd, 1) := by decide +kernel
theorem dL_law_219 : decode cL_law 219 = .ok (.iaload, 1) := by decide +kernel
theorem dL_law_220 : decode cL_law 220 = .ok (.aload_n 0, 1) := by decide +kernel
theorem dL_law_221 : decode cL_law 221 = .ok (.iload_n 3, 1) := by decide +kernel
theorem dL_law_222 : decode cL_law 222 = .ok (.iconst 3, 1) := by decide +kernel
theorem dL_law_223 : decode cL_law 223 = .ok (.iadd, 1) := by decide +kernel
theorem dL_law_224 : decode cL_law 224 = .ok (.iaload, 1) := by decide +kernel
theorem dL_law_225 : decode cL_law 225 = .ok (.aload_n 0, 1) := by decide +kernel
theorem dL_law_226 : decode cL_law 226 = .ok (.iload_n 3, 1) := by decide +kernel
theorem dL_law_227 : decode cL_law 227 = .ok (.iconst 4, 1) := by decide +kernel
theorem dL_law_228 : decode cL_law 228 = .ok (.iadd, 1) := by decide +kernel
theorem dL_law_229 : decode cL_law 229 = .ok (.iaload, 1) := by decide +kernel
theorem dL_law_230 : decode cL_law 230 = .ok (.invokevirtual 22, 3) := by decide +kernel
theorem dL_law_233 : decode cL_law 233 = .ok (.if_icmp .eq 834, 3) := by decide +kernel
theorem dL_law_236 : decode cL_law 236 = .ok (.iconst 0, 1) := by decide +kernel
theorem dL_law_237 : decode cL_law 237 = .ok (.ireturn, 1) := by decide +kernel
theorem dL_law_238 : decode cL_law 238 = .ok (.aload_n 1, 1) := by decide +kernel
theorem dL_law_239 : decode cL_law 239 = .ok (.aload_n 0, 1) := by decide +kernel
theorem dL_law_240 : decode cL_law 240 = .ok (.iload_n 3, 1) := by decide +kernel
theorem dL_law_241 : decode cL_law 241 = .ok (.iconst 1, 1) := by decide +kernel
theorem dL_law_242 : decode cL_law 242 = .ok (.iadd, 1) := by decide +kernel
theorem dL_law_243 : decode cL_law 243 = .ok (.iaload, 1) := by decide +kernel
theorem dL_law_244 : decode cL_law 244 = .ok (.aload_n 0, 1) := by decide +kernel
theorem dL_law_245 : decode cL_law 245 = .ok (.iload_n 3, 1) := by decide +kernel
theorem dL_law_246 : decode cL_law 246 = .ok (.iconst 2, 1) := by decide +kernel
theorem dL_law_247 : decode cL_law 247 = .ok (.iadd, 1) := by decide +kernel
theorem dL_law_248 : decode cL_law 248 = .ok (.iaload, 1) := by decide +kernel
theorem dL_law_249 : decode cL_law 249 = .ok (.aload_n 0, 1) := by decide +kernel
theorem dL_law_250 : decode cL_law 250 = .ok (.iload_n 3, 1) := by decide +kernel
theorem dL_law_251 : decode cL_law 251 = .ok (.iconst 3, 1) := by decide +kernel
theorem dL_law_252 : decode cL_law 252 = .ok (.iadd, 1) := by decide +kernel
theorem dL_law_253 : decode cL_law 253 = .ok (.iaload, 1) := by decide +kernel
theorem dL_law_254 : decode cL_law 254 = .ok (.invokevirtual 23, 3) := by decide +kernel
theorem dL_law_257 : decode cL_law 257 = .ok (.aload_n 2, 1) := by decide +kernel
theorem dL_law_258 : decode cL_law 258 = .ok (.aload_n 0, 1) := by decide +kernel
theorem dL_law_259 : decode cL_law 259 = .ok (.iload_n 3, 1) := by decide +kernel
theorem dL_law_260 : decode cL_law 260 = .ok (.iconst 1, 1) := by decide +kernel
theorem dL_law_261 : decode cL_law 261 = .ok (.iadd, 1) := by decide +kernel
theorem dL_law_262 : decode cL_law 262 = .ok (.iaload, 1) := by decide +kernel
theorem dL_law_263 : decode cL_law 263 = .ok (.aload_n 0, 1) := by decide +kernel
theorem dL_law_264 : decode cL_law 264 = .ok (.iload_n 3, 1) := by decide +kernel
theorem dL_law_265 : decode cL_law 265 = .ok (.iconst 2, 1) := by decide +kernel
theorem dL_law_266 : decode cL_law 266 = .ok (.iadd, 1) := by decide +kernel
theorem dL_law_267 : decode cL_law 267 = .ok (.iaload, 1) := by decide +kernel
theorem dL_law_268 : decode cL_law 268 = .ok (.aload_n 0, 1) := by decide +kernel
theorem dL_law_269 : decode cL_law 269 = .ok (.iload_n 3, 1) := by decide +kernel
theorem dL_law_270 : decode cL_law 270 = .ok (.iconst 3, 1) := by decide +kernel
theorem dL_law_271 : decode cL_law 271 = .ok (.iadd, 1) := by decide +kernel
theorem dL_law_272 : decode cL_law 272 = .ok (.iaload, 1) := by decide +kernel
theorem dL_law_273 : decode cL_law 273 = .ok (.invokevirtual 27, 3) := by decide +kernel
theorem dL_law_276 : decode cL_law 276 = .ok (.if_icmp .eq 791, 3) := by decide +kernel
theorem dL_law_279 : decode cL_law 279 = .ok (.iconst 0, 1) := by decide +kernel
theorem dL_law_280 : decode cL_law 280 = .ok (.ireturn, 1) := by decide +kernel
theorem dL_law_281 : decode cL_law 281 = .ok (.aload_n 1, 1) := by decide +kernel
theorem dL_law_282 : decode cL_law 282 = .ok (.aload_n 0, 1) := by decide +kernel
theorem dL_law_283 : decode cL_law 283 = .ok (.iload_n 3, 1) := by decide +kernel
theorem dL_law_284 : decode cL_law 284 = .ok (.iconst 1, 1) := by decide +kernel
theorem dL_law_285 : decode cL_law 285 = .ok (.iadd, 1) := by decide +kernel
theorem dL_law_286 : decode cL_law 286 = .ok (.iaload, 1) := by decide +kernel
theorem dL_law_287 : decode cL_law 287 = .ok (.invokevirtual 28, 3) := by decide +kernel
theorem dL_law_290 : decode cL_law 290 = .ok (.aload_n 2, 1) := by decide +kernel
theorem dL_law_291 : decode cL_law 291 = .ok (.aload_n 0, 1) := by decide +kernel
theorem dL_law_292 : decode cL_law 292 = .ok (.iload_n 3, 1) := by decide +kernel
theorem dL_law_293 : decode cL_law 293 = .ok (.iconst 1, 1) := by decide +kernel
theorem dL_law_294 : decode cL_law 294 = .ok (.iadd, 1) := by decide +kernel
theorem dL_law_295 : decode cL_law 295 = .ok (.iaload, 1) := by decide +kernel
theorem dL_law_296 : decode cL_law 296 = .ok (.invokevirtual 32, 3) := by decide +kernel
theorem dL_law_299 : decode cL_law 299 = .ok (.if_icmp .eq 768, 3) := by decide +kernel
theorem dL_law_302 : decode cL_law 302 = .ok (.iconst 0, 1) := by decide +kernel
theorem dL_law_303 : decode cL_law 303 = .ok (.ireturn, 1) := by decide +kernel
theorem dL_law_304 : decode cL_law 304 = .ok (.aload_n 1, 1) := by decide +kernel
theorem dL_law_305 : decode cL_law 305 = .ok (.invokevirtual 33, 3) := by decide +kernel
theorem dL_law_308 : decode cL_law 308 = .ok (.aload_n 2, 1) := by decide +kernel
theorem dL_law_309 : decode cL_law 309 = .ok (.invokevirtual 36, 3) := by decide +kernel
theorem dL_law_312 : decode cL_law 312 = .ok (.if_icmp .eq 755, 3) := by decide +kernel
theorem dL_law_315 : decode cL_law 315 = .ok (.iconst 0, 1) := by decide +kernel
theorem dL_law_316 : decode cL_law 316 = .ok (.ireturn, 1) := by decide +kernel
theorem dL_law_317 : decode cL_law 317 = .ok (.aload_n 1, 1) := by decide +kernel
theorem dL_law_318 : decode cL_law 318 = .ok (.invokevirtual 37, 3) := by decide +kernel
theorem dL_law_321 : decode cL_law 321 = .ok (.aload_n 2, 1) := by decide +kernel
theorem dL_law_322 : decode cL_law 322 = .ok (.invokevirtual 40, 3) := by decide +kernel
theorem dL_law_325 : decode cL_law 325 = .ok (.if_icmp .eq 742, 3) := by decide +kernel
theorem dL_law_328 : decode cL_law 328 = .ok (.iconst 0, 1) := by decide +kernel
theorem dL_law_329 : decode cL_law 329 = .ok (.ireturn, 1) := by decide +kernel
theorem dL_law_330 : decode cL_law 330 = .ok (.aload_n 1, 1) := by decide +kernel
theorem dL_law_331 : decode cL_law 331 = .ok (.aload_n 0, 1) := by decide +kernel
theorem dL_law_332 : decode cL_law 332 = .ok (.iload_n 3, 1) := by decide +kernel
theorem dL_law_333 : decode cL_law 333 = .ok (.iconst 1, 1) := by decide +kernel
theorem dL_law_334 : decode cL_law 334 = .ok (.iadd, 1) := by decide +kernel
theorem dL_law_335 : decode cL_law 335 = .ok (.iaload, 1) := by decide +kernel
theorem dL_law_336 : decode cL_law 336 = .ok (.aload_n 0, 1) := by decide +kernel
theorem dL_law_337 : decode cL_law 337 = .ok (.iload_n 3, 1) := by decide +kernel
theorem dL_law_338 : decode cL_law 338 = .ok (.iconst 2, 1) := by decide +kernel
theorem dL_law_339 : decode cL_law 339 = .ok (.iadd, 1) := by decide +kernel
theorem dL_law_340 : decode cL_law 340 = .ok (.iaload, 1) := by decide +kernel
theorem dL_law_341 : decode cL_law 341 = .ok (.invokevirtual 41, 3) := by decide +kernel
theorem dL_law_344 : decode cL_law 344 = .ok (.aload_n 2, 1) := by decide +kernel
theorem dL_law_345 : decode cL_law 345 = .ok (.aload_n 0, 1) := by decide +kernel
theorem dL_law_346 : decode cL_law 346 = .ok (.iload_n 3, 1) := by decide +kernel
theorem dL_law_347 : decode cL_law 347 = .ok (.iconst 1, 1) := by decide +kernel
theorem dL_law_348 : decode cL_law 348 = .ok (.iadd, 1) := by decide +kernel
theorem dL_law_349 : decode cL_law 349 = .ok (.iaload, 1) := by decide +kernel
theorem dL_law_350 : decode cL_law 350 = .ok (.aload_n 0, 1) := by decide +kernel
theorem dL_law_351 : decode cL_law 351 = .ok (.iload_n 3, 1) := by decide +kernel
theorem dL_law_352 : decode cL_law 352 = .ok (.iconst 2, 1) := by decide +kernel
theorem dL_law_353 : decode cL_law 353 = .ok (.iadd, 1) := by decide +kernel
theorem dL_law_354 : decode cL_law 354 = .ok (.iaload, 1) := by decide +kernel
theorem dL_law_355 : decode cL_law 355 = .ok (.invokevirtual 45, 3) := by decide +kernel
theorem dL_law_358 : decode cL_law 358 = .ok (.if_icmp .eq 709, 3) := by decide +kernel
theorem dL_law_361 : decode cL_law 361 = .ok (.iconst 0, 1) := by decide +kernel
theorem dL_law_362 : decode cL_law 362 = .ok (.ireturn, 1) := by decide +kernel
theorem dL_law_363 : decode cL_law 363 = .ok (.aload_n 1, 1) := by decide +kernel
theorem dL_law_364 : decode cL_law 364 = .ok (.aload_n 0, 1) := by decide +kernel
theorem dL_law_365 : decode cL_law 365 = .ok (.iload_n 3, 1) := by decide +kernel
theorem dL_law_366 : decode cL_law 366 = .ok (.iconst 1, 1) := by decide +kernel
theorem dL_law_367 : decode cL_law 367 = .ok (.iadd, 1) := by decide +kernel
theorem dL_law_368 : decode cL_law 368 = .ok (.iaload, 1) := by decide +kernel
theorem dL_law_369 : decode cL_law 369 = .ok (.aload_n 0, 1) := by decide +kernel
theorem dL_law_370 : decode cL_law 370 = .ok (.iload_n 3, 1) := by decide +kernel
theorem dL_law_371 : decode cL_law 371 = .ok (.iconst 2, 1) := by decide +kernel
theorem dL_law_372 : decode cL_law 372 = .ok (.iadd, 1) := by decide +kernel
theorem dL_law_373 : decode cL_law 373 = .ok (.iaload, 1) := by decide +kernel
theorem dL_law_374 : decode cL_law 374 = .ok (.aload_n 0, 1) := by decide +kernel
theorem dL_law_375 : decode cL_law 375 = .ok (.iload_n 3, 1) := by decide +kernel
theorem dL_law_376 : decode cL_law 376 = .ok (.iconst 3, 1) := by decide +kernel
theorem dL_law_377 : decode cL_law 377 = .ok (.iadd, 1) := by decide +kernel
theorem dL_law_378 : decode cL_law 378 = .ok (.iaload, 1) := by decide +kernel
theorem dL_law_379 : decode cL_law 379 = .ok (.invokevirtual 46, 3) := by decide +kernel
theorem dL_law_382 : decode cL_law 382 = .ok (.aload_n 2, 1) := by decide +kernel
theorem dL_law_383 : decode cL_law 383 = .ok (.aload_n 0, 1) := by decide +kernel
theorem dL_law_384 : decode cL_law 384 = .ok (.iload_n 3, 1) := by decide +kernel
theorem dL_law_385 : decode cL_law 385 = .ok (.iconst 1, 1) := by decide +kernel
theorem dL_law_386 : decode cL_law 386 = .ok (.iadd, 1) := by decide +kernel
theorem dL_law_387 : decode cL_law 387 = .ok (.iaload, 1) := by decide +kernel
theorem dL_law_388 : decode cL_law 388 = .ok (.aload_n 0, 1) := by decide +kernel
theorem dL_law_389 : decode cL_law 389 = .ok (.iload_n 3, 1) := by decide +kernel
theorem dL_law_390 : decode cL_law 390 = .ok (.iconst 2, 1) := by decide +kernel
theorem dL_law_391 : decode cL_law 391 = .ok (.iadd, 1) := by decide +kernel
theorem dL_law_392 : decode cL_law 392 = .ok (.iaload, 1) := by decide +kernel
theorem dL_law_393 : decode cL_law 393 = .ok (.aload_n 0, 1) := by decide +kernel
theorem dL_law_394 : decode cL_law 394 = .ok (.iload_n 3, 1) := by decide +kernel
theorem dL_law_395 : decode cL_law 395 = .ok (.iconst 3, 1) := by decide +kernel
theorem dL_law_396 : decode cL_law 396 = .ok (.iadd, 1) := by decide +kernel
theorem dL_law_397 : decode cL_law 397 = .ok (.iaload, 1) := by decide +kernel
theorem dL_law_398 : decode cL_law 398 = .ok (.invokevirtual 49, 3) := by decide +kernel
theorem dL_law_401 : decode cL_law 401 = .ok (.if_icmp .eq 666, 3) := by decide +kernel
theorem dL_law_404 : decode cL_law 404 = .ok (.iconst 0, 1) := by decide +kernel
theorem dL_law_405 : decode cL_law 405 = .ok (.ireturn, 1) := by decide +kernel
theorem dL_law_406 : decode cL_law 406 = .ok (.aload_n 1, 1) := by decide +kernel
theorem dL_law_407 : decode cL_law 407 = .ok (.invokevirtual 50, 3) := by decide +kernel
theorem dL_law_410 : decode cL_law 410 = .ok (.aload_n 2, 1) := by decide +kernel
theorem dL_law_411 : decode cL_law 411 = .ok (.invokevirtual 53, 3) := by decide +kernel
theorem dL_law_414 : decode cL_law 414 = .ok (.if_icmp .eq 653, 3) := by decide +kernel
theorem dL_law_417 : decode cL_law 417 = .ok (.iconst 0, 1) := by decide +kernel
theorem dL_law_418 : decode cL_law 418 = .ok (.ireturn, 1) := by decide +kernel
theorem dL_law_419 : decode cL_law 419 = .ok (.aload_n 1, 1) := by decide +kernel
theorem dL_law_420 : decode cL_law 420 = .ok (.invokevirtual 54, 3) := by decide +kernel
theorem dL_law_423 : decode cL_law 423 = .ok (.aload_n 2, 1) := by decide +kernel
theorem dL_law_424 : decode cL_law 424 = .ok (.invokevirtual 57, 3) := by decide +kernel
theorem dL_law_427 : decode cL_law 427 = .ok (.if_icmp .eq 640, 3) := by decide +kernel
theorem dL_law_430 : decode cL_law 430 = .ok (.iconst 0, 1) := by decide +kernel
theorem dL_law_431 : decode cL_law 431 = .ok (.ireturn, 1) := by decide +kernel
theorem dL_law_432 : decode cL_law 432 = .ok (.aload_n 1, 1) := by decide +kernel
theorem dL_law_433 : decode cL_law 433 = .ok (.aload_n 0, 1) := by decide +kernel
theorem dL_law_434 : decode cL_law 434 = .ok (.iload_n 3, 1) := by decide +kernel
theorem dL_law_435 : decode cL_law 435 = .ok (.iconst 1, 1) := by decide +kernel
theorem dL_law_436 : decode cL_law 436 = .ok (.iadd, 1) := by decide +kernel
theorem dL_law_437 : decode cL_law 437 = .ok (.iaload, 1) := by decide +kernel
theorem dL_law_438 : decode cL_law 438 = .ok (.aload_n 0, 1) := by decide +kernel
theorem dL_law_439 : decode cL_law 439 = .ok (.iload_n 3, 1) := by decide +kernel
theorem dL_law_440 : decode cL_law 440 = .ok (.iconst 2, 1) := by decide +kernel
theorem dL_law_441 : decode cL_law 441 = .ok (.iadd, 1) := by decide +kernel
theorem dL_law_442 : decode cL_law 442 = .ok (.iaload, 1) := by decide +kernel
theorem dL_law_443 : decode cL_law 443 = .ok (.invokevirtual 58, 3) := by decide +kernel
theorem dL_law_446 : decode cL_law 446 = .ok (.aload_n 2, 1) := by decide +kernel
theorem dL_law_447 : decode cL_law 447 = .ok (.aload_n 0, 1) := by decide +kernel
theorem dL_law_448 : decode cL_law 448 = .ok (.iload_n 3, 1) := by decide +kernel
theorem dL_law_449 : decode cL_law 449 = .ok (.iconst 1, 1) := by decide +kernel
theorem dL_law_450 : decode cL_law 450 = .ok (.iadd, 1) := by decide +kernel
theorem dL_law_451 : decode cL_law 451 = .ok (.iaload, 1) := by decide +kernel
theorem dL_law_452 : decode cL_law 452 = .ok (.aload_n 0, 1) := by decide +kernel
theorem dL_law_453 : decode cL_law 453 = .ok (.iload_n 3, 1) := by decide +kernel
theorem dL_law_454 : decode cL_law 454 = .ok (.iconst 2, 1) := by decide +kernel
theorem dL_law_455 : decode cL_law 455 = .ok (.iadd, 1) := by decide +kernel
theorem dL_law_456 : decode cL_law 456 = .ok (.iaload, 1) := by decide +kernel
theorem dL_law_457 : decode cL_law 457 = .ok (.invokevirtual 61, 3) := by decide +kernel
theorem dL_law_460 : decode cL_law 460 = .ok (.if_icmp .eq 607, 3) := by decide +kernel
theorem dL_law_463 : decode cL_law 463 = .ok (.iconst 0, 1) := by decide +kernel
theorem dL_law_464 : decode cL_law 464 = .ok (.ireturn, 1) := by decide +kernel
theorem dL_law_465 : decode cL_law 465 = .ok (.aload_n 1, 1) := by decide +kernel
theorem dL_law_466 : decode cL_law 466 = .ok (.aload_n 0, 1) := by decide +kernel
theorem dL_law_467 : decode cL_law 467 = .ok (.iload_n 3, 1) := by decide +kernel
theorem dL_law_468 : decode cL_law 468 = .ok (.iconst 1, 1) := by decide +kernel
theorem dL_law_469 : decode cL_law 469 = .ok (.iadd, 1) := by decide +kernel
theorem dL_law_470 : decode cL_law 470 = .ok (.iaload, 1) := by decide +kernel
theorem dL_law_471 : decode cL_law 471 = .ok (.aload_n 0, 1) := by decide +kernel
theorem dL_law_472 : decode cL_law 472 = .ok (.iload_n 3, 1) := by decide +kernel
theorem dL_law_473 : decode cL_law 473 = .ok (.iconst 2, 1) := by decide +kernel
theorem dL_law_474 : decode cL_law 474 = .ok (.iadd, 1) := by decide +kernel
theorem dL_law_475 : decode cL_law 475 = .ok (.iaload, 1) := by decide +kernel
theorem dL_law_476 : decode cL_law 476 = .ok (.invokevirtual 62, 3) := by decide +kernel
theorem dL_law_479 : decode cL_law 479 = .ok (.aload_n 2, 1) := by decide +kernel
theorem dL_law_480 : decode cL_law 480 = .ok (.aload_n 0, 1) := by decide +kernel
theorem dL_law_481 : decode cL_law 481 = .ok (.iload_n 3, 1) := by decide +kernel
theorem dL_law_482 : decode cL_law 482 = .ok (.iconst 1, 1) := by decide +kernel
theorem dL_law_483 : decode cL_law 483 = .ok (.iadd, 1) := by decide +kernel
theorem dL_law_484 : decode cL_law 484 = .ok (.iaload, 1) := by decide +kernel
theorem dL_law_485 : decode cL_law 485 = .ok (.aload_n 0, 1) := by decide +kernel
theorem dL_law_486 : decode cL_law 486 = .ok (.iload_n 3, 1) := by decide +kernel
theorem dL_law_487 : decode cL_law 487 = .ok (.iconst 2, 1) := by decide +kernel
theorem dL_law_488 : decode cL_law 488 = .ok (.iadd, 1) := by decide +kernel
theorem dL_law_489 : decode cL_law 489 = .ok (.iaload, 1) := by decide +kernel
theorem dL_law_490 : decode cL_law 490 = .ok (.invokevirtual 65, 3) := by decide +kernel
theorem dL_law_493 : decode cL_law 493 = .ok (.if_icmp .eq 574, 3) := by decide +kernel
theorem dL_law_496 : decode cL_law 496 = .ok (.iconst 0, 1) := by decide +kernel
theorem dL_law_497 : decode cL_law 497 = .ok (.ireturn, 1) := by decide +kernel
theorem dL_law_498 : decode cL_law 498 = .ok (.aload_n 1, 1) := by decide +kernel
theorem dL_law_499 : decode cL_law 499 = .ok (.invokevirtual 66, 3) := by decide +kernel
theorem dL_law_502 : decode cL_law 502 = .ok (.aload_n 2, 1) := by decide +kernel
theorem dL_law_503 : decode cL_law 503 = .ok (.invokevirtual 69, 3) := by decide +kernel
theorem dL_law_506 : decode cL_law 506 = .ok (.if_icmp .eq 561, 3) := by decide +kernel
theorem dL_law_509 : decode cL_law 509 = .ok (.iconst 0, 1) := by decide +kernel
theorem dL_law_510 : decode cL_law 510 = .ok (.ireturn, 1) := by decide +kernel
theorem dL_law_511 : decode cL_law 511 = .ok (.aload_n 1, 1) := by decide +kernel
theorem dL_law_512 : decode cL_law 512 = .ok (.aload_n 0, 1) := by decide +kernel
theorem dL_law_513 : decode cL_law 513 = .ok (.iload_n 3, 1) := by decide +kernel
theorem dL_law_514 : decode cL_law 514 = .ok (.iconst 1, 1) := by decide +kernel
theorem dL_law_515 : decode cL_law 515 = .ok (.iadd, 1) := by decide +kernel
theorem dL_law_516 : decode cL_law 516 = .ok (.iaload, 1) := by decide +kernel
theorem dL_law_517 : decode cL_law 517 = .ok (.aload_n 0, 1) := by decide +kernel
theorem dL_law_518 : decode cL_law 518 = .ok (.iload_n 3, 1) := by decide +kernel
theorem dL_law_519 : decode cL_law 519 = .ok (.iconst 2, 1) := by decide +kernel
theorem dL_law_520 : decode cL_law 520 = .ok (.iadd, 1) := by decide +kernel
theorem dL_law_521 : decode cL_law 521 = .ok (.iaload, 1) := by decide +kernel
theorem dL_law_522 : decode cL_law 522 = .ok (.invokevirtual 70, 3) := by decide +kernel
theorem dL_law_525 : decode cL_law 525 = .ok (.aload_n 2, 1) := by decide +kernel
theorem dL_law_526 : decode cL_law 526 = .ok (.aload_n 0, 1) := by decide +kernel
theorem dL_law_527 : decode cL_law 527 = .ok (.iload_n 3, 1) := by decide +kernel
theorem dL_law_528 : decode cL_law 528 = .ok (.iconst 1, 1) := by decide +kernel
theorem dL_law_529 : decode cL_law 529 = .ok (.iadd, 1) := by decide +kernel
theorem dL_law_530 : decode cL_law 530 = .ok (.iaload, 1) := by decide +kernel
theorem dL_law_531 : decode cL_law 531 = .ok (.aload_n 0, 1) := by decide +kernel
theorem dL_law_532 : decode cL_law 532 = .ok (.iload_n 3, 1) := by decide +kernel
theorem dL_law_533 : decode cL_law 533 = .ok (.iconst 2, 1) := by decide +kernel
theorem dL_law_534 : decode cL_law 534 = .ok (.iadd, 1) := by decide +kernel
theorem dL_law_535 : decode cL_law 535 = .ok (.iaload, 1) := by decide +kernel
theorem dL_law_536 : decode cL_law 536 = .ok (.invokevirtual 73, 3) := by decide +kernel
theorem dL_law_539 : decode cL_law 539 = .ok (.if_icmp .eq 528, 3) := by decide +kernel
theorem dL_law_542 : decode cL_law 542 = .ok (.iconst 0, 1) := by decide +kernel
theorem dL_law_543 : decode cL_law 543 = .ok (.ireturn, 1) := by decide +kernel
theorem dL_law_544 : decode cL_law 544 = .ok (.aload_n 1, 1) := by decide +kernel
theorem dL_law_545 : decode cL_law 545 = .ok (.aload_n 0, 1) := by decide +kernel
theorem dL_law_546 : decode cL_law 546 = .ok (.iload_n 3, 1) := by decide +kernel
theorem dL_law_547 : decode cL_law 547 = .ok (.iconst 1, 1) := by decide +kernel
theorem dL_law_548 : decode cL_law 548 = .ok (.iadd, 1) := by decide +kernel
theorem dL_law_549 : decode cL_law 549 = .ok (.iaload, 1) := by decide +kernel
theorem dL_law_550 : decode cL_law 550 = .ok (.aload_n 0, 1) := by decide +kernel
theorem dL_law_551 : decode cL_law 551 = .ok (.iload_n 3, 1) := by decide +kernel
theorem dL_law_552 : decode cL_law 552 = .ok (.iconst 2, 1) := by decide +kernel
theorem dL_law_553 : decode cL_law 553 = .ok (.iadd, 1) := by decide +kernel
theorem dL_law_554 : decode cL_law 554 = .ok (.iaload, 1) := by decide +kernel
theorem dL_law_555 : decode cL_law 555 = .ok (.aload_n 0, 1) := by decide +kernel
theorem dL_law_556 : decode cL_law 556 = .ok (.iload_n 3, 1) := by decide +kernel
theorem dL_law_557 : decode cL_law 557 = .ok (.iconst 3, 1) := by decide +kernel
theorem dL_law_558 : decode cL_law 558 = .ok (.iadd, 1) := by decide +kernel
theorem dL_law_559 : decode cL_law 559 = .ok (.iaload, 1) := by decide +kernel
theorem dL_law_560 : decode cL_law 560 = .ok (.aload_n 0, 1) := by decide +kernel
theorem dL_law_561 : decode cL_law 561 = .ok (.iload_n 3, 1) := by decide +kernel
theorem dL_law_562 : decode cL_law 562 = .ok (.iconst 4, 1) := by decide +kernel
theorem dL_law_563 : decode cL_law 563 = .ok (.iadd, 1) := by decide +kernel
theorem dL_law_564 : decode cL_law 564 = .ok (.iaload, 1) := by decide +kernel
theorem dL_law_565 : decode cL_law 565 = .ok (.invokevirtual 74, 3) := by decide +kernel
theorem dL_law_568 : decode cL_law 568 = .ok (.aload_n 2, 1) := by decide +kernel
theorem dL_law_569 : decode cL_law 569 = .ok (.aload_n 0, 1) := by decide +kernel
theorem dL_law_570 : decode cL_law 570 = .ok (.iload_n 3, 1) := by decide +kernel
theorem dL_law_571 : decode cL_law 571 = .ok (.iconst 1, 1) := by decide +kernel
theorem dL_law_572 : decode cL_law 572 = .ok (.iadd, 1) := by decide +kernel
theorem dL_law_573 : decode cL_law 573 = .ok (.iaload, 1) := by decide +kernel
theorem dL_law_574 : decode cL_law 574 = .ok (.aload_n 0, 1) := by decide +kernel
theorem dL_law_575 : decode cL_law 575 = .ok (.iload_n 3, 1) := by decide +kernel
theorem dL_law_576 : decode cL_law 576 = .ok (.iconst 2, 1) := by decide +kernel
theorem dL_law_577 : decode cL_law 577 = .ok (.iadd, 1) := by decide +kernel
theorem dL_law_578 : decode cL_law 578 = .ok (.iaload, 1) := by decide +kernel
theorem dL_law_579 : decode cL_law 579 = .ok (.aload_n 0, 1) := by decide +kernel
theorem dL_law_580 : decode cL_law 580 = .ok (.iload_n 3, 1) := by decide +kernel
theorem dL_law_581 : decode cL_law 581 = .ok (.iconst 3, 1) := by decide +kernel
theorem dL_law_582 : decode cL_law 582 = .ok (.iadd, 1) := by decide +kernel
theorem dL_law_583 : decode cL_law 583 = .ok (.iaload, 1) := by decide +kernel
theorem dL_law_584 : decode cL_law 584 = .ok (.aload_n 0, 1) := by decide +kernel
theorem dL_law_585 : decode cL_law 585 = .ok (.iload_n 3, 1) := by decide +kernel
theorem dL_law_586 : decode cL_law 586 = .ok (.iconst 4, 1) := by decide +kernel
theorem dL_law_587 : decode cL_law 587 = .ok (.iadd, 1) := by decide +kernel
theorem dL_law_588 : decode cL_law 588 = .ok (.iaload, 1) := by decide +kernel
theorem dL_law_589 : decode cL_law 589 = .ok (.invokevirtual 77, 3) := by decide +kernel
theorem dL_law_592 : decode cL_law 592 = .ok (.if_icmp .eq 475, 3) := by decide +kernel
theorem dL_law_595 : decode cL_law 595 = .ok (.iconst 0, 1) := by decide +kernel
theorem dL_law_596 : decode cL_law 596 = .ok (.ireturn, 1) := by decide +kernel
theorem dL_law_597 : decode cL_law 597 = .ok (.aload_n 1, 1) := by decide +kernel
theorem dL_law_598 : decode cL_law 598 = .ok (.aload_n 0, 1) := by decide +kernel
theorem dL_law_599 : decode cL_law 599 = .ok (.iload_n 3, 1) := by decide +kernel
theorem dL_law_600 : decode cL_law 600 = .ok (.iconst 1, 1) := by decide +kernel
theorem dL_law_601 : decode cL_law 601 = .ok (.iadd, 1) := by decide +kernel
theorem dL_law_602 : decode cL_law 602 = .ok (.iaload, 1) := by decide +kernel
theorem dL_law_603 : decode cL_law 603 = .ok (.aload_n 0, 1) := by decide +kernel
theorem dL_law_604 : decode cL_law 604 = .ok (.iload_n 3, 1) := by decide +kernel
theorem dL_law_605 : decode cL_law 605 = .ok (.iconst 2, 1) := by decide +kernel
theorem dL_law_606 : decode cL_law 606 = .ok (.iadd, 1) := by decide +kernel
theorem dL_law_607 : decode cL_law 607 = .ok (.iaload, 1) := by decide +kernel
theorem dL_law_608 : decode cL_law 608 = .ok (.invokevirtual 78, 3) := by decide +kernel
theorem dL_law_611 : decode cL_law 611 = .ok (.aload_n 2, 1) := by decide +kernel
theorem dL_law_612 : decode cL_law 612 = .ok (.aload_n 0, 1) := by decide +kernel
theorem dL_law_613 : decode cL_law 613 = .ok (.iload_n 3, 1) := by decide +kernel
theorem dL_law_614 : decode cL_law 614 = .ok (.iconst 1, 1) := by decide +kernel
theorem dL_law_615 : decode cL_law 615 = .ok (.iadd, 1) := by decide +kernel
theorem dL_law_616 : decode cL_law 616 = .ok (.iaload, 1) := by decide +kernel
theorem dL_law_617 : decode cL_law 617 = .ok (.aload_n 0, 1) := by decide +kernel
theorem dL_law_618 : decode cL_law 618 = .ok (.iload_n 3, 1) := by decide +kernel
theorem dL_law_619 : decode cL_law 619 = .ok (.iconst 2, 1) := by decide +kernel
theorem dL_law_620 : decode cL_law 620 = .ok (.iadd, 1) := by decide +kernel
theorem dL_law_621 : decode cL_law 621 = .ok (.iaload, 1) := by decide +kernel
theorem dL_law_622 : decode cL_law 622 = .ok (.invokevirtual 81, 3) := by decide +kernel
theorem dL_law_625 : decode cL_law 625 = .ok (.if_icmp .eq 442, 3) := by decide +kernel
theorem dL_law_628 : decode cL_law 628 = .ok (.iconst 0, 1) := by decide +kernel
theorem dL_law_629 : decode cL_law 629 = .ok (.ireturn, 1) := by decide +kernel
theorem dL_law_630 : decode cL_law 630 = .ok (.aload_n 1, 1) := by decide +kernel
theorem dL_law_631 : decode cL_law 631 = .ok (.aload_n 0, 1) := by decide +kernel
theorem dL_law_632 : decode cL_law 632 = .ok (.iload_n 3, 1) := by decide +kernel
theorem dL_law_633 : decode cL_law 633 = .ok (.iconst 1, 1) := by decide +kernel
theorem dL_law_634 : decode cL_law 634 = .ok (.iadd, 1) := by decide +kernel
theorem dL_law_635 : decode cL_law 635 = .ok (.iaload, 1) := by decide +kernel
theorem dL_law_636 : decode cL_law 636 = .ok (.aload_n 0, 1) := by decide +kernel
theorem dL_law_637 : decode cL_law 637 = .ok (.iload_n 3, 1) := by decide +kernel
theorem dL_law_638 : decode cL_law 638 = .ok (.iconst 2, 1) := by decide +kernel
theorem dL_law_639 : decode cL_law 639 = .ok (.iadd, 1) := by decide +kernel
theorem dL_law_640 : decode cL_law 640 = .ok (.iaload, 1) := by decide +kernel
theorem dL_law_641 : decode cL_law 641 = .ok (.aload_n 0, 1) := by decide +kernel
theorem dL_law_642 : decode cL_law 642 = .ok (.iload_n 3, 1) := by decide +kernel
theorem dL_law_643 : decode cL_law 643 = .ok (.iconst 3, 1) := by decide +kernel
theorem dL_law_644 : decode cL_law 644 = .ok (.iadd, 1) := by decide +kernel
theorem dL_law_645 : decode cL_law 645 = .ok (.iaload, 1) := by decide +kernel
theorem dL_law_646 : decode cL_law 646 = .ok (.invokevirtual 82, 3) := by decide +kernel
theorem dL_law_649 : decode cL_law 649 = .ok (.aload_n 2, 1) := by decide +kernel
theorem dL_law_650 : decode cL_law 650 = .ok (.aload_n 0, 1) := by decide +kernel
theorem dL_law_651 : decode cL_law 651 = .ok (.iload_n 3, 1) := by decide +kernel
theorem dL_law_652 : decode cL_law 652 = .ok (.iconst 1, 1) := by decide +kernel
theorem dL_law_653 : decode cL_law 653 = .ok (.iadd, 1) := by decide +kernel
theorem dL_law_654 : decode cL_law 654 = .ok (.iaload, 1) := by decide +kernel
theorem dL_law_655 : decode cL_law 655 = .ok (.aload_n 0, 1) := by decide +kernel
theorem dL_law_656 : decode cL_law 656 = .ok (.iload_n 3, 1) := by decide +kernel
theorem dL_law_657 : decode cL_law 657 = .ok (.iconst 2, 1) := by decide +kernel
theorem dL_law_658 : decode cL_law 658 = .ok (.iadd, 1) := by decide +kernel
theorem dL_law_659 : decode cL_law 659 = .ok (.iaload, 1) := by decide +kernel
theorem dL_law_660 : decode cL_law 660 = .ok (.aload_n 0, 1) := by decide +kernel
theorem dL_law_661 : decode cL_law 661 = .ok (.iload_n 3, 1) := by decide +kernel
theorem dL_law_662 : decode cL_law 662 = .ok (.iconst 3, 1) := by decide +kernel
theorem dL_law_663 : decode cL_law 663 = .ok (.iadd, 1) := by decide +kernel
theorem dL_law_664 : decode cL_law 664 = .ok (.iaload, 1) := by decide +kernel
theorem dL_law_665 : decode cL_law 665 = .ok (.invokevirtual 85, 3) := by decide +kernel
theorem dL_law_668 : decode cL_law 668 = .ok (.if_icmp .eq 399, 3) := by decide +kernel
theorem dL_law_671 : decode cL_law 671 = .ok (.iconst 0, 1) := by decide +kernel
theorem dL_law_672 : decode cL_law 672 = .ok (.ireturn, 1) := by decide +kernel
theorem dL_law_673 : decode cL_law 673 = .ok (.aload_n 1, 1) := by decide +kernel
theorem dL_law_674 : decode cL_law 674 = .ok (.aload_n 0, 1) := by decide +kernel
theorem dL_law_675 : decode cL_law 675 = .ok (.iload_n 3, 1) := by decide +kernel
theorem dL_law_676 : decode cL_law 676 = .ok (.iconst 1, 1) := by decide +kernel
theorem dL_law_677 : decode cL_law 677 = .ok (.iadd, 1) := by decide +kernel
theorem dL_law_678 : decode cL_law 678 = .ok (.iaload, 1) := by decide +kernel
theorem dL_law_679 : decode cL_law 679 = .ok (.aload_n 0, 1) := by decide +kernel
theorem dL_law_680 : decode cL_law 680 = .ok (.iload_n 3, 1) := by decide +kernel
theorem dL_law_681 : decode cL_law 681 = .ok (.iconst 2, 1) := by decide +kernel
theorem dL_law_682 : decode cL_law 682 = .ok (.iadd, 1) := by decide +kernel
theorem dL_law_683 : decode cL_law 683 = .ok (.iaload, 1) := by decide +kernel
theorem dL_law_684 : decode cL_law 684 = .ok (.aload_n 0, 1) := by decide +kernel
theorem dL_law_685 : decode cL_law 685 = .ok (.iload_n 3, 1) := by decide +kernel
theorem dL_law_686 : decode cL_law 686 = .ok (.iconst 3, 1) := by decide +kernel
theorem dL_law_687 : decode cL_law 687 = .ok (.iadd, 1) := by decide +kernel
theorem dL_law_688 : decode cL_law 688 = .ok (.iaload, 1) := by decide +kernel
theorem dL_law_689 : decode cL_law 689 = .ok (.invokevirtual 86, 3) := by decide +kernel
theorem dL_law_692 : decode cL_law 692 = .ok (.aload_n 2, 1) := by decide +kernel
theorem dL_law_693 : decode cL_law 693 = .ok (.aload_n 0, 1) := by decide +kernel
theorem dL_law_694 : decode cL_law 694 = .ok (.iload_n 3, 1) := by decide +kernel
theorem dL_law_695 : decode cL_law 695 = .ok (.iconst 1, 1) := by decide +kernel
theorem dL_law_696 : decode cL_law 696 = .ok (.iadd, 1) := by decide +kernel
theorem dL_law_697 : decode cL_law 697 = .ok (.iaload, 1) := by decide +kernel
theorem dL_law_698 : decode cL_law 698 = .ok (.aload_n 0, 1) := by decide +kernel
theorem dL_law_699 : decode cL_law 699 = .ok (.iload_n 3, 1) := by decide +kernel
theorem dL_law_700 : decode cL_law 700 = .ok (.iconst 2, 1) := by decide +kernel
theorem dL_law_701 : decode cL_law 701 = .ok (.iadd, 1) := by decide +kernel
theorem dL_law_702 : decode cL_law 702 = .ok (.iaload, 1) := by decide +kernel
theorem dL_law_703 : decode cL_law 703 = .ok (.aload_n 0, 1) := by decide +kernel
theorem dL_law_704 : decode cL_law 704 = .ok (.iload_n 3, 1) := by decide +kernel
theorem dL_law_705 : decode cL_law 705 = .ok (.iconst 3, 1) := by decide +kernel
theorem dL_law_706 : decode cL_law 706 = .ok (.iadd, 1) := by decide +kernel
theorem dL_law_707 : decode cL_law 707 = .ok (.iaload, 1) := by decide +kernel
theorem dL_law_708 : decode cL_law 708 = .ok (.invokevirtual 89, 3) := by decide +kernel
theorem dL_law_711 : decode cL_law 711 = .ok (.if_icmp .eq 356, 3) := by decide +kernel
theorem dL_law_714 : decode cL_law 714 = .ok (.iconst 0, 1) := by decide +kernel
theorem dL_law_715 : decode cL_law 715 = .ok (.ireturn, 1) := by decide +kernel
theorem dL_law_716 : decode cL_law 716 = .ok (.aload_n 1, 1) := by decide +kernel
theorem dL_law_717 : decode cL_law 717 = .ok (.aload_n 0, 1) := by decide +kernel
theorem dL_law_718 : decode cL_law 718 = .ok (.iload_n 3, 1) := by decide +kernel
theorem dL_law_719 : decode cL_law 719 = .ok (.iconst 1, 1) := by decide +kernel
theorem dL_law_720 : decode cL_law 720 = .ok (.iadd, 1) := by decide +kernel
theorem dL_law_721 : decode cL_law 721 = .ok (.iaload, 1) := by decide +kernel
theorem dL_law_722 : decode cL_law 722 = .ok (.aload_n 0, 1) := by decide +kernel
theorem dL_law_723 : decode cL_law 723 = .ok (.iload_n 3, 1) := by decide +kernel
theorem dL_law_724 : decode cL_law 724 = .ok (.iconst 2, 1) := by decide +kernel
theorem dL_law_725 : decode cL_law 725 = .ok (.iadd, 1) := by decide +kernel
theorem dL_law_726 : decode cL_law 726 = .ok (.iaload, 1) := by decide +kernel
theorem dL_law_727 : decode cL_law 727 = .ok (.aload_n 0, 1) := by decide +kernel
theorem dL_law_728 : decode cL_law 728 = .ok (.iload_n 3, 1) := by decide +kernel
theorem dL_law_729 : decode cL_law 729 = .ok (.iconst 3, 1) := by decide +kernel
theorem dL_law_730 : decode cL_law 730 = .ok (.iadd, 1) := by decide +kernel
theorem dL_law_731 : decode cL_law 731 = .ok (.iaload, 1) := by decide +kernel
theorem dL_law_732 : decode cL_law 732 = .ok (.aload_n 0, 1) := by decide +kernel
theorem dL_law_733 : decode cL_law 733 = .ok (.iload_n 3, 1) := by decide +kernel
theorem dL_law_734 : decode cL_law 734 = .ok (.iconst 4, 1) := by decide +kernel
theorem dL_law_735 : decode cL_law 735 = .ok (.iadd, 1) := by decide +kernel
theorem dL_law_736 : decode cL_law 736 = .ok (.iaload, 1) := by decide +kernel
theorem dL_law_737 : decode cL_law 737 = .ok (.invokevirtual 90, 3) := by decide +kernel
theorem dL_law_740 : decode cL_law 740 = .ok (.aload_n 2, 1) := by decide +kernel
theorem dL_law_741 : decode cL_law 741 = .ok (.aload_n 0, 1) := by decide +kernel
theorem dL_law_742 : decode cL_law 742 = .ok (.iload_n 3, 1) := by decide +kernel
theorem dL_law_743 : decode cL_law 743 = .ok (.iconst 1, 1) := by decide +kernel
theorem dL_law_744 : decode cL_law 744 = .ok (.iadd, 1) := by decide +kernel
theorem dL_law_745 : decode cL_law 745 = .ok (.iaload, 1) := by decide +kernel
theorem dL_law_746 : decode cL_law 746 = .ok (.aload_n 0, 1) := by decide +kernel
theorem dL_law_747 : decode cL_law 747 = .ok (.iload_n 3, 1) := by decide +kernel
theorem dL_law_748 : decode cL_law 748 = .ok (.iconst 2, 1) := by decide +kernel
theorem dL_law_749 : decode cL_law 749 = .ok (.iadd, 1) := by decide +kernel
theorem dL_law_750 : decode cL_law 750 = .ok (.iaload, 1) := by decide +kernel
theorem dL_law_751 : decode cL_law 751 = .ok (.aload_n 0, 1) := by decide +kernel
theorem dL_law_752 : decode cL_law 752 = .ok (.iload_n 3, 1) := by decide +kernel
theorem dL_law_753 : decode cL_law 753 = .ok (.iconst 3, 1) := by decide +kernel
theorem dL_law_754 : decode cL_law 754 = .ok (.iadd, 1) := by decide +kernel
theorem dL_law_755 : decode cL_law 755 = .ok (.iaload, 1) := by decide +kernel
theorem dL_law_756 : decode cL_law 756 = .ok (.aload_n 0, 1) := by decide +kernel
theorem dL_law_757 : decode cL_law 757 = .ok (.iload_n 3, 1) := by decide +kernel
theorem dL_law_758 : decode cL_law 758 = .ok (.iconst 4, 1) := by decide +kernel
theorem dL_law_759 : decode cL_law 759 = .ok (.iadd, 1) := by decide +kernel
theorem dL_law_760 : decode cL_law 760 = .ok (.iaload, 1) := by decide +kernel
theorem dL_law_761 : decode cL_law 761 = .ok (.invokevirtual 93, 3) := by decide +kernel
theorem dL_law_764 : decode cL_law 764 = .ok (.if_icmp .eq 303, 3) := by decide +kernel
theorem dL_law_767 : decode cL_law 767 = .ok (.iconst 0, 1) := by decide +kernel
theorem dL_law_768 : decode cL_law 768 = .ok (.ireturn, 1) := by decide +kernel
theorem dL_law_769 : decode cL_law 769 = .ok (.aload_n 1, 1) := by decide +kernel
theorem dL_law_770 : decode cL_law 770 = .ok (.invokevirtual 94, 3) := by decide +kernel
theorem dL_law_773 : decode cL_law 773 = .ok (.aload_n 2, 1) := by decide +kernel
theorem dL_law_774 : decode cL_law 774 = .ok (.invokevirtual 97, 3) := by decide +kernel
theorem dL_law_777 : decode cL_law 777 = .ok (.if_icmp .eq 290, 3) := by decide +kernel
theorem dL_law_780 : decode cL_law 780 = .ok (.iconst 0, 1) := by decide +kernel
theorem dL_law_781 : decode cL_law 781 = .ok (.ireturn, 1) := by decide +kernel
theorem dL_law_782 : decode cL_law 782 = .ok (.aload_n 1, 1) := by decide +kernel
theorem dL_law_783 : decode cL_law 783 = .ok (.aload_n 0, 1) := by decide +kernel
theorem dL_law_784 : decode cL_law 784 = .ok (.iload_n 3, 1) := by decide +kernel
theorem dL_law_785 : decode cL_law 785 = .ok (.iconst 1, 1) := by decide +kernel
theorem dL_law_786 : decode cL_law 786 = .ok (.iadd, 1) := by decide +kernel
theorem dL_law_787 : decode cL_law 787 = .ok (.iaload, 1) := by decide +kernel
theorem dL_law_788 : decode cL_law 788 = .ok (.aload_n 0, 1) := by decide +kernel
theorem dL_law_789 : decode cL_law 789 = .ok (.iload_n 3, 1) := by decide +kernel
theorem dL_law_790 : decode cL_law 790 = .ok (.iconst 2, 1) := by decide +kernel
theorem dL_law_791 : decode cL_law 791 = .ok (.iadd, 1) := by decide +kernel
theorem dL_law_792 : decode cL_law 792 = .ok (.iaload, 1) := by decide +kernel
theorem dL_law_793 : decode cL_law 793 = .ok (.invokevirtual 98, 3) := by decide +kernel
theorem dL_law_796 : decode cL_law 796 = .ok (.aload_n 2, 1) := by decide +kernel
theorem dL_law_797 : decode cL_law 797 = .ok (.aload_n 0, 1) := by decide +kernel
theorem dL_law_798 : decode cL_law 798 = .ok (.iload_n 3, 1) := by decide +kernel
theorem dL_law_799 : decode cL_law 799 = .ok (.iconst 1, 1) := by decide +kernel
theorem dL_law_800 : decode cL_law 800 = .ok (.iadd, 1) := by decide +kernel
theorem dL_law_801 : decode cL_law 801 = .ok (.iaload, 1) := by decide +kernel
theorem dL_law_802 : decode cL_law 802 = .ok (.aload_n 0, 1) := by decide +kernel
theorem dL_law_803 : decode cL_law 803 = .ok (.iload_n 3, 1) := by decide +kernel
theorem dL_law_804 : decode cL_law 804 = .ok (.iconst 2, 1) := by decide +kernel
theorem dL_law_805 : decode cL_law 805 = .ok (.iadd, 1) := by decide +kernel
theorem dL_law_806 : decode cL_law 806 = .ok (.iaload, 1) := by decide +kernel
theorem dL_law_807 : decode cL_law 807 = .ok (.invokevirtual 101, 3) := by decide +kernel
theorem dL_law_810 : decode cL_law 810 = .ok (.if_icmp .eq 257, 3) := by decide +kernel
theorem dL_law_813 : decode cL_law 813 = .ok (.iconst 0, 1) := by decide +kernel
theorem dL_law_814 : decode cL_law 814 = .ok (.ireturn, 1) := by decide +kernel
theorem dL_law_815 : decode cL_law 815 = .ok (.aload_n 1, 1) := by decide +kernel
theorem dL_law_816 : decode cL_law 816 = .ok (.aload_n 0, 1) := by decide +kernel
theorem dL_law_817 : decode cL_law 817 = .ok (.iload_n 3, 1) := by decide +kernel
theorem dL_law_818 : decode cL_law 818 = .ok (.iconst 1, 1) := by decide +kernel
theorem dL_law_819 : decode cL_law 819 = .ok (.iadd, 1) := by decide +kernel
theorem dL_law_820 : decode cL_law 820 = .ok (.iaload, 1) := by decide +kernel
theorem dL_law_821 : decode cL_law 821 = .ok (.invokevirtual 102, 3) := by decide +kernel
theorem dL_law_824 : decode cL_law 824 = .ok (.aload_n 2, 1) := by decide +kernel
theorem dL_law_825 : decode cL_law 825 = .ok (.aload_n 0, 1) := by decide +kernel
theorem dL_law_826 : decode cL_law 826 = .ok (.iload_n 3, 1) := by decide +kernel
theorem dL_law_827 : decode cL_law 827 = .ok (.iconst 1, 1) := by decide +kernel
theorem dL_law_828 : decode cL_law 828 = .ok (.iadd, 1) := by decide +kernel
theorem dL_law_829 : decode cL_law 829 = .ok (.iaload, 1) := by decide +kernel
theorem dL_law_830 : decode cL_law 830 = .ok (.invokevirtual 105, 3) := by decide +kernel
theorem dL_law_833 : decode cL_law 833 = .ok (.if_icmp .eq 234, 3) := by decide +kernel
theorem dL_law_836 : decode cL_law 836 = .ok (.iconst 0, 1) := by decide +kernel
theorem dL_law_837 : decode cL_law 837 = .ok (.ireturn, 1) := by decide +kernel
theorem dL_law_838 : decode cL_law 838 = .ok (.aload_n 1, 1) := by decide +kernel
theorem dL_law_839 : decode cL_law 839 = .ok (.aload_n 0, 1) := by decide +kernel
theorem dL_law_840 : decode cL_law 840 = .ok (.iload_n 3, 1) := by decide +kernel
theorem dL_law_841 : decode cL_law 841 = .ok (.iconst 1, 1) := by decide +kernel
theorem dL_law_842 : decode cL_law 842 = .ok (.iadd, 1) := by decide +kernel
theorem dL_law_843 : decode cL_law 843 = .ok (.iaload, 1) := by decide +kernel
theorem dL_law_844 : decode cL_law 844 = .ok (.aload_n 0, 1) := by decide +kernel
theorem dL_law_845 : decode cL_law 845 = .ok (.iload_n 3, 1) := by decide +kernel
theorem dL_law_846 : decode cL_law 846 = .ok (.iconst 2, 1) := by decide +kernel
theorem dL_law_847 : decode cL_law 847 = .ok (.iadd, 1) := by decide +kernel
theorem dL_law_848 : decode cL_law 848 = .ok (.iaload, 1) := by decide +kernel
theorem dL_law_849 : decode cL_law 849 = .ok (.invokevirtual 106, 3) := by decide +kernel
theorem dL_law_852 : decode cL_law 852 = .ok (.aload_n 2, 1) := by decide +kernel
theorem dL_law_853 : decode cL_law 853 = .ok (.aload_n 0, 1) := by decide +kernel
theorem dL_law_854 : decode cL_law 854 = .ok (.iload_n 3, 1) := by decide +kernel
theorem dL_law_855 : decode cL_law 855 = .ok (.iconst 1, 1) := by decide +kernel
theorem dL_law_856 : decode cL_law 856 = .ok (.iadd, 1) := by decide +kernel
theorem dL_law_857 : decode cL_law 857 = .ok (.iaload, 1) := by decide +kernel
theorem dL_law_858 : decode cL_law 858 = .ok (.aload_n 0, 1) := by decide +kernel
theorem dL_law_859 : decode cL_law 859 = .ok (.iload_n 3, 1) := by decide +kernel
theorem dL_law_860 : decode cL_law 860 = .ok (.iconst 2, 1) := by decide +kernel
theorem dL_law_861 : decode cL_law 861 = .ok (.iadd, 1) := by decide +kernel
theorem dL_law_862 : decode cL_law 862 = .ok (.iaload, 1) := by decide +kernel
theorem dL_law_863 : decode cL_law 863 = .ok (.invokevirtual 109, 3) := by decide +kernel
theorem dL_law_866 : decode cL_law 866 = .ok (.if_icmp .eq 201, 3) := by decide +kernel
theorem dL_law_869 : decode cL_law 869 = .ok (.iconst 0, 1) := by decide +kernel
theorem dL_law_870 : decode cL_law 870 = .ok (.ireturn, 1) := by decide +kernel
theorem dL_law_871 : decode cL_law 871 = .ok (.aload_n 1, 1) := by decide +kernel
theorem dL_law_872 : decode cL_law 872 = .ok (.aload_n 0, 1) := by decide +kernel
theorem dL_law_873 : decode cL_law 873 = .ok (.iload_n 3, 1) := by decide +kernel
theorem dL_law_874 : decode cL_law 874 = .ok (.iconst 1, 1) := by decide +kernel
theorem dL_law_875 : decode cL_law 875 = .ok (.iadd, 1) := by decide +kernel
theorem dL_law_876 : decode cL_law 876 = .ok (.iaload, 1) := by decide +kernel
theorem dL_law_877 : decode cL_law 877 = .ok (.aload_n 0, 1) := by decide +kernel
theorem dL_law_878 : decode cL_law 878 = .ok (.iload_n 3, 1) := by decide +kernel
theorem dL_law_879 : decode cL_law 879 = .ok (.iconst 2, 1) := by decide +kernel
theorem dL_law_880 : decode cL_law 880 = .ok (.iadd, 1) := by decide +kernel
theorem dL_law_881 : decode cL_law 881 = .ok (.iaload, 1) := by decide +kernel
theorem dL_law_882 : decode cL_law 882 = .ok (.invokevirtual 110, 3) := by decide +kernel
theorem dL_law_885 : decode cL_law 885 = .ok (.aload_n 2, 1) := by decide +kernel
theorem dL_law_886 : decode cL_law 886 = .ok (.aload_n 0, 1) := by decide +kernel
theorem dL_law_887 : decode cL_law 887 = .ok (.iload_n 3, 1) := by decide +kernel
theorem dL_law_888 : decode cL_law 888 = .ok (.iconst 1, 1) := by decide +kernel
theorem dL_law_889 : decode cL_law 889 = .ok (.iadd, 1) := by decide +kernel
theorem dL_law_890 : decode cL_law 890 = .ok (.iaload, 1) := by decide +kernel
theorem dL_law_891 : decode cL_law 891 = .ok (.aload_n 0, 1) := by decide +kernel
theorem dL_law_892 : decode cL_law 892 = .ok (.iload_n 3, 1) := by decide +kernel
theorem dL_law_893 : decode cL_law 893 = .ok (.iconst 2, 1) := by decide +kernel
theorem dL_law_894 : decode cL_law 894 = .ok (.iadd, 1) := by decide +kernel
theorem dL_law_895 : decode cL_law 895 = .ok (.iaload, 1) := by decide +kernel
theorem dL_law_896 : decode cL_law 896 = .ok (.invokevirtual 113, 3) := by decide +kernel
theorem dL_law_899 : decode cL_law 899 = .ok (.if_icmp .eq 168, 3) := by decide +kernel
theorem dL_law_902 : decode cL_law 902 = .ok (.iconst 0, 1) := by decide +kernel
theorem dL_law_903 : decode cL_law 903 = .ok (.ireturn, 1) := by decide +kernel
theorem dL_law_904 : decode cL_law 904 = .ok (.aload_n 1, 1) := by decide +kernel
theorem dL_law_905 : decode cL_law 905 = .ok (.aload_n 0, 1) := by decide +kernel
theorem dL_law_906 : decode cL_law 906 = .ok (.iload_n 3, 1) := by decide +kernel
theorem dL_law_907 : decode cL_law 907 = .ok (.iconst 1, 1) := by decide +kernel
theorem dL_law_908 : decode cL_law 908 = .ok (.iadd, 1) := by decide +kernel
theorem dL_law_909 : decode cL_law 909 = .ok (.iaload, 1) := by decide +kernel
theorem dL_law_910 : decode cL_law 910 = .ok (.aload_n 0, 1) := by decide +kernel
theorem dL_law_911 : decode cL_law 911 = .ok (.iload_n 3, 1) := by decide +kernel
theorem dL_law_912 : decode cL_law 912 = .ok (.iconst 2, 1) := by decide +kernel
theorem dL_law_913 : decode cL_law 913 = .ok (.iadd, 1) := by decide +kernel
theorem dL_law_914 : decode cL_law 914 = .ok (.iaload, 1) := by decide +kernel
theorem dL_law_915 : decode cL_law 915 = .ok (.invokevirtual 114, 3) := by decide +kernel
theorem dL_law_918 : decode cL_law 918 = .ok (.aload_n 2, 1) := by decide +kernel
theorem dL_law_919 : decode cL_law 919 = .ok (.aload_n 0, 1) := by decide +kernel
theorem dL_law_920 : decode cL_law 920 = .ok (.iload_n 3, 1) := by decide +kernel
theorem dL_law_921 : decode cL_law 921 = .ok (.iconst 1, 1) := by decide +kernel
theorem dL_law_922 : decode cL_law 922 = .ok (.iadd, 1) := by decide +kernel
theorem dL_law_923 : decode cL_law 923 = .ok (.iaload, 1) := by decide +kernel
theorem dL_law_924 : decode cL_law 924 = .ok (.aload_n 0, 1) := by decide +kernel
theorem dL_law_925 : decode cL_law 925 = .ok (.iload_n 3, 1) := by decide +kernel
theorem dL_law_926 : decode cL_law 926 = .ok (.iconst 2, 1) := by decide +kernel
theorem dL_law_927 : decode cL_law 927 = .ok (.iadd, 1) := by decide +kernel
theorem dL_law_928 : decode cL_law 928 = .ok (.iaload, 1) := by decide +kernel
theorem dL_law_929 : decode cL_law 929 = .ok (.invokevirtual 117, 3) := by decide +kernel
theorem dL_law_932 : decode cL_law 932 = .ok (.if_icmp .eq 135, 3) := by decide +kernel
theorem dL_law_935 : decode cL_law 935 = .ok (.iconst 0, 1) := by decide +kernel
theorem dL_law_936 : decode cL_law 936 = .ok (.ireturn, 1) := by decide +kernel
theorem dL_law_937 : decode cL_law 937 = .ok (.aload_n 1, 1) := by decide +kernel
theorem dL_law_938 : decode cL_law 938 = .ok (.aload_n 0, 1) := by decide +kernel
theorem dL_law_939 : decode cL_law 939 = .ok (.iload_n 3, 1) := by decide +kernel
theorem dL_law_940 : decode cL_law 940 = .ok (.iconst 1, 1) := by decide +kernel
theorem dL_law_941 : decode cL_law 941 = .ok (.iadd, 1) := by decide +kernel
theorem dL_law_942 : decode cL_law 942 = .ok (.iaload, 1) := by decide +kernel
theorem dL_law_943 : decode cL_law 943 = .ok (.invokevirtual 118, 3) := by decide +kernel
theorem dL_law_946 : decode cL_law 946 = .ok (.aload_n 2, 1) := by decide +kernel
theorem dL_law_947 : decode cL_law 947 = .ok (.aload_n 0, 1) := by decide +kernel
theorem dL_law_948 : decode cL_law 948 = .ok (.iload_n 3, 1) := by decide +kernel
theorem dL_law_949 : decode cL_law 949 = .ok (.iconst 1, 1) := by decide +kernel
theorem dL_law_950 : decode cL_law 950 = .ok (.iadd, 1) := by decide +kernel
theorem dL_law_951 : decode cL_law 951 = .ok (.iaload, 1) := by decide +kernel
theorem dL_law_952 : decode cL_law 952 = .ok (.invokevirtual 122, 3) := by decide +kernel
theorem dL_law_955 : decode cL_law 955 = .ok (.lcmp, 1) := by decide +kernel
theorem dL_law_956 : decode cL_law 956 = .ok (.ifCond .eq 111, 3) := by decide +kernel
theorem dL_law_959 : decode cL_law 959 = .ok (.iconst 0, 1) := by decide +kernel
theorem dL_law_960 : decode cL_law 960 = .ok (.ireturn, 1) := by decide +kernel
theorem dL_law_961 : decode cL_law 961 = .ok (.aload_n 1, 1) := by decide +kernel
theorem dL_law_962 : decode cL_law 962 = .ok (.aload_n 0, 1) := by decide +kernel
theorem dL_law_963 : decode cL_law 963 = .ok (.iload_n 3, 1) := by decide +kernel
theorem dL_law_964 : decode cL_law 964 = .ok (.iconst 1, 1) := by decide +kernel
theorem dL_law_965 : decode cL_law 965 = .ok (.iadd, 1) := by decide +kernel
theorem dL_law_966 : decode cL_law 966 = .ok (.iaload, 1) := by decide +kernel
theorem dL_law_967 : decode cL_law 967 = .ok (.invokevirtual 123, 3) := by decide +kernel
theorem dL_law_970 : decode cL_law 970 = .ok (.aload_n 2, 1) := by decide +kernel
theorem dL_law_971 : decode cL_law 971 = .ok (.aload_n 0, 1) := by decide +kernel
theorem dL_law_972 : decode cL_law 972 = .ok (.iload_n 3, 1) := by decide +kernel
theorem dL_law_973 : decode cL_law 973 = .ok (.iconst 1, 1) := by decide +kernel
theorem dL_law_974 : decode cL_law 974 = .ok (.iadd, 1) := by decide +kernel
theorem dL_law_975 : decode cL_law 975 = .ok (.iaload, 1) := by decide +kernel
theorem dL_law_976 : decode cL_law 976 = .ok (.invokevirtual 126, 3) := by decide +kernel
theorem dL_law_979 : decode cL_law 979 = .ok (.if_icmp .eq 88, 3) := by decide +kernel
theorem dL_law_982 : decode cL_law 982 = .ok (.iconst 0, 1) := by decide +kernel
theorem dL_law_983 : decode cL_law 983 = .ok (.ireturn, 1) := by decide +kernel
theorem dL_law_984 : decode cL_law 984 = .ok (.aload_n 1, 1) := by decide +kernel
theorem dL_law_985 : decode cL_law 985 = .ok (.aload_n 0, 1) := by decide +kernel
theorem dL_law_986 : decode cL_law 986 = .ok (.iload_n 3, 1) := by decide +kernel
theorem dL_law_987 : decode cL_law 987 = .ok (.iconst 1, 1) := by decide +kernel
theorem dL_law_988 : decode cL_law 988 = .ok (.iadd, 1) := by decide +kernel
theorem dL_law_989 : decode cL_law 989 = .ok (.iaload, 1) := by decide +kernel
theorem dL_law_990 : decode cL_law 990 = .ok (.invokevirtual 127, 3) := by decide +kernel
theorem dL_law_993 : decode cL_law 993 = .ok (.aload_n 2, 1) := by decide +kernel
theorem dL_law_994 : decode cL_law 994 = .ok (.aload_n 0, 1) := by decide +kernel
theorem dL_law_995 : decode cL_law 995 = .ok (.iload_n 3, 1) := by decide +kernel
theorem dL_law_996 : decode cL_law 996 = .ok (.iconst 1, 1) := by decide +kernel
theorem dL_law_997 : decode cL_law 997 = .ok (.iadd, 1) := by decide +kernel
theorem dL_law_998 : decode cL_law 998 = .ok (.iaload, 1) := by decide +kernel
theorem dL_law_999 : decode cL_law 999 = .ok (.invokevirtual 130, 3) := by decide +kernel
theorem dL_law_1002 : decode cL_law 1002 = .ok (.if_icmp .eq 65, 3) := by decide +kernel
theorem dL_law_1005 : decode cL_law 1005 = .ok (.iconst 0, 1) := by decide +kernel
theorem dL_law_1006 : decode cL_law 1006 = .ok (.ireturn, 1) := by decide +kernel
theorem dL_law_1007 : decode cL_law 1007 = .ok (.aload_n 1, 1) := by decide +kernel
theorem dL_law_1008 : decode cL_law 1008 = .ok (.aload_n 0, 1) := by decide +kernel
theorem dL_law_1009 : decode cL_law 1009 = .ok (.iload_n 3, 1) := by decide +kernel
theorem dL_law_1010 : decode cL_law 1010 = .ok (.iconst 1, 1) := by decide +kernel
theorem dL_law_1011 : decode cL_law 1011 = .ok (.iadd, 1) := by decide +kernel
theorem dL_law_1012 : decode cL_law 1012 = .ok (.iaload, 1) := by decide +kernel
theorem dL_law_1013 : decode cL_law 1013 = .ok (.invokevirtual 131, 3) := by decide +kernel
theorem dL_law_1016 : decode cL_law 1016 = .ok (.aload_n 2, 1) := by decide +kernel
theorem dL_law_1017 : decode cL_law 1017 = .ok (.aload_n 0, 1) := by decide +kernel
theorem dL_law_1018 : decode cL_law 1018 = .ok (.iload_n 3, 1) := by decide +kernel
theorem dL_law_1019 : decode cL_law 1019 = .ok (.iconst 1, 1) := by decide +kernel
theorem dL_law_1020 : decode cL_law 1020 = .ok (.iadd, 1) := by decide +kernel
theorem dL_law_1021 : decode cL_law 1021 = .ok (.iaload, 1) := by decide +kernel
theorem dL_law_1022 : decode cL_law 1022 = .ok (.invokevirtual 134, 3) := by decide +kernel
theorem dL_law_1025 : decode cL_law 1025 = .ok (.if_icmp .eq 42, 3) := by decide +kernel
theorem dL_law_1028 : decode cL_law 1028 = .ok (.iconst 0, 1) := by decide +kernel
theorem dL_law_1029 : decode cL_law 1029 = .ok (.ireturn, 1) := by decide +kernel
theorem dL_law_1030 : decode cL_law 1030 = .ok (.aload_n 1, 1) := by decide +kernel
theorem dL_law_1031 : decode cL_law 1031 = .ok (.aload_n 0, 1) := by decide +kernel
theorem dL_law_1032 : decode cL_law 1032 = .ok (.iload_n 3, 1) := by decide +kernel
theorem dL_law_1033 : decode cL_law 1033 = .ok (.iconst 1, 1) := by decide +kernel
theorem dL_law_1034 : decode cL_law 1034 = .ok (.iadd, 1) := by decide +kernel
theorem dL_law_1035 : decode cL_law 1035 = .ok (.iaload, 1) := by decide +kernel
theorem dL_law_1036 : decode cL_law 1036 = .ok (.invokevirtual 135, 3) := by decide +kernel
theorem dL_law_1039 : decode cL_law 1039 = .ok (.aload_n 2, 1) := by decide +kernel
theorem dL_law_1040 : decode cL_law 1040 = .ok (.aload_n 0, 1) := by decide +kernel
theorem dL_law_1041 : decode cL_law 1041 = .ok (.iload_n 3, 1) := by decide +kernel
theorem dL_law_1042 : decode cL_law 1042 = .ok (.iconst 1, 1) := by decide +kernel
theorem dL_law_1043 : decode cL_law 1043 = .ok (.iadd, 1) := by decide +kernel
theorem dL_law_1044 : decode cL_law 1044 = .ok (.iaload, 1) := by decide +kernel
theorem dL_law_1045 : decode cL_law 1045 = .ok (.invokevirtual 138, 3) := by decide +kernel
theorem dL_law_1048 : decode cL_law 1048 = .ok (.if_icmp .eq 19, 3) := by decide +kernel
theorem dL_law_1051 : decode cL_law 1051 = .ok (.iconst 0, 1) := by decide +kernel
theorem dL_law_1052 : decode cL_law 1052 = .ok (.ireturn, 1) := by decide +kernel
theorem dL_law_1053 : decode cL_law 1053 = .ok (.aload_n 1, 1) := by decide +kernel
theorem dL_law_1054 : decode cL_law 1054 = .ok (.invokevirtual 139, 3) := by decide +kernel
theorem dL_law_1057 : decode cL_law 1057 = .ok (.aload_n 2, 1) := by decide +kernel
theorem dL_law_1058 : decode cL_law 1058 = .ok (.invokevirtual 143, 3) := by decide +kernel
theorem dL_law_1061 : decode cL_law 1061 = .ok (.lcmp, 1) := by decide +kernel
theorem dL_law_1062 : decode cL_law 1062 = .ok (.ifCond .eq 5, 3) := by decide +kernel
theorem dL_law_1065 : decode cL_law 1065 = .ok (.iconst 0, 1) := by decide +kernel
theorem dL_law_1066 : decode cL_law 1066 = .ok (.ireturn, 1) := by decide +kernel
theorem dL_law_1067 : decode cL_law 1067 = .ok (.iinc 3 5, 3) := by decide +kernel
theorem dL_law_1070 : decode cL_law 1070 = .ok (.goto (-1052), 3) := by decide +kernel
theorem dL_law_1073 : decode cL_law 1073 = .ok (.iconst 1, 1) := by decide +kernel
theorem dL_law_1074 : decode cL_law 1074 = .ok (.ireturn, 1) := by decide +kernel
end
