section
-- ===== PART A: goes FIRST, ahead of the names: the tables' words, and 'selects' of the private methods out of them =====
/-- a private method of a class that the tables say can be made, by its rows of tables_1 -/
def lw_okq (q : MethodName × Nat) : Prop := (q.1.cls ≠ "java/lang/invoke/MethodHandle" ∧ q.1.cls ≠ "java/lang/invoke/VarHandle") ∧ Cond.instantiable q.1.cls q.2 ∈ tables_1 ∧ Cond.privateMethod q.1 ∈ tables_1 ∧ Cond.instanceMethod q.1 ∈ tables_1
theorem lw_p0 : lw_okq (⟨"ChalkCastle", "found", "(I)I"⟩, 15) := ⟨⟨by decide +kernel, by decide +kernel⟩, List.mem_of_getElem? (i := 13) (by decide +kernel), List.mem_of_getElem? (i := 225) (by decide +kernel), List.mem_of_getElem? (i := 226) (by decide +kernel)⟩
theorem lw_p1 : lw_okq (⟨"ChalkCastle", "foundNone", "(I)I"⟩, 15) := ⟨⟨by decide +kernel, by decide +kernel⟩, List.mem_of_getElem? (i := 13) (by decide +kernel), List.mem_of_getElem? (i := 247) (by decide +kernel), List.mem_of_getElem? (i := 248) (by decide +kernel)⟩
theorem lw_p2 : lw_okq (⟨"ChalkCastle", "beginAct", "()V"⟩, 15) := ⟨⟨by decide +kernel, by decide +kernel⟩, List.mem_of_getElem? (i := 13) (by decide +kernel), List.mem_of_getElem? (i := 395) (by decide +kernel), List.mem_of_getElem? (i := 396) (by decide +kernel)⟩
theorem lw_p3 : lw_okq (⟨"ChalkCastle", "hasCastle", "()Z"⟩, 15) := ⟨⟨by decide +kernel, by decide +kernel⟩, List.mem_of_getElem? (i := 13) (by decide +kernel), List.mem_of_getElem? (i := 411) (by decide +kernel), List.mem_of_getElem? (i := 412) (by decide +kernel)⟩
theorem lw_p4 : lw_okq (⟨"ChalkCastle", "standingNow", "()I"⟩, 15) := ⟨⟨by decide +kernel, by decide +kernel⟩, List.mem_of_getElem? (i := 13) (by decide +kernel), List.mem_of_getElem? (i := 432) (by decide +kernel), List.mem_of_getElem? (i := 433) (by decide +kernel)⟩
theorem lw_p5 : lw_okq (⟨"ChalkCastle", "fallingWithout", "(I)I"⟩, 15) := ⟨⟨by decide +kernel, by decide +kernel⟩, List.mem_of_getElem? (i := 13) (by decide +kernel), List.mem_of_getElem? (i := 475) (by decide +kernel), List.mem_of_getElem? (i := 476) (by decide +kernel)⟩
theorem lw_p6 : lw_okq (⟨"ChalkCastle", "tellsWritings", "([III)Z"⟩, 15) := ⟨⟨by decide +kernel, by decide +kernel⟩, List.mem_of_getElem? (i := 13) (by decide +kernel), List.mem_of_getElem? (i := 502) (by decide +kernel), List.mem_of_getElem? (i := 503) (by decide +kernel)⟩
theorem lw_p7 : lw_okq (⟨"ChalkCastle", "onlyLessened", "([II)I"⟩, 15) := ⟨⟨by decide +kernel, by decide +kernel⟩, List.mem_of_getElem? (i := 13) (by decide +kernel), List.mem_of_getElem? (i := 532) (by decide +kernel), List.mem_of_getElem? (i := 533) (by decide +kernel)⟩
theorem lw_p8 : lw_okq (⟨"ChalkCastle", "fitsKind", "(II[III)Z"⟩, 15) := ⟨⟨by decide +kernel, by decide +kernel⟩, List.mem_of_getElem? (i := 13) (by decide +kernel), List.mem_of_getElem? (i := 540) (by decide +kernel), List.mem_of_getElem? (i := 541) (by decide +kernel)⟩
theorem lw_p9 : lw_okq (⟨"ChalkCastle", "linesAtOnce", "(II)I"⟩, 15) := ⟨⟨by decide +kernel, by decide +kernel⟩, List.mem_of_getElem? (i := 13) (by decide +kernel), List.mem_of_getElem? (i := 557) (by decide +kernel), List.mem_of_getElem? (i := 558) (by decide +kernel)⟩
theorem lw_p10 : lw_okq (⟨"ChalkCastle", "drawWriting", "(J)V"⟩, 15) := ⟨⟨by decide +kernel, by decide +kernel⟩, List.mem_of_getElem? (i := 13) (by decide +kernel), List.mem_of_getElem? (i := 584) (by decide +kernel), List.mem_of_getElem? (i := 585) (by decide +kernel)⟩
theorem lw_p11 : lw_okq (⟨"ChalkCastle", "rowsThere", "()I"⟩, 15) := ⟨⟨by decide +kernel, by decide +kernel⟩, List.mem_of_getElem? (i := 13) (by decide +kernel), List.mem_of_getElem? (i := 638) (by decide +kernel), List.mem_of_getElem? (i := 639) (by decide +kernel)⟩
theorem lw_p12 : lw_okq (⟨"ChalkCastleModel", "meets", "(I)I"⟩, 39) := ⟨⟨by decide +kernel, by decide +kernel⟩, List.mem_of_getElem? (i := 646) (by decide +kernel), List.mem_of_getElem? (i := 786) (by decide +kernel), List.mem_of_getElem? (i := 787) (by decide +kernel)⟩
theorem lw_p13 : lw_okq (⟨"ChalkCastleModel", "well", "(I)I"⟩, 39) := ⟨⟨by decide +kernel, by decide +kernel⟩, List.mem_of_getElem? (i := 646) (by decide +kernel), List.mem_of_getElem? (i := 791) (by decide +kernel), List.mem_of_getElem? (i := 792) (by decide +kernel)⟩
theorem lw_p14 : lw_okq (⟨"ChalkCastleModel", "isPart", "(III)Z"⟩, 39) := ⟨⟨by decide +kernel, by decide +kernel⟩, List.mem_of_getElem? (i := 646) (by decide +kernel), List.mem_of_getElem? (i := 806) (by decide +kernel), List.mem_of_getElem? (i := 807) (by decide +kernel)⟩
theorem lw_p15 : lw_okq (⟨"ChalkCastleModel", "reads", "()Z"⟩, 39) := ⟨⟨by decide +kernel, by decide +kernel⟩, List.mem_of_getElem? (i := 646) (by decide +kernel), List.mem_of_getElem? (i := 827) (by decide +kernel), List.mem_of_getElem? (i := 828) (by decide +kernel)⟩
def lw_privs_1 : List (MethodName × Nat) := [(⟨"ChalkCastle", "found", "(I)I"⟩, 15), (⟨"ChalkCastle", "foundNone", "(I)I"⟩, 15), (⟨"ChalkCastle", "beginAct", "()V"⟩, 15), (⟨"ChalkCastle", "hasCastle", "()Z"⟩, 15), (⟨"ChalkCastle", "standingNow", "()I"⟩, 15), (⟨"ChalkCastle", "fallingWithout", "(I)I"⟩, 15), (⟨"ChalkCastle", "tellsWritings", "([III)Z"⟩, 15), (⟨"ChalkCastle", "onlyLessened", "([II)I"⟩, 15), (⟨"ChalkCastle", "fitsKind", "(II[III)Z"⟩, 15), (⟨"ChalkCastle", "linesAtOnce", "(II)I"⟩, 15), (⟨"ChalkCastle", "drawWriting", "(J)V"⟩, 15), (⟨"ChalkCastle", "rowsThere", "()I"⟩, 15), (⟨"ChalkCastleModel", "meets", "(I)I"⟩, 39), (⟨"ChalkCastleModel", "well", "(I)I"⟩, 39), (⟨"ChalkCastleModel", "isPart", "(III)Z"⟩, 39), (⟨"ChalkCastleModel", "reads", "()Z"⟩, 39)]
theorem lw_r1 : ∀ q ∈ lw_privs_1, lw_okq q := List.forall_mem_cons.mpr ⟨lw_p0, List.forall_mem_cons.mpr ⟨lw_p1, List.forall_mem_cons.mpr ⟨lw_p2, List.forall_mem_cons.mpr ⟨lw_p3, List.forall_mem_cons.mpr ⟨lw_p4, List.forall_mem_cons.mpr ⟨lw_p5, List.forall_mem_cons.mpr ⟨lw_p6, List.forall_mem_cons.mpr ⟨lw_p7, List.forall_mem_cons.mpr ⟨lw_p8, List.forall_mem_cons.mpr ⟨lw_p9, List.forall_mem_cons.mpr ⟨lw_p10, List.forall_mem_cons.mpr ⟨lw_p11, List.forall_mem_cons.mpr ⟨lw_p12, List.forall_mem_cons.mpr ⟨lw_p13, List.forall_mem_cons.mpr ⟨lw_p14, List.forall_mem_cons.mpr ⟨lw_p15, fun _ h => absurd h List.not_mem_nil⟩⟩⟩⟩⟩⟩⟩⟩⟩⟩⟩⟩⟩⟩⟩⟩
theorem lw_p16 : lw_okq (⟨"ChalkCastleModel", "readsLaw", "()Z"⟩, 39) := ⟨⟨by decide +kernel, by decide +kernel⟩, List.mem_of_getElem? (i := 646) (by decide +kernel), List.mem_of_getElem? (i := 831) (by decide +kernel), List.mem_of_getElem? (i := 832) (by decide +kernel)⟩
theorem lw_p17 : lw_okq (⟨"ChalkCastleModel", "readsSign", "(I)Z"⟩, 39) := ⟨⟨by decide +kernel, by decide +kernel⟩, List.mem_of_getElem? (i := 646) (by decide +kernel), List.mem_of_getElem? (i := 835) (by decide +kernel), List.mem_of_getElem? (i := 836) (by decide +kernel)⟩
theorem lw_p18 : lw_okq (⟨"ChalkCastleModel", "here", "()I"⟩, 39) := ⟨⟨by decide +kernel, by decide +kernel⟩, List.mem_of_getElem? (i := 646) (by decide +kernel), List.mem_of_getElem? (i := 839) (by decide +kernel), List.mem_of_getElem? (i := 840) (by decide +kernel)⟩
theorem lw_p19 : lw_okq (⟨"ChalkCastleModel", "fails", "(I)Z"⟩, 39) := ⟨⟨by decide +kernel, by decide +kernel⟩, List.mem_of_getElem? (i := 646) (by decide +kernel), List.mem_of_getElem? (i := 843) (by decide +kernel), List.mem_of_getElem? (i := 844) (by decide +kernel)⟩
theorem lw_p20 : lw_okq (⟨"ChalkCastleModel", "number", "(II)I"⟩, 39) := ⟨⟨by decide +kernel, by decide +kernel⟩, List.mem_of_getElem? (i := 646) (by decide +kernel), List.mem_of_getElem? (i := 847) (by decide +kernel), List.mem_of_getElem? (i := 848) (by decide +kernel)⟩
theorem lw_p21 : lw_okq (⟨"ChalkCastleModel", "run", "()I"⟩, 39) := ⟨⟨by decide +kernel, by decide +kernel⟩, List.mem_of_getElem? (i := 646) (by decide +kernel), List.mem_of_getElem? (i := 851) (by decide +kernel), List.mem_of_getElem? (i := 852) (by decide +kernel)⟩
theorem lw_p22 : lw_okq (⟨"ChalkCastleModel", "isFigure", "(I)Z"⟩, 39) := ⟨⟨by decide +kernel, by decide +kernel⟩, List.mem_of_getElem? (i := 646) (by decide +kernel), List.mem_of_getElem? (i := 855) (by decide +kernel), List.mem_of_getElem? (i := 856) (by decide +kernel)⟩
theorem lw_p23 : lw_okq (⟨"ChalkCastleModel", "readsItem", "()Z"⟩, 39) := ⟨⟨by decide +kernel, by decide +kernel⟩, List.mem_of_getElem? (i := 646) (by decide +kernel), List.mem_of_getElem? (i := 859) (by decide +kernel), List.mem_of_getElem? (i := 860) (by decide +kernel)⟩
theorem lw_p24 : lw_okq (⟨"ChalkCastleModel", "readsBlock", "()Z"⟩, 39) := ⟨⟨by decide +kernel, by decide +kernel⟩, List.mem_of_getElem? (i := 646) (by decide +kernel), List.mem_of_getElem? (i := 863) (by decide +kernel), List.mem_of_getElem? (i := 864) (by decide +kernel)⟩
theorem lw_p25 : lw_okq (⟨"ChalkCastleModel", "readsRest", "()Z"⟩, 39) := ⟨⟨by decide +kernel, by decide +kernel⟩, List.mem_of_getElem? (i := 646) (by decide +kernel), List.mem_of_getElem? (i := 867) (by decide +kernel), List.mem_of_getElem? (i := 868) (by decide +kernel)⟩
theorem lw_p26 : lw_okq (⟨"ChalkCastleModel", "readsClerk", "()Z"⟩, 39) := ⟨⟨by decide +kernel, by decide +kernel⟩, List.mem_of_getElem? (i := 646) (by decide +kernel), List.mem_of_getElem? (i := 874) (by decide +kernel), List.mem_of_getElem? (i := 875) (by decide +kernel)⟩
theorem lw_p27 : lw_okq (⟨"ChalkCastleModel", "isClerk", "(I)Z"⟩, 39) := ⟨⟨by decide +kernel, by decide +kernel⟩, List.mem_of_getElem? (i := 646) (by decide +kernel), List.mem_of_getElem? (i := 892) (by decide +kernel), List.mem_of_getElem? (i := 893) (by decide +kernel)⟩
theorem lw_p28 : lw_okq (⟨"ChalkCastleModel", "isBlock", "(I)Z"⟩, 39) := ⟨⟨by decide +kernel, by decide +kernel⟩, List.mem_of_getElem? (i := 646) (by decide +kernel), List.mem_of_getElem? (i := 896) (by decide +kernel), List.mem_of_getElem? (i := 897) (by decide +kernel)⟩
theorem lw_p29 : lw_okq (⟨"ChalkCastleModel", "takesOf", "([III)I"⟩, 39) := ⟨⟨by decide +kernel, by decide +kernel⟩, List.mem_of_getElem? (i := 646) (by decide +kernel), List.mem_of_getElem? (i := 900) (by decide +kernel), List.mem_of_getElem? (i := 901) (by decide +kernel)⟩
theorem lw_p30 : lw_okq (⟨"ChalkCastleModel", "takesBy", "(IIII)I"⟩, 39) := ⟨⟨by decide +kernel, by decide +kernel⟩, List.mem_of_getElem? (i := 646) (by decide +kernel), List.mem_of_getElem? (i := 904) (by decide +kernel), List.mem_of_getElem? (i := 905) (by decide +kernel)⟩
theorem lw_p31 : lw_okq (⟨"ChalkCastleModel", "remember", "()V"⟩, 39) := ⟨⟨by decide +kernel, by decide +kernel⟩, List.mem_of_getElem? (i := 646) (by decide +kernel), List.mem_of_getElem? (i := 911) (by decide +kernel), List.mem_of_getElem? (i := 912) (by decide +kernel)⟩
def lw_privs_2 : List (MethodName × Nat) := [(⟨"ChalkCastleModel", "readsLaw", "()Z"⟩, 39), (⟨"ChalkCastleModel", "readsSign", "(I)Z"⟩, 39), (⟨"ChalkCastleModel", "here", "()I"⟩, 39), (⟨"ChalkCastleModel", "fails", "(I)Z"⟩, 39), (⟨"ChalkCastleModel", "number", "(II)I"⟩, 39), (⟨"ChalkCastleModel", "run", "()I"⟩, 39), (⟨"ChalkCastleModel", "isFigure", "(I)Z"⟩, 39), (⟨"ChalkCastleModel", "readsItem", "()Z"⟩, 39), (⟨"ChalkCastleModel", "readsBlock", "()Z"⟩, 39), (⟨"ChalkCastleModel", "readsRest", "()Z"⟩, 39), (⟨"ChalkCastleModel", "readsClerk", "()Z"⟩, 39), (⟨"ChalkCastleModel", "isClerk", "(I)Z"⟩, 39), (⟨"ChalkCastleModel", "isBlock", "(I)Z"⟩, 39), (⟨"ChalkCastleModel", "takesOf", "([III)I"⟩, 39), (⟨"ChalkCastleModel", "takesBy", "(IIII)I"⟩, 39), (⟨"ChalkCastleModel", "remember", "()V"⟩, 39)]
theorem lw_r2 : ∀ q ∈ lw_privs_2, lw_okq q := List.forall_mem_cons.mpr ⟨lw_p16, List.forall_mem_cons.mpr ⟨lw_p17, List.forall_mem_cons.mpr ⟨lw_p18, List.forall_mem_cons.mpr ⟨lw_p19, List.forall_mem_cons.mpr ⟨lw_p20, List.forall_mem_cons.mpr ⟨lw_p21, List.forall_mem_cons.mpr ⟨lw_p22, List.forall_mem_cons.mpr ⟨lw_p23, List.forall_mem_cons.mpr ⟨lw_p24, List.forall_mem_cons.mpr ⟨lw_p25, List.forall_mem_cons.mpr ⟨lw_p26, List.forall_mem_cons.mpr ⟨lw_p27, List.forall_mem_cons.mpr ⟨lw_p28, List.forall_mem_cons.mpr ⟨lw_p29, List.forall_mem_cons.mpr ⟨lw_p30, List.forall_mem_cons.mpr ⟨lw_p31, fun _ h => absurd h List.not_mem_nil⟩⟩⟩⟩⟩⟩⟩⟩⟩⟩⟩⟩⟩⟩⟩⟩
theorem lw_p32 : lw_okq (⟨"ChalkCastleModel", "writes", "([IIII)Z"⟩, 39) := ⟨⟨by decide +kernel, by decide +kernel⟩, List.mem_of_getElem? (i := 646) (by decide +kernel), List.mem_of_getElem? (i := 915) (by decide +kernel), List.mem_of_getElem? (i := 916) (by decide +kernel)⟩
theorem lw_p33 : lw_okq (⟨"ChalkCastleModel", "rainsOn", "([I)V"⟩, 39) := ⟨⟨by decide +kernel, by decide +kernel⟩, List.mem_of_getElem? (i := 646) (by decide +kernel), List.mem_of_getElem? (i := 927) (by decide +kernel), List.mem_of_getElem? (i := 928) (by decide +kernel)⟩
theorem lw_p34 : lw_okq (⟨"ChalkCastleModel", "standing", "([I)I"⟩, 39) := ⟨⟨by decide +kernel, by decide +kernel⟩, List.mem_of_getElem? (i := 646) (by decide +kernel), List.mem_of_getElem? (i := 931) (by decide +kernel), List.mem_of_getElem? (i := 932) (by decide +kernel)⟩
theorem lw_p35 : lw_okq (⟨"ChalkCastleModel", "restingOn", "(I)I"⟩, 39) := ⟨⟨by decide +kernel, by decide +kernel⟩, List.mem_of_getElem? (i := 646) (by decide +kernel), List.mem_of_getElem? (i := 935) (by decide +kernel), List.mem_of_getElem? (i := 936) (by decide +kernel)⟩
theorem lw_p36 : lw_okq (⟨"ChalkCastleModel", "fallen", "([I)I"⟩, 39) := ⟨⟨by decide +kernel, by decide +kernel⟩, List.mem_of_getElem? (i := 646) (by decide +kernel), List.mem_of_getElem? (i := 959) (by decide +kernel), List.mem_of_getElem? (i := 960) (by decide +kernel)⟩
theorem lw_p37 : lw_okq (⟨"ChalkCastleModel", "allChalk", "()I"⟩, 39) := ⟨⟨by decide +kernel, by decide +kernel⟩, List.mem_of_getElem? (i := 646) (by decide +kernel), List.mem_of_getElem? (i := 963) (by decide +kernel), List.mem_of_getElem? (i := 964) (by decide +kernel)⟩
theorem lw_p38 : lw_okq (⟨"ChalkCastleModel", "allLines", "()I"⟩, 39) := ⟨⟨by decide +kernel, by decide +kernel⟩, List.mem_of_getElem? (i := 646) (by decide +kernel), List.mem_of_getElem? (i := 967) (by decide +kernel), List.mem_of_getElem? (i := 968) (by decide +kernel)⟩
theorem lw_p39 : lw_okq (⟨"ChalkCastleModel", "isBlocks", "(I)Z"⟩, 39) := ⟨⟨by decide +kernel, by decide +kernel⟩, List.mem_of_getElem? (i := 646) (by decide +kernel), List.mem_of_getElem? (i := 975) (by decide +kernel), List.mem_of_getElem? (i := 976) (by decide +kernel)⟩
theorem lw_p40 : lw_okq (⟨"ChalkCastleModel", "standingWithout", "(I)I"⟩, 39) := ⟨⟨by decide +kernel, by decide +kernel⟩, List.mem_of_getElem? (i := 646) (by decide +kernel), List.mem_of_getElem? (i := 979) (by decide +kernel), List.mem_of_getElem? (i := 980) (by decide +kernel)⟩
theorem lw_p41 : lw_okq (⟨"ChalkCastleModel", "copyNow", "()V"⟩, 39) := ⟨⟨by decide +kernel, by decide +kernel⟩, List.mem_of_getElem? (i := 646) (by decide +kernel), List.mem_of_getElem? (i := 983) (by decide +kernel), List.mem_of_getElem? (i := 984) (by decide +kernel)⟩
theorem lw_p42 : lw_okq (⟨"ChalkCastleModel", "chalkBut", "(I)I"⟩, 39) := ⟨⟨by decide +kernel, by decide +kernel⟩, List.mem_of_getElem? (i := 646) (by decide +kernel), List.mem_of_getElem? (i := 998) (by decide +kernel), List.mem_of_getElem? (i := 999) (by decide +kernel)⟩
theorem lw_p43 : lw_okq (⟨"ChalkCastleModel", "itemAt", "(II)I"⟩, 39) := ⟨⟨by decide +kernel, by decide +kernel⟩, List.mem_of_getElem? (i := 646) (by decide +kernel), List.mem_of_getElem? (i := 1010) (by decide +kernel), List.mem_of_getElem? (i := 1011) (by decide +kernel)⟩
theorem lw_p44 : lw_okq (⟨"ChalkCastleModel", "standingBy", "(IIII)I"⟩, 39) := ⟨⟨by decide +kernel, by decide +kernel⟩, List.mem_of_getElem? (i := 646) (by decide +kernel), List.mem_of_getElem? (i := 1014) (by decide +kernel), List.mem_of_getElem? (i := 1015) (by decide +kernel)⟩
theorem lw_p45 : lw_okq (⟨"ChalkCastleModel", "isLeft", "(IIII)Z"⟩, 39) := ⟨⟨by decide +kernel, by decide +kernel⟩, List.mem_of_getElem? (i := 646) (by decide +kernel), List.mem_of_getElem? (i := 1022) (by decide +kernel), List.mem_of_getElem? (i := 1023) (by decide +kernel)⟩
theorem lw_p46 : lw_okq (⟨"ChalkCastleModel", "isOf", "(II)Z"⟩, 39) := ⟨⟨by decide +kernel, by decide +kernel⟩, List.mem_of_getElem? (i := 646) (by decide +kernel), List.mem_of_getElem? (i := 1076) (by decide +kernel), List.mem_of_getElem? (i := 1077) (by decide +kernel)⟩
theorem lw_p47 : lw_okq (⟨"ChalkCastleModel", "sizeOf", "(I)I"⟩, 39) := ⟨⟨by decide +kernel, by decide +kernel⟩, List.mem_of_getElem? (i := 646) (by decide +kernel), List.mem_of_getElem? (i := 1084) (by decide +kernel), List.mem_of_getElem? (i := 1085) (by decide +kernel)⟩
def lw_privs_3 : List (MethodName × Nat) := [(⟨"ChalkCastleModel", "writes", "([IIII)Z"⟩, 39), (⟨"ChalkCastleModel", "rainsOn", "([I)V"⟩, 39), (⟨"ChalkCastleModel", "standing", "([I)I"⟩, 39), (⟨"ChalkCastleModel", "restingOn", "(I)I"⟩, 39), (⟨"ChalkCastleModel", "fallen", "([I)I"⟩, 39), (⟨"ChalkCastleModel", "allChalk", "()I"⟩, 39), (⟨"ChalkCastleModel", "allLines", "()I"⟩, 39), (⟨"ChalkCastleModel", "isBlocks", "(I)Z"⟩, 39), (⟨"ChalkCastleModel", "standingWithout", "(I)I"⟩, 39), (⟨"ChalkCastleModel", "copyNow", "()V"⟩, 39), (⟨"ChalkCastleModel", "chalkBut", "(I)I"⟩, 39), (⟨"ChalkCastleModel", "itemAt", "(II)I"⟩, 39), (⟨"ChalkCastleModel", "standingBy", "(IIII)I"⟩, 39), (⟨"ChalkCastleModel", "isLeft", "(IIII)Z"⟩, 39), (⟨"ChalkCastleModel", "isOf", "(II)Z"⟩, 39), (⟨"ChalkCastleModel", "sizeOf", "(I)I"⟩, 39)]
theorem lw_r3 : ∀ q ∈ lw_privs_3, lw_okq q := List.forall_mem_cons.mpr ⟨lw_p32, List.forall_mem_cons.mpr ⟨lw_p33, List.forall_mem_cons.mpr ⟨lw_p34, List.forall_mem_cons.mpr ⟨lw_p35, List.forall_mem_cons.mpr ⟨lw_p36, List.forall_mem_cons.mpr ⟨lw_p37, List.forall_mem_cons.mpr ⟨lw_p38, List.forall_mem_cons.mpr ⟨lw_p39, List.forall_mem_cons.mpr ⟨lw_p40, List.forall_mem_cons.mpr ⟨lw_p41, List.forall_mem_cons.mpr ⟨lw_p42, List.forall_mem_cons.mpr ⟨lw_p43, List.forall_mem_cons.mpr ⟨lw_p44, List.forall_mem_cons.mpr ⟨lw_p45, List.forall_mem_cons.mpr ⟨lw_p46, List.forall_mem_cons.mpr ⟨lw_p47, fun _ h => absurd h List.not_mem_nil⟩⟩⟩⟩⟩⟩⟩⟩⟩⟩⟩⟩⟩⟩⟩⟩
theorem lw_p48 : lw_okq (⟨"ChalkCastleModel", "body11", "(I)I"⟩, 39) := ⟨⟨by decide +kernel, by decide +kernel⟩, List.mem_of_getElem? (i := 646) (by decide +kernel), List.mem_of_getElem? (i := 1088) (by decide +kernel), List.mem_of_getElem? (i := 1089) (by decide +kernel)⟩
theorem lw_p49 : lw_okq (⟨"ChalkCastleModel", "leaves", "(I)V"⟩, 39) := ⟨⟨by decide +kernel, by decide +kernel⟩, List.mem_of_getElem? (i := 646) (by decide +kernel), List.mem_of_getElem? (i := 1092) (by decide +kernel), List.mem_of_getElem? (i := 1093) (by decide +kernel)⟩
theorem lw_p50 : lw_okq (⟨"ChalkCastleModel", "body10", "(I)I"⟩, 39) := ⟨⟨by decide +kernel, by decide +kernel⟩, List.mem_of_getElem? (i := 646) (by decide +kernel), List.mem_of_getElem? (i := 1096) (by decide +kernel), List.mem_of_getElem? (i := 1097) (by decide +kernel)⟩
theorem lw_p51 : lw_okq (⟨"ChalkCastleModel", "markOf", "(I)I"⟩, 39) := ⟨⟨by decide +kernel, by decide +kernel⟩, List.mem_of_getElem? (i := 646) (by decide +kernel), List.mem_of_getElem? (i := 1100) (by decide +kernel), List.mem_of_getElem? (i := 1101) (by decide +kernel)⟩
theorem lw_p52 : lw_okq (⟨"ChalkCastleModel", "body21", "(I)I"⟩, 39) := ⟨⟨by decide +kernel, by decide +kernel⟩, List.mem_of_getElem? (i := 646) (by decide +kernel), List.mem_of_getElem? (i := 1104) (by decide +kernel), List.mem_of_getElem? (i := 1105) (by decide +kernel)⟩
theorem lw_p53 : lw_okq (⟨"ChalkCastleModel", "body20", "(I)I"⟩, 39) := ⟨⟨by decide +kernel, by decide +kernel⟩, List.mem_of_getElem? (i := 646) (by decide +kernel), List.mem_of_getElem? (i := 1108) (by decide +kernel), List.mem_of_getElem? (i := 1109) (by decide +kernel)⟩
theorem lw_p54 : lw_okq (⟨"ChalkCastleModel", "boySize", "(I)I"⟩, 39) := ⟨⟨by decide +kernel, by decide +kernel⟩, List.mem_of_getElem? (i := 646) (by decide +kernel), List.mem_of_getElem? (i := 1112) (by decide +kernel), List.mem_of_getElem? (i := 1113) (by decide +kernel)⟩
theorem lw_p55 : lw_okq (⟨"ChalkCastleModel", "body13", "(I)I"⟩, 39) := ⟨⟨by decide +kernel, by decide +kernel⟩, List.mem_of_getElem? (i := 646) (by decide +kernel), List.mem_of_getElem? (i := 1116) (by decide +kernel), List.mem_of_getElem? (i := 1117) (by decide +kernel)⟩
def lw_privs_4 : List (MethodName × Nat) := [(⟨"ChalkCastleModel", "body11", "(I)I"⟩, 39), (⟨"ChalkCastleModel", "leaves", "(I)V"⟩, 39), (⟨"ChalkCastleModel", "body10", "(I)I"⟩, 39), (⟨"ChalkCastleModel", "markOf", "(I)I"⟩, 39), (⟨"ChalkCastleModel", "body21", "(I)I"⟩, 39), (⟨"ChalkCastleModel", "body20", "(I)I"⟩, 39), (⟨"ChalkCastleModel", "boySize", "(I)I"⟩, 39), (⟨"ChalkCastleModel", "body13", "(I)I"⟩, 39)]
theorem lw_r4 : ∀ q ∈ lw_privs_4, lw_okq q := List.forall_mem_cons.mpr ⟨lw_p48, List.forall_mem_cons.mpr ⟨lw_p49, List.forall_mem_cons.mpr ⟨lw_p50, List.forall_mem_cons.mpr ⟨lw_p51, List.forall_mem_cons.mpr ⟨lw_p52, List.forall_mem_cons.mpr ⟨lw_p53, List.forall_mem_cons.mpr ⟨lw_p54, List.forall_mem_cons.mpr ⟨lw_p55, fun _ h => absurd h List.not_mem_nil⟩⟩⟩⟩⟩⟩⟩⟩
def lw_privs : List (MethodName × Nat) := lw_privs_1 ++ (lw_privs_2 ++ (lw_privs_3 ++ (lw_privs_4)))
def lw_tbl : List Cond := k2_sels lw_privs ++ tables_1
theorem lw_privs_ok : ∀ q ∈ lw_privs, lw_okq q := by
  show ∀ q ∈ lw_privs_1 ++ (lw_privs_2 ++ (lw_privs_3 ++ (lw_privs_4))), lw_okq q
  exact List.forall_mem_append.mpr ⟨lw_r1, List.forall_mem_append.mpr ⟨lw_r2, List.forall_mem_append.mpr ⟨lw_r3, lw_r4⟩⟩⟩
def RX0 : String := "ChalkCastle$Asking"
def TX0 : u_T := fun k => match k with
  | 0 => ("ChalkCastle$Asking", "trace", "[I", true)
  | 1 => ("ChalkCastle$Asking", "length", "I", false)
  | 2 => ("ChalkCastle$Asking", "number", "I", false)
  | 3 => ("ChalkCastle$Asking", "kind", "I", false)
  | 4 => ("ChalkCastle$Asking", "hand", "I", false)
  | _ => ("ChalkCastle$Asking", "lines", "I", false)
def tyX0 : Nat → FieldType := fun k => match k with
  | 0 => .array .int
  | 1 => .int
  | 2 => .int
  | 3 => .int
  | 4 => .int
  | _ => .int
abbrev wsX00 : List Cond := u_ws RX0 TX0 6
theorem nmX0 : ∀ a, a < 6 → ∀ b, b < 6 → a ≠ b → (TX0 a).2.1 ≠ (TX0 b).2.1 := by decide +kernel
theorem tyX0_ok : ∀ k, k < 6 → parseFieldDescriptor (TX0 k).2.2.1 = some (tyX0 k) := by decide +kernel
abbrev cX0_init : ByteArray := prog_2_method_1_code
def yX0_init : MethodName := ⟨RX0, "<init>", "()V"⟩
abbrev cX0_begin : ByteArray := prog_2_method_2_code
def yX0_begin : MethodName := ⟨RX0, "begin", "(IIII)V"⟩
abbrev cX0_leave : ByteArray := prog_2_method_3_code
def yX0_leave : MethodName := ⟨RX0, "leave", "(I)V"⟩
def RX1 : String := "ChalkCastle$Plan"
def TX1 : u_T := fun k => match k with
  | 0 => ("ChalkCastle$Plan", "rain", "I", false)
  | 1 => ("ChalkCastle$Plan", "rubs", "I", false)
  | 2 => ("ChalkCastle$Plan", "blocks", "I", false)
  | 3 => ("ChalkCastle$Plan", "rests", "I", false)
  | 4 => ("ChalkCastle$Plan", "clerks", "I", false)
  | 5 => ("ChalkCastle$Plan", "chalk", "[I", true)
  | 6 => ("ChalkCastle$Plan", "below", "[I", true)
  | 7 => ("ChalkCastle$Plan", "kinds", "[I", true)
  | _ => ("ChalkCastle$Plan", "hands", "[I", true)
def tyX1 : Nat → FieldType := fun k => match k with
  | 0 => .int
  | 1 => .int
  | 2 => .int
  | 3 => .int
  | 4 => .int
  | 5 => .array .int
  | 6 => .array .int
  | 7 => .array .int
  | _ => .array .int
abbrev wsX10 : List Cond := u_ws RX1 TX1 9
theorem nmX1 : ∀ a, a < 9 → ∀ b, b < 9 → a ≠ b → (TX1 a).2.1 ≠ (TX1 b).2.1 := by decide +kernel
theorem tyX1_ok : ∀ k, k < 9 → parseFieldDescriptor (TX1 k).2.2.1 = some (tyX1 k) := by decide +kernel
abbrev cX1_init : ByteArray := prog_3_method_1_code
def yX1_init : MethodName := ⟨RX1, "<init>", "()V"⟩
abbrev cX1_hasBlock : ByteArray := prog_3_method_2_code
def yX1_hasBlock : MethodName := ⟨RX1, "hasBlock", "(I)Z"⟩
abbrev cX1_hasClerk : ByteArray := prog_3_method_3_code
def yX1_hasClerk : MethodName := ⟨RX1, "hasClerk", "(I)Z"⟩
abbrev cX1_areBlocks : ByteArray := prog_3_method_4_code
def yX1_areBlocks : MethodName := ⟨RX1, "areBlocks", "(I)Z"⟩
abbrev cX1_above : ByteArray := prog_3_method_5_code
def yX1_above : MethodName := ⟨RX1, "above", "(I)I"⟩
abbrev cX1_standing : ByteArray := prog_3_method_6_code
def yX1_standing : MethodName := ⟨RX1, "standing", "(I)I"⟩
abbrev cX1_layerOf : ByteArray := prog_3_method_7_code
def yX1_layerOf : MethodName := ⟨RX1, "layerOf", "(I)I"⟩
abbrev cX1_chalkFor : ByteArray := prog_3_method_8_code
def yX1_chalkFor : MethodName := ⟨RX1, "chalkFor", "(III)I"⟩
abbrev cX1_letRain : ByteArray := prog_3_method_9_code
def yX1_letRain : MethodName := ⟨RX1, "letRain", "(LChalkCastle$State;)V"⟩
def RX2 : String := "ChalkCastle$Reader"
def TX2 : u_T := fun k => match k with
  | 0 => ("ChalkCastle$Reader", "plan", "LChalkCastle$Plan;", true)
  | 1 => ("ChalkCastle$Reader", "tape", "[I", true)
  | 2 => ("ChalkCastle$Reader", "bytes", "I", true)
  | 3 => ("ChalkCastle$Reader", "place", "I", false)
  | _ => ("ChalkCastle$Reader", "fault", "I", false)
def tyX2 : Nat → FieldType := fun k => match k with
  | 0 => .object "ChalkCastle$Plan"
  | 1 => .array .int
  | 2 => .int
  | 3 => .int
  | _ => .int
abbrev wsX20 : List Cond := u_ws RX2 TX2 5
theorem nmX2 : ∀ a, a < 5 → ∀ b, b < 5 → a ≠ b → (TX2 a).2.1 ≠ (TX2 b).2.1 := by decide +kernel
theorem tyX2_ok : ∀ k, k < 5 → parseFieldDescriptor (TX2 k).2.2.1 = some (tyX2 k) := by decide +kernel
abbrev cX2_init : ByteArray := prog_4_method_1_code
def yX2_init : MethodName := ⟨RX2, "<init>", "([II)V"⟩
abbrev cX2_readCastle : ByteArray := prog_4_method_2_code
def yX2_readCastle : MethodName := ⟨RX2, "readCastle", "()V"⟩
abbrev cX2_readLaw : ByteArray := prog_4_method_3_code
def yX2_readLaw : MethodName := ⟨RX2, "readLaw", "()V"⟩
abbrev cX2_readBlock : ByteArray := prog_4_method_4_code
def yX2_readBlock : MethodName := ⟨RX2, "readBlock", "()V"⟩
abbrev cX2_readRest : ByteArray := prog_4_method_5_code
def yX2_readRest : MethodName := ⟨RX2, "readRest", "()V"⟩
abbrev cX2_readClerk : ByteArray := prog_4_method_6_code
def yX2_readClerk : MethodName := ⟨RX2, "readClerk", "()V"⟩
abbrev cX2_kindOf : ByteArray := prog_4_method_7_code
def yX2_kindOf : MethodName := ⟨RX2, "kindOf", "(I)I"⟩
abbrev cX2_letter : ByteArray := prog_4_method_8_code
def yX2_letter : MethodName := ⟨RX2, "letter", "()I"⟩
abbrev cX2_lookForRoom : ByteArray := prog_4_method_9_code
def yX2_lookForRoom : MethodName := ⟨RX2, "lookForRoom", "(III)V"⟩
abbrev cX2_readSign : ByteArray := prog_4_method_10_code
def yX2_readSign : MethodName := ⟨RX2, "readSign", "(I)V"⟩
abbrev cX2_readNumber : ByteArray := prog_4_method_11_code
def yX2_readNumber : MethodName := ⟨RX2, "readNumber", "(II)I"⟩
def RX3 : String := "ChalkCastle$Row"
def TX3 : u_T := fun k => match k with
  | 0 => ("ChalkCastle$Row", "lane", "I", true)
  | _ => ("ChalkCastle$Row", "items", "[I", true)
def tyX3 : Nat → FieldType := fun k => match k with
  | 0 => .int
  | _ => .array .int
abbrev wsX30 : List Cond := u_ws RX3 TX3 2
theorem nmX3 : ∀ a, a < 2 → ∀ b, b < 2 → a ≠ b → (TX3 a).2.1 ≠ (TX3 b).2.1 := by decide +kernel
theorem tyX3_ok : ∀ k, k < 2 → parseFieldDescriptor (TX3 k).2.2.1 = some (tyX3 k) := by decide +kernel
abbrev cX3_init : ByteArray := prog_5_method_1_code
def yX3_init : MethodName := ⟨RX3, "<init>", "(II)V"⟩
abbrev cX3_hasPlaces : ByteArray := prog_5_method_2_code
def yX3_hasPlaces : MethodName := ⟨RX3, "hasPlaces", "(II)Z"⟩
abbrev cX3_lowestBits : ByteArray := prog_5_method_3_code
def yX3_lowestBits : MethodName := ⟨RX3, "lowestBits", "(I)I"⟩
def RX4 : String := "ChalkCastle$Search"
def TX4 : u_T := fun k => match k with
  | 0 => ("ChalkCastle$Search", "state", "LChalkCastle$State;", true)
  | 1 => ("ChalkCastle$Search", "needs", "[I", true)
  | 2 => ("ChalkCastle$Search", "way", "[I", true)
  | 3 => ("ChalkCastle$Search", "firstWay", "[I", true)
  | 4 => ("ChalkCastle$Search", "plan", "LChalkCastle$Plan;", false)
  | 5 => ("ChalkCastle$Search", "n", "I", false)
  | _ => ("ChalkCastle$Search", "most", "I", false)
def tyX4 : Nat → FieldType := fun k => match k with
  | 0 => .object "ChalkCastle$State"
  | 1 => .array .int
  | 2 => .array .int
  | 3 => .array .int
  | 4 => .object "ChalkCastle$Plan"
  | 5 => .int
  | _ => .int
abbrev wsX40 : List Cond := u_ws RX4 TX4 7
theorem nmX4 : ∀ a, a < 7 → ∀ b, b < 7 → a ≠ b → (TX4 a).2.1 ≠ (TX4 b).2.1 := by decide +kernel
theorem tyX4_ok : ∀ k, k < 7 → parseFieldDescriptor (TX4 k).2.2.1 = some (tyX4 k) := by decide +kernel
abbrev cX4_init : ByteArray := prog_6_method_1_code
def yX4_init : MethodName := ⟨RX4, "<init>", "()V"⟩
abbrev cX4_begin : ByteArray := prog_6_method_2_code
def yX4_begin : MethodName := ⟨RX4, "begin", "(LChalkCastle$Plan;LChalkCastle$State;I)V"⟩
abbrev cX4_standing : ByteArray := prog_6_method_3_code
def yX4_standing : MethodName := ⟨RX4, "standing", "()I"⟩
abbrev cX4_keepWay : ByteArray := prog_6_method_4_code
def yX4_keepWay : MethodName := ⟨RX4, "keepWay", "()V"⟩
def RX5 : String := "ChalkCastle$State"
def TX5 : u_T := fun k => match k with
  | 0 => ("ChalkCastle$State", "chalk", "[I", true)
  | 1 => ("ChalkCastle$State", "lines", "[I", true)
  | 2 => ("ChalkCastle$State", "dust", "I", false)
  | _ => ("ChalkCastle$State", "day", "I", false)
def tyX5 : Nat → FieldType := fun k => match k with
  | 0 => .array .int
  | 1 => .array .int
  | 2 => .int
  | _ => .int
abbrev wsX50 : List Cond := u_ws RX5 TX5 4
theorem nmX5 : ∀ a, a < 4 → ∀ b, b < 4 → a ≠ b → (TX5 a).2.1 ≠ (TX5 b).2.1 := by decide +kernel
theorem tyX5_ok : ∀ k, k < 4 → parseFieldDescriptor (TX5 k).2.2.1 = some (tyX5 k) := by decide +kernel
abbrev cX5_init : ByteArray := prog_7_method_1_code
def yX5_init : MethodName := ⟨RX5, "<init>", "()V"⟩
abbrev cX5_begin : ByteArray := prog_7_method_2_code
def yX5_begin : MethodName := ⟨RX5, "begin", "(LChalkCastle$Plan;)V"⟩
abbrev cX5_become : ByteArray := prog_7_method_3_code
def yX5_become : MethodName := ⟨RX5, "become", "(LChalkCastle$State;)V"⟩
abbrev cX5_useUp : ByteArray := prog_7_method_4_code
def yX5_useUp : MethodName := ⟨RX5, "useUp", "(II)V"⟩
abbrev cX5_withChalk : ByteArray := prog_7_method_5_code
def yX5_withChalk : MethodName := ⟨RX5, "withChalk", "()I"⟩
abbrev cX5_allChalk : ByteArray := prog_7_method_6_code
def yX5_allChalk : MethodName := ⟨RX5, "allChalk", "()I"⟩
abbrev cX5_allLines : ByteArray := prog_7_method_7_code
def yX5_allLines : MethodName := ⟨RX5, "allLines", "()I"⟩
def RX6 : String := "ChalkCastle"
def TX6 : u_T := fun k => match k with
  | 0 => ("ChalkCastle", "rows", "[LChalkCastle$Row;", true)
  | 1 => ("ChalkCastle", "tape", "[I", true)
  | 2 => ("ChalkCastle", "bytes", "I", false)
  | 3 => ("ChalkCastle", "latestFault", "I", false)
  | 4 => ("ChalkCastle", "finding", "I", false)
  | 5 => ("ChalkCastle", "plan", "LChalkCastle$Plan;", false)
  | 6 => ("ChalkCastle", "now", "LChalkCastle$State;", true)
  | 7 => ("ChalkCastle", "ahead", "[LChalkCastle$State;", true)
  | 8 => ("ChalkCastle", "nextAct", "I", false)
  | 9 => ("ChalkCastle", "acts", "I", false)
  | 10 => ("ChalkCastle", "imagePlans", "[LChalkCastle$Plan;", true)
  | 11 => ("ChalkCastle", "imageStates", "[LChalkCastle$State;", true)
  | 12 => ("ChalkCastle", "foretold", "LChalkCastle$State;", true)
  | 13 => ("ChalkCastle", "search", "LChalkCastle$Search;", true)
  | _ => ("ChalkCastle", "asking", "LChalkCastle$Asking;", true)
def tyX6 : Nat → FieldType := fun k => match k with
  | 0 => .array (.object "ChalkCastle$Row")
  | 1 => .array .int
  | 2 => .int
  | 3 => .int
  | 4 => .int
  | 5 => .object "ChalkCastle$Plan"
  | 6 => .object "ChalkCastle$State"
  | 7 => .array (.object "ChalkCastle$State")
  | 8 => .int
  | 9 => .int
  | 10 => .array (.object "ChalkCastle$Plan")
  | 11 => .array (.object "ChalkCastle$State")
  | 12 => .object "ChalkCastle$State"
  | 13 => .object "ChalkCastle$Search"
  | _ => .object "ChalkCastle$Asking"
abbrev wsX60 : List Cond := u_ws RX6 TX6 15
theorem nmX6 : ∀ a, a < 15 → ∀ b, b < 15 → a ≠ b → (TX6 a).2.1 ≠ (TX6 b).2.1 := by decide +kernel
theorem tyX6_ok : ∀ k, k < 15 → parseFieldDescriptor (TX6 k).2.2.1 = some (tyX6 k) := by decide +kernel
abbrev cX6_init : ByteArray := prog_1_method_1_code
def yX6_init : MethodName := ⟨RX6, "<init>", "()V"⟩
abbrev cX6_row : ByteArray := prog_1_method_2_code
def yX6_row : MethodName := ⟨RX6, "row", "(III)I"⟩
abbrev cX6_set : ByteArray := prog_1_method_3_code
def yX6_set : MethodName := ⟨RX6, "set", "(III)I"⟩
abbrev cX6_copy : ByteArray := prog_1_method_4_code
def yX6_copy : MethodName := ⟨RX6, "copy", "(IIIII)I"⟩
abbrev cX6_drop : ByteArray := prog_1_method_5_code
def yX6_drop : MethodName := ⟨RX6, "drop", "(I)I"⟩
abbrev cX6_feed : ByteArray := prog_1_method_6_code
def yX6_feed : MethodName := ⟨RX6, "feed", "(I)I"⟩
abbrev cX6_castle : ByteArray := prog_1_method_7_code
def yX6_castle : MethodName := ⟨RX6, "castle", "()I"⟩
abbrev cX6_fault : ByteArray := prog_1_method_8_code
def yX6_fault : MethodName := ⟨RX6, "fault", "()I"⟩
abbrev cX6_undo : ByteArray := prog_1_method_9_code
def yX6_undo : MethodName := ⟨RX6, "undo", "()I"⟩
abbrev cX6_write : ByteArray := prog_1_method_10_code
def yX6_write : MethodName := ⟨RX6, "write", "(III)I"⟩
abbrev cX6_rub : ByteArray := prog_1_method_11_code
def yX6_rub : MethodName := ⟨RX6, "rub", "(II)I"⟩
abbrev cX6_rain : ByteArray := prog_1_method_12_code
def yX6_rain : MethodName := ⟨RX6, "rain", "()I"⟩
abbrev cX6_days : ByteArray := prog_1_method_13_code
def yX6_days : MethodName := ⟨RX6, "days", "(I)I"⟩
abbrev cX6_block : ByteArray := prog_1_method_14_code
def yX6_block : MethodName := ⟨RX6, "block", "(II)I"⟩
abbrev cX6_clerk : ByteArray := prog_1_method_15_code
def yX6_clerk : MethodName := ⟨RX6, "clerk", "(II)I"⟩
abbrev cX6_takes : ByteArray := prog_1_method_16_code
def yX6_takes : MethodName := ⟨RX6, "takes", "(II)I"⟩
abbrev cX6_stand : ByteArray := prog_1_method_17_code
def yX6_stand : MethodName := ⟨RX6, "stand", "(I)I"⟩
abbrev cX6_wouldFall : ByteArray := prog_1_method_18_code
def yX6_wouldFall : MethodName := ⟨RX6, "wouldFall", "(I)I"⟩
abbrev cX6_left : ByteArray := prog_1_method_19_code
def yX6_left : MethodName := ⟨RX6, "left", "(I)I"⟩
abbrev cX6_leastFallen : ByteArray := prog_1_method_20_code
def yX6_leastFallen : MethodName := ⟨RX6, "leastFallen", "(III)I"⟩
abbrev cX6_must : ByteArray := prog_1_method_21_code
def yX6_must : MethodName := ⟨RX6, "must", "()I"⟩
abbrev cX6_writings : ByteArray := prog_1_method_22_code
def yX6_writings : MethodName := ⟨RX6, "writings", "(IIII)I"⟩
abbrev cX6_from : ByteArray := prog_1_method_23_code
def yX6_from : MethodName := ⟨RX6, "from", "(III)I"⟩
abbrev cX6_who : ByteArray := prog_1_method_24_code
def yX6_who : MethodName := ⟨RX6, "who", "(IIII)I"⟩
abbrev cX6_layer : ByteArray := prog_1_method_25_code
def yX6_layer : MethodName := ⟨RX6, "layer", "(I)I"⟩
abbrev cX6_longest : ByteArray := prog_1_method_26_code
def yX6_longest : MethodName := ⟨RX6, "longest", "(II)I"⟩
abbrev cX6_rains : ByteArray := prog_1_method_27_code
def yX6_rains : MethodName := ⟨RX6, "rains", "(III)J"⟩
abbrev cX6_share : ByteArray := prog_1_method_28_code
def yX6_share : MethodName := ⟨RX6, "share", "(II)I"⟩
abbrev cX6_drawn : ByteArray := prog_1_method_29_code
def yX6_drawn : MethodName := ⟨RX6, "drawn", "(III)I"⟩
abbrev cX6_image : ByteArray := prog_1_method_30_code
def yX6_image : MethodName := ⟨RX6, "image", "(I)I"⟩
abbrev cX6_restore : ByteArray := prog_1_method_31_code
def yX6_restore : MethodName := ⟨RX6, "restore", "(I)I"⟩
abbrev cX6_kind : ByteArray := prog_1_method_32_code
def yX6_kind : MethodName := ⟨RX6, "kind", "(I)I"⟩
abbrev cX6_as : ByteArray := prog_1_method_33_code
def yX6_as : MethodName := ⟨RX6, "as", "(II)I"⟩
abbrev cX6_ask : ByteArray := prog_1_method_34_code
def yX6_ask : MethodName := ⟨RX6, "ask", "(II)I"⟩
abbrev cX6_trace : ByteArray := prog_1_method_35_code
def yX6_trace : MethodName := ⟨RX6, "trace", "(I)I"⟩
abbrev cX6_count : ByteArray := prog_1_method_36_code
def yX6_count : MethodName := ⟨RX6, "count", "(I)I"⟩
abbrev cX6_status : ByteArray := prog_1_method_37_code
def yX6_status : MethodName := ⟨RX6, "status", "()I"⟩
abbrev cX6_isBelow : ByteArray := prog_1_method_38_code
def yX6_isBelow : MethodName := ⟨RX6, "isBelow", "(II)Z"⟩
abbrev cX6_isLines : ByteArray := prog_1_method_39_code
def yX6_isLines : MethodName := ⟨RX6, "isLines", "(I)Z"⟩
abbrev cX6_found : ByteArray := prog_1_method_40_code
def yX6_found : MethodName := ⟨RX6, "found", "(I)I"⟩
abbrev cX6_foundNone : ByteArray := prog_1_method_41_code
def yX6_foundNone : MethodName := ⟨RX6, "foundNone", "(I)I"⟩
abbrev cX6_hasCastle : ByteArray := prog_1_method_42_code
def yX6_hasCastle : MethodName := ⟨RX6, "hasCastle", "()Z"⟩
abbrev cX6_rowsThere : ByteArray := prog_1_method_43_code
def yX6_rowsThere : MethodName := ⟨RX6, "rowsThere", "()I"⟩
abbrev cX6_beginAct : ByteArray := prog_1_method_44_code
def yX6_beginAct : MethodName := ⟨RX6, "beginAct", "()V"⟩
abbrev cX6_standingNow : ByteArray := prog_1_method_45_code
def yX6_standingNow : MethodName := ⟨RX6, "standingNow", "()I"⟩
abbrev cX6_fallingWithout : ByteArray := prog_1_method_46_code
def yX6_fallingWithout : MethodName := ⟨RX6, "fallingWithout", "(I)I"⟩
abbrev cX6_tellsWritings : ByteArray := prog_1_method_47_code
def yX6_tellsWritings : MethodName := ⟨RX6, "tellsWritings", "([III)Z"⟩
abbrev cX6_tryBlocks : ByteArray := prog_1_method_48_code
def yX6_tryBlocks : MethodName := ⟨RX6, "tryBlocks", "(LChalkCastle$Search;I)V"⟩
abbrev cX6_onlyLessened : ByteArray := prog_1_method_49_code
def yX6_onlyLessened : MethodName := ⟨RX6, "onlyLessened", "([II)I"⟩
abbrev cX6_fitsKind : ByteArray := prog_1_method_50_code
def yX6_fitsKind : MethodName := ⟨RX6, "fitsKind", "(II[III)Z"⟩
abbrev cX6_linesAtOnce : ByteArray := prog_1_method_51_code
def yX6_linesAtOnce : MethodName := ⟨RX6, "linesAtOnce", "(II)I"⟩
abbrev cX6_drawWriting : ByteArray := prog_1_method_52_code
def yX6_drawWriting : MethodName := ⟨RX6, "drawWriting", "(J)V"⟩
abbrev cX6_answerOf : ByteArray := prog_1_method_53_code
def yX6_answerOf : MethodName := ⟨RX6, "answerOf", "(LChalkCastle$Asking;II)I"⟩
abbrev cX6_runBody : ByteArray := prog_1_method_54_code
def yX6_runBody : MethodName := ⟨RX6, "runBody", "(LChalkCastle$Asking;II)I"⟩
abbrev cX6_chalkByKind : ByteArray := prog_1_method_55_code
def yX6_chalkByKind : MethodName := ⟨RX6, "chalkByKind", "(IIII)I"⟩
abbrev cX6_power : ByteArray := prog_1_method_56_code
def yX6_power : MethodName := ⟨RX6, "power", "(JI)J"⟩
abbrev cX6_lowestTerms : ByteArray := prog_1_method_57_code
def yX6_lowestTerms : MethodName := ⟨RX6, "lowestTerms", "(JJI)J"⟩
def RX7 : String := "ChalkCastleModel"
def TX7 : u_T := fun k => match k with
  | 0 => ("ChalkCastleModel", "latest", "I", false)
  | 1 => ("ChalkCastleModel", "sizes", "[I", true)
  | 2 => ("ChalkCastleModel", "lanes", "[I", true)
  | 3 => ("ChalkCastleModel", "items", "[I", true)
  | 4 => ("ChalkCastleModel", "byteMany", "I", false)
  | 5 => ("ChalkCastleModel", "tape", "[I", true)
  | 6 => ("ChalkCastleModel", "faultNumber", "I", false)
  | 7 => ("ChalkCastleModel", "n", "I", false)
  | 8 => ("ChalkCastleModel", "restMany", "I", false)
  | 9 => ("ChalkCastleModel", "clerkMany", "I", false)
  | 10 => ("ChalkCastleModel", "rain", "I", false)
  | 11 => ("ChalkCastleModel", "rubs", "I", false)
  | 12 => ("ChalkCastleModel", "on", "[I", true)
  | 13 => ("ChalkCastleModel", "hands", "[I", true)
  | 14 => ("ChalkCastleModel", "kinds", "[I", true)
  | 15 => ("ChalkCastleModel", "now", "[I", true)
  | 16 => ("ChalkCastleModel", "tried", "[I", true)
  | 17 => ("ChalkCastleModel", "readAt", "I", false)
  | 18 => ("ChalkCastleModel", "readFault", "I", false)
  | 19 => ("ChalkCastleModel", "readBlocks", "I", false)
  | 20 => ("ChalkCastleModel", "readRests", "I", false)
  | 21 => ("ChalkCastleModel", "readClerks", "I", false)
  | 22 => ("ChalkCastleModel", "readLaw", "[I", true)
  | 23 => ("ChalkCastleModel", "readChalk", "[I", true)
  | 24 => ("ChalkCastleModel", "readOn", "[I", true)
  | 25 => ("ChalkCastleModel", "readHands", "[I", true)
  | 26 => ("ChalkCastleModel", "readKinds", "[I", true)
  | 27 => ("ChalkCastleModel", "actMany", "I", false)
  | 28 => ("ChalkCastleModel", "actAt", "I", false)
  | 29 => ("ChalkCastleModel", "acts", "[I", true)
  | 30 => ("ChalkCastleModel", "layers", "[I", true)
  | 31 => ("ChalkCastleModel", "isKept", "[Z", true)
  | 32 => ("ChalkCastleModel", "keptLaw", "[I", true)
  | 33 => ("ChalkCastleModel", "keptOn", "[I", true)
  | 34 => ("ChalkCastleModel", "keptHands", "[I", true)
  | 35 => ("ChalkCastleModel", "keptKinds", "[I", true)
  | 36 => ("ChalkCastleModel", "keptNow", "[I", true)
  | 37 => ("ChalkCastleModel", "traceMany", "I", false)
  | _ => ("ChalkCastleModel", "traced", "[I", true)
def tyX7 : Nat → FieldType := fun k => match k with
  | 0 => .int
  | 1 => .array .int
  | 2 => .array .int
  | 3 => .array .int
  | 4 => .int
  | 5 => .array .int
  | 6 => .int
  | 7 => .int
  | 8 => .int
  | 9 => .int
  | 10 => .int
  | 11 => .int
  | 12 => .array .int
  | 13 => .array .int
  | 14 => .array .int
  | 15 => .array .int
  | 16 => .array .int
  | 17 => .int
  | 18 => .int
  | 19 => .int
  | 20 => .int
  | 21 => .int
  | 22 => .array .int
  | 23 => .array .int
  | 24 => .array .int
  | 25 => .array .int
  | 26 => .array .int
  | 27 => .int
  | 28 => .int
  | 29 => .array .int
  | 30 => .array .int
  | 31 => .array .boolean
  | 32 => .array .int
  | 33 => .array .int
  | 34 => .array .int
  | 35 => .array .int
  | 36 => .array .int
  | 37 => .int
  | _ => .array .int
abbrev wsX70 : List Cond := u_ws RX7 TX7 39
theorem nmX7 : ∀ a, a < 39 → ∀ b, b < 39 → a ≠ b → (TX7 a).2.1 ≠ (TX7 b).2.1 := by decide +kernel
theorem tyX7_ok : ∀ k, k < 39 → parseFieldDescriptor (TX7 k).2.2.1 = some (tyX7 k) := by decide +kernel
abbrev cX7_init : ByteArray := prog_9_method_1_code
def yX7_init : MethodName := ⟨RX7, "<init>", "()V"⟩
abbrev cX7_in : ByteArray := prog_9_method_2_code
def yX7_in : MethodName := ⟨RX7, "in", "(III)Z"⟩
abbrev cX7_has : ByteArray := prog_9_method_3_code
def yX7_has : MethodName := ⟨RX7, "has", "(II)Z"⟩
abbrev cX7_bits : ByteArray := prog_9_method_4_code
def yX7_bits : MethodName := ⟨RX7, "bits", "(I)I"⟩
abbrev cX7_least : ByteArray := prog_9_method_5_code
def yX7_least : MethodName := ⟨RX7, "least", "(II)I"⟩
abbrev cX7_meets : ByteArray := prog_9_method_6_code
def yX7_meets : MethodName := ⟨RX7, "meets", "(I)I"⟩
abbrev cX7_well : ByteArray := prog_9_method_7_code
def yX7_well : MethodName := ⟨RX7, "well", "(I)I"⟩
abbrev cX7_status : ByteArray := prog_9_method_8_code
def yX7_status : MethodName := ⟨RX7, "status", "()I"⟩
abbrev cX7_isRow : ByteArray := prog_9_method_9_code
def yX7_isRow : MethodName := ⟨RX7, "isRow", "(I)Z"⟩
abbrev cX7_cut : ByteArray := prog_9_method_10_code
def yX7_cut : MethodName := ⟨RX7, "cut", "(II)I"⟩
abbrev cX7_row : ByteArray := prog_9_method_11_code
def yX7_row : MethodName := ⟨RX7, "row", "(III)I"⟩
abbrev cX7_set : ByteArray := prog_9_method_12_code
def yX7_set : MethodName := ⟨RX7, "set", "(III)I"⟩
abbrev cX7_isPart : ByteArray := prog_9_method_13_code
def yX7_isPart : MethodName := ⟨RX7, "isPart", "(III)Z"⟩
abbrev cX7_copy : ByteArray := prog_9_method_14_code
def yX7_copy : MethodName := ⟨RX7, "copy", "(IIIII)I"⟩
abbrev cX7_drop : ByteArray := prog_9_method_15_code
def yX7_drop : MethodName := ⟨RX7, "drop", "(I)I"⟩
abbrev cX7_itemAt : ByteArray := prog_9_method_16_code
def yX7_itemAt : MethodName := ⟨RX7, "itemAt", "(II)I"⟩
abbrev cX7_feed : ByteArray := prog_9_method_17_code
def yX7_feed : MethodName := ⟨RX7, "feed", "(I)I"⟩
abbrev cX7_fault : ByteArray := prog_9_method_18_code
def yX7_fault : MethodName := ⟨RX7, "fault", "()I"⟩
abbrev cX7_here : ByteArray := prog_9_method_19_code
def yX7_here : MethodName := ⟨RX7, "here", "()I"⟩
abbrev cX7_isFigure : ByteArray := prog_9_method_20_code
def yX7_isFigure : MethodName := ⟨RX7, "isFigure", "(I)Z"⟩
abbrev cX7_run : ByteArray := prog_9_method_21_code
def yX7_run : MethodName := ⟨RX7, "run", "()I"⟩
abbrev cX7_fails : ByteArray := prog_9_method_22_code
def yX7_fails : MethodName := ⟨RX7, "fails", "(I)Z"⟩
abbrev cX7_readsSign : ByteArray := prog_9_method_23_code
def yX7_readsSign : MethodName := ⟨RX7, "readsSign", "(I)Z"⟩
abbrev cX7_number : ByteArray := prog_9_method_24_code
def yX7_number : MethodName := ⟨RX7, "number", "(II)I"⟩
abbrev cX7_readsLaw : ByteArray := prog_9_method_25_code
def yX7_readsLaw : MethodName := ⟨RX7, "readsLaw", "()Z"⟩
abbrev cX7_readsBlock : ByteArray := prog_9_method_26_code
def yX7_readsBlock : MethodName := ⟨RX7, "readsBlock", "()Z"⟩
abbrev cX7_readsRest : ByteArray := prog_9_method_27_code
def yX7_readsRest : MethodName := ⟨RX7, "readsRest", "()Z"⟩
abbrev cX7_kindOf : ByteArray := prog_9_method_28_code
def yX7_kindOf : MethodName := ⟨RX7, "kindOf", "(I)I"⟩
abbrev cX7_readsClerk : ByteArray := prog_9_method_29_code
def yX7_readsClerk : MethodName := ⟨RX7, "readsClerk", "()Z"⟩
abbrev cX7_readsItem : ByteArray := prog_9_method_30_code
def yX7_readsItem : MethodName := ⟨RX7, "readsItem", "()Z"⟩
abbrev cX7_reads : ByteArray := prog_9_method_31_code
def yX7_reads : MethodName := ⟨RX7, "reads", "()Z"⟩
abbrev cX7_castle : ByteArray := prog_9_method_32_code
def yX7_castle : MethodName := ⟨RX7, "castle", "()I"⟩
abbrev cX7_isBlock : ByteArray := prog_9_method_33_code
def yX7_isBlock : MethodName := ⟨RX7, "isBlock", "(I)Z"⟩
abbrev cX7_isClerk : ByteArray := prog_9_method_34_code
def yX7_isClerk : MethodName := ⟨RX7, "isClerk", "(I)Z"⟩
abbrev cX7_isBlocks : ByteArray := prog_9_method_35_code
def yX7_isBlocks : MethodName := ⟨RX7, "isBlocks", "(I)Z"⟩
abbrev cX7_remember : ByteArray := prog_9_method_36_code
def yX7_remember : MethodName := ⟨RX7, "remember", "()V"⟩
abbrev cX7_undo : ByteArray := prog_9_method_37_code
def yX7_undo : MethodName := ⟨RX7, "undo", "()I"⟩
abbrev cX7_standing : ByteArray := prog_9_method_38_code
def yX7_standing : MethodName := ⟨RX7, "standing", "([I)I"⟩
abbrev cX7_fallen : ByteArray := prog_9_method_39_code
def yX7_fallen : MethodName := ⟨RX7, "fallen", "([I)I"⟩
abbrev cX7_takesBy : ByteArray := prog_9_method_40_code
def yX7_takesBy : MethodName := ⟨RX7, "takesBy", "(IIII)I"⟩
abbrev cX7_takesOf : ByteArray := prog_9_method_41_code
def yX7_takesOf : MethodName := ⟨RX7, "takesOf", "([III)I"⟩
abbrev cX7_writes : ByteArray := prog_9_method_42_code
def yX7_writes : MethodName := ⟨RX7, "writes", "([IIII)Z"⟩
abbrev cX7_restingOn : ByteArray := prog_9_method_43_code
def yX7_restingOn : MethodName := ⟨RX7, "restingOn", "(I)I"⟩
abbrev cX7_rainsOn : ByteArray := prog_9_method_44_code
def yX7_rainsOn : MethodName := ⟨RX7, "rainsOn", "([I)V"⟩
abbrev cX7_write : ByteArray := prog_9_method_45_code
def yX7_write : MethodName := ⟨RX7, "write", "(III)I"⟩
abbrev cX7_rub : ByteArray := prog_9_method_46_code
def yX7_rub : MethodName := ⟨RX7, "rub", "(II)I"⟩
abbrev cX7_rain : ByteArray := prog_9_method_47_code
def yX7_rain : MethodName := ⟨RX7, "rain", "()I"⟩
abbrev cX7_days : ByteArray := prog_9_method_48_code
def yX7_days : MethodName := ⟨RX7, "days", "(I)I"⟩
abbrev cX7_block : ByteArray := prog_9_method_49_code
def yX7_block : MethodName := ⟨RX7, "block", "(II)I"⟩
abbrev cX7_clerk : ByteArray := prog_9_method_50_code
def yX7_clerk : MethodName := ⟨RX7, "clerk", "(II)I"⟩
abbrev cX7_takes : ByteArray := prog_9_method_51_code
def yX7_takes : MethodName := ⟨RX7, "takes", "(II)I"⟩
abbrev cX7_allLines : ByteArray := prog_9_method_52_code
def yX7_allLines : MethodName := ⟨RX7, "allLines", "()I"⟩
abbrev cX7_allChalk : ByteArray := prog_9_method_53_code
def yX7_allChalk : MethodName := ⟨RX7, "allChalk", "()I"⟩
abbrev cX7_stand : ByteArray := prog_9_method_54_code
def yX7_stand : MethodName := ⟨RX7, "stand", "(I)I"⟩
abbrev cX7_copyNow : ByteArray := prog_9_method_55_code
def yX7_copyNow : MethodName := ⟨RX7, "copyNow", "()V"⟩
abbrev cX7_standingWithout : ByteArray := prog_9_method_56_code
def yX7_standingWithout : MethodName := ⟨RX7, "standingWithout", "(I)I"⟩
abbrev cX7_wouldFall : ByteArray := prog_9_method_57_code
def yX7_wouldFall : MethodName := ⟨RX7, "wouldFall", "(I)I"⟩
abbrev cX7_left : ByteArray := prog_9_method_58_code
def yX7_left : MethodName := ⟨RX7, "left", "(I)I"⟩
abbrev cX7_chalkBut : ByteArray := prog_9_method_59_code
def yX7_chalkBut : MethodName := ⟨RX7, "chalkBut", "(I)I"⟩
abbrev cX7_leastFallen : ByteArray := prog_9_method_60_code
def yX7_leastFallen : MethodName := ⟨RX7, "leastFallen", "(III)I"⟩
abbrev cX7_must : ByteArray := prog_9_method_61_code
def yX7_must : MethodName := ⟨RX7, "must", "()I"⟩
abbrev cX7_standingBy : ByteArray := prog_9_method_62_code
def yX7_standingBy : MethodName := ⟨RX7, "standingBy", "(IIII)I"⟩
abbrev cX7_writings : ByteArray := prog_9_method_63_code
def yX7_writings : MethodName := ⟨RX7, "writings", "(IIII)I"⟩
abbrev cX7_isLeft : ByteArray := prog_9_method_64_code
def yX7_isLeft : MethodName := ⟨RX7, "isLeft", "(IIII)Z"⟩
abbrev cX7_from : ByteArray := prog_9_method_65_code
def yX7_from : MethodName := ⟨RX7, "from", "(III)I"⟩
abbrev cX7_who : ByteArray := prog_9_method_66_code
def yX7_who : MethodName := ⟨RX7, "who", "(IIII)I"⟩
abbrev cX7_layer : ByteArray := prog_9_method_67_code
def yX7_layer : MethodName := ⟨RX7, "layer", "(I)I"⟩
abbrev cX7_longest : ByteArray := prog_9_method_68_code
def yX7_longest : MethodName := ⟨RX7, "longest", "(II)I"⟩
abbrev cX7_common : ByteArray := prog_9_method_69_code
def yX7_common : MethodName := ⟨RX7, "common", "(JJ)J"⟩
abbrev cX7_rains : ByteArray := prog_9_method_70_code
def yX7_rains : MethodName := ⟨RX7, "rains", "(III)J"⟩
abbrev cX7_share : ByteArray := prog_9_method_71_code
def yX7_share : MethodName := ⟨RX7, "share", "(II)I"⟩
abbrev cX7_drawn : ByteArray := prog_9_method_72_code
def yX7_drawn : MethodName := ⟨RX7, "drawn", "(III)I"⟩
abbrev cX7_image : ByteArray := prog_9_method_73_code
def yX7_image : MethodName := ⟨RX7, "image", "(I)I"⟩
abbrev cX7_restore : ByteArray := prog_9_method_74_code
def yX7_restore : MethodName := ⟨RX7, "restore", "(I)I"⟩
abbrev cX7_kind : ByteArray := prog_9_method_75_code
def yX7_kind : MethodName := ⟨RX7, "kind", "(I)I"⟩
abbrev cX7_isOf : ByteArray := prog_9_method_76_code
def yX7_isOf : MethodName := ⟨RX7, "isOf", "(II)Z"⟩
abbrev cX7_as : ByteArray := prog_9_method_77_code
def yX7_as : MethodName := ⟨RX7, "as", "(II)I"⟩
abbrev cX7_leaves : ByteArray := prog_9_method_78_code
def yX7_leaves : MethodName := ⟨RX7, "leaves", "(I)V"⟩
abbrev cX7_body10 : ByteArray := prog_9_method_79_code
def yX7_body10 : MethodName := ⟨RX7, "body10", "(I)I"⟩
abbrev cX7_body13 : ByteArray := prog_9_method_80_code
def yX7_body13 : MethodName := ⟨RX7, "body13", "(I)I"⟩
abbrev cX7_boySize : ByteArray := prog_9_method_81_code
def yX7_boySize : MethodName := ⟨RX7, "boySize", "(I)I"⟩
abbrev cX7_body20 : ByteArray := prog_9_method_82_code
def yX7_body20 : MethodName := ⟨RX7, "body20", "(I)I"⟩
abbrev cX7_body21 : ByteArray := prog_9_method_83_code
def yX7_body21 : MethodName := ⟨RX7, "body21", "(I)I"⟩
abbrev cX7_markOf : ByteArray := prog_9_method_84_code
def yX7_markOf : MethodName := ⟨RX7, "markOf", "(I)I"⟩
abbrev cX7_body11 : ByteArray := prog_9_method_85_code
def yX7_body11 : MethodName := ⟨RX7, "body11", "(I)I"⟩
abbrev cX7_sizeOf : ByteArray := prog_9_method_86_code
def yX7_sizeOf : MethodName := ⟨RX7, "sizeOf", "(I)I"⟩
abbrev cX7_ask : ByteArray := prog_9_method_87_code
def yX7_ask : MethodName := ⟨RX7, "ask", "(II)I"⟩
abbrev cX7_trace : ByteArray := prog_9_method_88_code
def yX7_trace : MethodName := ⟨RX7, "trace", "(I)I"⟩
abbrev cX7_count : ByteArray := prog_9_method_89_code
def yX7_count : MethodName := ⟨RX7, "count", "(I)I"⟩
def RJ6 : String := "java/lang/Integer"
def TJ6 : u_T := fun k => match k with
  | _ => ("", "", "", false)
def tyJ6 : Nat → FieldType := fun k => match k with
  | _ => .int
theorem nmJ6 : ∀ a, a < 0 → ∀ b, b < 0 → a ≠ b → (TJ6 a).2.1 ≠ (TJ6 b).2.1 := by decide +kernel
theorem tyJ6_ok : ∀ k, k < 0 → parseFieldDescriptor (TJ6 k).2.2.1 = some (tyJ6 k) := by decide +kernel
abbrev cJ6_bitCount_0f7a4 : ByteArray := prog_10_method_49_code
def yJ6_bitCount_0f7a4 : MethodName := ⟨RJ6, "bitCount", "(I)I"⟩
def RJ9 : String := "java/lang/Math"
def TJ9 : u_T := fun k => match k with
  | _ => ("", "", "", false)
def tyJ9 : Nat → FieldType := fun k => match k with
  | _ => .int
theorem nmJ9 : ∀ a, a < 0 → ∀ b, b < 0 → a ≠ b → (TJ9 a).2.1 ≠ (TJ9 b).2.1 := by decide +kernel
theorem tyJ9_ok : ∀ k, k < 0 → parseFieldDescriptor (TJ9 k).2.2.1 = some (tyJ9 k) := by decide +kernel
abbrev cJ9_max_7cf53 : ByteArray := prog_11_method_65_code
def yJ9_max_7cf53 : MethodName := ⟨RJ9, "max", "(II)I"⟩
abbrev cJ9_min_7cf53 : ByteArray := prog_11_method_69_code
def yJ9_min_7cf53 : MethodName := ⟨RJ9, "min", "(II)I"⟩
def RJ10 : String := "java/lang/System"
def TJ10 : u_T := fun k => match k with
  | _ => ("", "", "", false)
def tyJ10 : Nat → FieldType := fun k => match k with
  | _ => .int
theorem nmJ10 : ∀ a, a < 0 → ∀ b, b < 0 → a ≠ b → (TJ10 a).2.1 ≠ (TJ10 b).2.1 := by decide +kernel
theorem tyJ10_ok : ∀ k, k < 0 → parseFieldDescriptor (TJ10 k).2.2.1 = some (tyJ10 k) := by decide +kernel
def RL : String := "ChalkCastleLaw"
abbrev cL_law : ByteArray := code
def yL_law : MethodName := ⟨RL, "law", "([I)Z"⟩
abbrev vwCl : List vw_C := [(RX0, TX0, 6), (RX1, TX1, 9), (RX2, TX2, 5), (RX3, TX3, 2), (RX4, TX4, 7), (RX5, TX5, 4), (RX6, TX6, 15), (RX7, TX7, 39)]
end
section
theorem dX0_init_0 : decode cX0_init 0 = .ok (.aload_n 0, 1) := by decide +kernel
theorem dX0_init_1 : decode cX0_init 1 = .ok (.invokespecial 3, 3) := by decide +kernel
theorem dX0_init_4 : decode cX0_init 4 = .ok (.aload_n 0, 1) := by decide +kernel
theorem dX0_init_5 : decode cX0_init 5 = .ok (.bipush 16, 2) := by decide +kernel
theorem dX0_init_7 : decode cX0_init 7 = .ok (.newarray .int, 2) := by decide +kernel
theorem dX0_init_9 : decode cX0_init 9 = .ok (.putfield 9, 3) := by decide +kernel
theorem dX0_init_12 : decode cX0_init 12 = .ok (.aload_n 0, 1) := by decide +kernel
theorem dX0_init_13 : decode cX0_init 13 = .ok (.iconst 0, 1) := by decide +kernel
theorem dX0_init_14 : decode cX0_init 14 = .ok (.putfield 15, 3) := by decide +kernel
theorem dX0_init_17 : decode cX0_init 17 = .ok (.aload_n 0, 1) := by decide +kernel
theorem dX0_init_18 : decode cX0_init 18 = .ok (.iconst 0, 1) := by decide +kernel
theorem dX0_init_19 : decode cX0_init 19 = .ok (.putfield 19, 3) := by decide +kernel
theorem dX0_init_22 : decode cX0_init 22 = .ok (.aload_n 0, 1) := by decide +kernel
theorem dX0_init_23 : decode cX0_init 23 = .ok (.iconst 0, 1) := by decide +kernel
theorem dX0_init_24 : decode cX0_init 24 = .ok (.putfield 22, 3) := by decide +kernel
theorem dX0_init_27 : decode cX0_init 27 = .ok (.aload_n 0, 1) := by decide +kernel
theorem dX0_init_28 : decode cX0_init 28 = .ok (.iconst 0, 1) := by decide +kernel
theorem dX0_init_29 : decode cX0_init 29 = .ok (.putfield 25, 3) := by decide +kernel
theorem dX0_init_32 : decode cX0_init 32 = .ok (.aload_n 0, 1) := by decide +kernel
theorem dX0_init_33 : decode cX0_init 33 = .ok (.iconst 0, 1) := by decide +kernel
theorem dX0_init_34 : decode cX0_init 34 = .ok (.putfield 28, 3) := by decide +kernel
theorem dX0_init_37 : decode cX0_init 37 = .ok (.return_, 1) := by decide +kernel
theorem dX0_begin_0 : decode cX0_begin 0 = .ok (.aload_n 0, 1) := by decide +kernel
theorem dX0_begin_1 : decode cX0_begin 1 = .ok (.iconst 0, 1) := by decide +kernel
theorem dX0_begin_2 : decode cX0_begin 2 = .ok (.putfield 15, 3) := by decide +kernel
theorem dX0_begin_5 : decode cX0_begin 5 = .ok (.aload_n 0, 1) := by decide +kernel
theorem dX0_begin_6 : decode cX0_begin 6 = .ok (.iload_n 1, 1) := by decide +kernel
theorem dX0_begin_7 : decode cX0_begin 7 = .ok (.putfield 19, 3) := by decide +kernel
theorem dX0_begin_10 : decode cX0_begin 10 = .ok (.aload_n 0, 1) := by decide +kernel
theorem dX0_begin_11 : decode cX0_begin 11 = .ok (.iload_n 2, 1) := by decide +kernel
theorem dX0_begin_12 : decode cX0_begin 12 = .ok (.putfield 22, 3) := by decide +kernel
theorem dX0_begin_15 : decode cX0_begin 15 = .ok (.aload_n 0, 1) := by decide +kernel
theorem dX0_begin_16 : decode cX0_begin 16 = .ok (.iload_n 3, 1) := by decide +kernel
theorem dX0_begin_17 : decode cX0_begin 17 = .ok (.putfield 25, 3) := by decide +kernel
theorem dX0_begin_20 : decode cX0_begin 20 = .ok (.aload_n 0, 1) := by decide +kernel
theorem dX0_begin_21 : decode cX0_begin 21 = .ok (.iload 4, 2) := by decide +kernel
theorem dX0_begin_23 : decode cX0_begin 23 = .ok (.putfield 28, 3) := by decide +kernel
theorem dX0_begin_26 : decode cX0_begin 26 = .ok (.return_, 1) := by decide +kernel
theorem dX0_leave_0 : decode cX0_leave 0 = .ok (.aload_n 0, 1) := by decide +kernel
theorem dX0_leave_1 : decode cX0_leave 1 = .ok (.getfield 15, 3) := by decide +kernel
theorem dX0_leave_4 : decode cX0_leave 4 = .ok (.bipush 16, 2) := by decide +kernel
theorem dX0_leave_6 : decode cX0_leave 6 = .ok (.if_icmp .ge 23, 3) := by decide +kernel
theorem dX0_leave_9 : decode cX0_leave 9 = .ok (.aload_n 0, 1) := by decide +kernel
theorem dX0_leave_10 : decode cX0_leave 10 = .ok (.getfield 9, 3) := by decide +kernel
theorem dX0_leave_13 : decode cX0_leave 13 = .ok (.aload_n 0, 1) := by decide +kernel
theorem dX0_leave_14 : decode cX0_leave 14 = .ok (.getfield 15, 3) := by decide +kernel
theorem dX0_leave_17 : decode cX0_leave 17 = .ok (.iload_n 1, 1) := by decide +kernel
theorem dX0_leave_18 : decode cX0_leave 18 = .ok (.iastore, 1) := by decide +kernel
theorem dX0_leave_19 : decode cX0_leave 19 = .ok (.aload_n 0, 1) := by decide +kernel
theorem dX0_leave_20 : decode cX0_leave 20 = .ok (.dup, 1) := by decide +kernel
theorem dX0_leave_21 : decode cX0_leave 21 = .ok (.getfield 15, 3) := by decide +kernel
theorem dX0_leave_24 : decode cX0_leave 24 = .ok (.iconst 1, 1) := by decide +kernel
theorem dX0_leave_25 : decode cX0_leave 25 = .ok (.iadd, 1) := by decide +kernel
theorem dX0_leave_26 : decode cX0_leave 26 = .ok (.putfield 15, 3) := by decide +kernel
theorem dX0_leave_29 : decode cX0_leave 29 = .ok (.return_, 1) := by decide +kernel
theorem dX1_init_0 : decode cX1_init 0 = .ok (.aload_n 0, 1) := by decide +kernel
theorem dX1_init_1 : decode cX1_init 1 = .ok (.invokespecial 3, 3) := by decide +kernel
theorem dX1_init_4 : decode cX1_init 4 = .ok (.aload_n 0, 1) := by decide +kernel
theorem dX1_init_5 : decode cX1_init 5 = .ok (.iconst 0, 1) := by decide +kernel
theorem dX1_init_6 : decode cX1_init 6 = .ok (.putfield 9, 3) := by decide +kernel
theorem dX1_init_9 : decode cX1_init 9 = .ok (.aload_n 0, 1) := by decide +kernel
theorem dX1_init_10 : decode cX1_init 10 = .ok (.iconst 0, 1) := by decide +kernel
theorem dX1_init_11 : decode cX1_init 11 = .ok (.putfield 15, 3) := by decide +kernel
theorem dX1_init_14 : decode cX1_init 14 = .ok (.aload_n 0, 1) := by decide +kernel
theorem dX1_init_15 : decode cX1_init 15 = .ok (.iconst 0, 1) := by decide +kernel
theorem dX1_init_16 : decode cX1_init 16 = .ok (.putfield 18, 3) := by decide +kernel
theorem dX1_init_19 : decode cX1_init 19 = .ok (.aload_n 0, 1) := by decide +kernel
theorem dX1_init_20 : decode cX1_init 20 = .ok (.iconst 0, 1) := by decide +kernel
theorem dX1_init_21 : decode cX1_init 21 = .ok (.putfield 21, 3) := by decide +kernel
theorem dX1_init_24 : decode cX1_init 24 = .ok (.aload_n 0, 1) := by decide +kernel
theorem dX1_init_25 : decode cX1_init 25 = .ok (.iconst 0, 1) := by decide +kernel
theorem dX1_init_26 : decode cX1_init 26 = .ok (.putfield 24, 3) := by decide +kernel
theorem dX1_init_29 : decode cX1_init 29 = .ok (.aload_n 0, 1) := by decide +kernel
theorem dX1_init_30 : decode cX1_init 30 = .ok (.bipush 8, 2) := by decide +kernel
theorem dX1_init_32 : decode cX1_init 32 = .ok (.newarray .int, 2) := by decide +kernel
theorem dX1_init_34 : decode cX1_init 34 = .ok (.putfield 27, 3) := by decide +kernel
theorem dX1_init_37 : decode cX1_init 37 = .ok (.aload_n 0, 1) := by decide +kernel
theorem dX1_init_38 : decode cX1_init 38 = .ok (.bipush 8, 2) := by decide +kernel
theorem dX1_init_40 : decode cX1_init 40 = .ok (.newarray .int, 2) := by decide +kernel
theorem dX1_init_42 : decode cX1_init 42 = .ok (.putfield 31, 3) := by decide +kernel
theorem dX1_init_45 : decode cX1_init 45 = .ok (.aload_n 0, 1) := by decide +kernel
theorem dX1_init_46 : decode cX1_init 46 = .ok (.iconst 4, 1) := by decide +kernel
theorem dX1_init_47 : decode cX1_init 47 = .ok (.newarray .int, 2) := by decide +kernel
theorem dX1_init_49 : decode cX1_init 49 = .ok (.putfield 34, 3) := by decide +kernel
theorem dX1_init_52 : decode cX1_init 52 = .ok (.aload_n 0, 1) := by decide +kernel
theorem dX1_init_53 : decode cX1_init 53 = .ok (.iconst 4, 1) := by decide +kernel
theorem dX1_init_54 : decode cX1_init 54 = .ok (.newarray .int, 2) := by decide +kernel
theorem dX1_init_56 : decode cX1_init 56 = .ok (.putfield 37, 3) := by decide +kernel
theorem dX1_init_59 : decode cX1_init 59 = .ok (.return_, 1) := by decide +kernel
theorem dX1_hasBlock_0 : decode cX1_hasBlock 0 = .ok (.iload_n 1, 1) := by decide +kernel
theorem dX1_hasBlock_1 : decode cX1_hasBlock 1 = .ok (.aload_n 0, 1) := by decide +kernel
theorem dX1_hasBlock_2 : decode cX1_hasBlock 2 = .ok (.getfield 18, 3) := by decide +kernel
theorem dX1_hasBlock_5 : decode cX1_hasBlock 5 = .ok (.invokestatic 40, 3) := by decide +kernel
theorem dX1_hasBlock_8 : decode cX1_hasBlock 8 = .ok (.ireturn, 1) := by decide +kernel
theorem dX1_hasClerk_0 : decode cX1_hasClerk 0 = .ok (.iload_n 1, 1) := by decide +kernel
theorem dX1_hasClerk_1 : decode cX1_hasClerk 1 = .ok (.aload_n 0, 1) := by decide +kernel
theorem dX1_hasClerk_2 : decode cX1_hasClerk 2 = .ok (.getfield 24, 3) := by decide +kernel
theorem dX1_hasClerk_5 : decode cX1_hasClerk 5 = .ok (.invokestatic 40, 3) := by decide +kernel
theorem dX1_hasClerk_8 : decode cX1_hasClerk 8 = .ok (.ireturn, 1) := by decide +kernel
theorem dX1_areBlocks_0 : decode cX1_areBlocks 0 = .ok (.iload_n 1, 1) := by decide +kernel
theorem dX1_areBlocks_1 : decode cX1_areBlocks 1 = .ok (.iconst 1, 1) := by decide +kernel
theorem dX1_areBlocks_2 : decode cX1_areBlocks 2 = .ok (.aload_n 0, 1) := by decide +kernel
theorem dX1_areBlocks_3 : decode cX1_areBlocks 3 = .ok (.getfield 18, 3) := by decide +kernel
theorem dX1_areBlocks_6 : decode cX1_areBlocks 6 = .ok (.ishl, 1) := by decide +kernel
theorem dX1_areBlocks_7 : decode cX1_areBlocks 7 = .ok (.invokestatic 40, 3) := by decide +kernel
theorem dX1_areBlocks_10 : decode cX1_areBlocks 10 = .ok (.ireturn, 1) := by decide +kernel
theorem dX1_above_0 : decode cX1_above 0 = .ok (.iconst 0, 1) := by decide +kernel
theorem dX1_above_1 : decode cX1_above 1 = .ok (.istore_n 2, 1) := by decide +kernel
theorem dX1_above_2 : decode cX1_above 2 = .ok (.iconst 0, 1) := by decide +kernel
theorem dX1_above_3 : decode cX1_above 3 = .ok (.istore_n 3, 1) := by decide +kernel
theorem dX1_above_4 : decode cX1_above 4 = .ok (.iload_n 3, 1) := by decide +kernel
theorem dX1_above_5 : decode cX1_above 5 = .ok (.aload_n 0, 1) := by decide +kernel
theorem dX1_above_6 : decode cX1_above 6 = .ok (.getfield 18, 3) := by decide +kernel
theorem dX1_above_9 : decode cX1_above 9 = .ok (.if_icmp .ge 29, 3) := by decide +kernel
theorem dX1_above_12 : decode cX1_above 12 = .ok (.aload_n 0, 1) := by decide +kernel
theorem dX1_above_13 : decode cX1_above 13 = .ok (.getfield 31, 3) := by decide +kernel
theorem dX1_above_16 : decode cX1_above 16 = .ok (.iload_n 3, 1) := by decide +kernel
theorem dX1_above_17 : decode cX1_above 17 = .ok (.iaload, 1) := by decide +kernel
theorem dX1_above_18 : decode cX1_above 18 = .ok (.iload_n 1, 1) := by decide +kernel
theorem dX1_above_19 : decode cX1_above 19 = .ok (.ishr, 1) := by decide +kernel
theorem dX1_above_20 : decode cX1_above 20 = .ok (.iconst 1, 1) := by decide +kernel
theorem dX1_above_21 : decode cX1_above 21 = .ok (.iand, 1) := by decide +kernel
theorem dX1_above_22 : decode cX1_above 22 = .ok (.iconst 1, 1) := by decide +kernel
theorem dX1_above_23 : decode cX1_above 23 = .ok (.if_icmp .ne 9, 3) := by decide +kernel
theorem dX1_above_26 : decode cX1_above 26 = .ok (.iload_n 2, 1) := by decide +kernel
theorem dX1_above_27 : decode cX1_above 27 = .ok (.iconst 1, 1) := by decide +kernel
theorem dX1_above_28 : decode cX1_above 28 = .ok (.iload_n 3, 1) := by decide +kernel
theorem dX1_above_29 : decode cX1_above 29 = .ok (.ishl, 1) := by decide +kernel
theorem dX1_above_30 : decode cX1_above 30 = .ok (.ior, 1) := by decide +kernel
theorem dX1_above_31 : decode cX1_above 31 = .ok (.istore_n 2, 1) := by decide +kernel
theorem dX1_above_32 : decode cX1_above 32 = .ok (.iinc 3 1, 3) := by decide +kernel
theorem dX1_above_35 : decode cX1_above 35 = .ok (.goto (-31), 3) := by decide +kernel
theorem dX1_above_38 : decode cX1_above 38 = .ok (.iload_n 2, 1) := by decide +kernel
theorem dX1_above_39 : decode cX1_above 39 = .ok (.ireturn, 1) := by decide +kernel
theorem dX1_standing_0 : decode cX1_standing 0 = .ok (.iconst 0, 1) := by decide +kernel
theorem dX1_standing_1 : decode cX1_standing 1 = .ok (.istore_n 2, 1) := by decide +kernel
theorem dX1_standing_2 : decode cX1_standing 2 = .ok (.iconst 0, 1) := by decide +kernel
theorem dX1_standing_3 : decode cX1_standing 3 = .ok (.istore_n 3, 1) := by decide +kernel
theorem dX1_standing_4 : decode cX1_standing 4 = .ok (.iload_n 3, 1) := by decide +kernel
theorem dX1_standing_5 : decode cX1_standing 5 = .ok (.aload_n 0, 1) := by decide +kernel
theorem dX1_standing_6 : decode cX1_standing 6 = .ok (.getfield 18, 3) := by decide +kernel
theorem dX1_standing_9 : decode cX1_standing 9 = .ok (.if_icmp .ge 56, 3) := by decide +kernel
theorem dX1_standing_12 : decode cX1_standing 12 = .ok (.aload_n 0, 1) := by decide +kernel
theorem dX1_standing_13 : decode cX1_standing 13 = .ok (.getfield 31, 3) := by decide +kernel
theorem dX1_standing_16 : decode cX1_standing 16 = .ok (.iload_n 3, 1) := by decide +kernel
theorem dX1_standing_17 : decode cX1_standing 17 = .ok (.iaload, 1) := by decide +kernel
theorem dX1_standing_18 : decode cX1_standing 18 = .ok (.ifCond .eq 14, 3) := by decide +kernel
theorem dX1_standing_21 : decode cX1_standing 21 = .ok (.aload_n 0, 1) := by decide +kernel
theorem dX1_standing_22 : decode cX1_standing 22 = .ok (.getfield 31, 3) := by decide +kernel
theorem dX1_standing_25 : decode cX1_standing 25 = .ok (.iload_n 3, 1) := by decide +kernel
theorem dX1_standing_26 : decode cX1_standing 26 = .ok (.iaload, 1) := by decide +kernel
theorem dX1_standing_27 : decode cX1_standing 27 = .ok (.iload_n 2, 1) := by decide +kernel
theorem dX1_standing_28 : decode cX1_standing 28 = .ok (.iand, 1) := by decide +kernel
theorem dX1_standing_29 : decode cX1_standing 29 = .ok (.ifCond .eq 7, 3) := by decide +kernel
theorem dX1_standing_32 : decode cX1_standing 32 = .ok (.iconst 1, 1) := by decide +kernel
theorem dX1_standing_33 : decode cX1_standing 33 = .ok (.goto 4, 3) := by decide +kernel
theorem dX1_standing_36 : decode cX1_standing 36 = .ok (.iconst 0, 1) := by decide +kernel
theorem dX1_standing_37 : decode cX1_standing 37 = .ok (.istore 4, 2) := by decide +kernel
theorem dX1_standing_39 : decode cX1_standing 39 = .ok (.iload 4, 2) := by decide +kernel
theorem dX1_standing_41 : decode cX1_standing 41 = .ok (.ifCond .eq 18, 3) := by decide +kernel
theorem dX1_standing_44 : decode cX1_standing 44 = .ok (.iload_n 1, 1) := by decide +kernel
theorem dX1_standing_45 : decode cX1_standing 45 = .ok (.iload_n 3, 1) := by decide +kernel
theorem dX1_standing_46 : decode cX1_standing 46 = .ok (.ishr, 1) := by decide +kernel
theorem dX1_standing_47 : decode cX1_standing 47 = .ok (.iconst 1, 1) := by decide +kernel
theorem dX1_standing_48 : decode cX1_standing 48 = .ok (.iand, 1) := by decide +kernel
theorem dX1_standing_49 : decode cX1_standing 49 = .ok (.iconst 1, 1) := by decide +kernel
theorem dX1_standing_50 : decode cX1_standing 50 = .ok (.if_icmp .ne 9, 3) := by decide +kernel
theorem dX1_standing_53 : decode cX1_standing 53 = .ok (.iload_n 2, 1) := by decide +kernel
theorem dX1_standing_54 : decode cX1_standing 54 = .ok (.iconst 1, 1) := by decide +kernel
theorem dX1_standing_55 : decode cX1_standing 55 = .ok (.iload_n 3, 1) := by decide +kernel
theorem dX1_standing_56 : decode cX1_standing 56 = .ok (.ishl, 1) := by decide +kernel
theorem dX1_standing_57 : decode cX1_standing 57 = .ok (.ior, 1) := by decide +kernel
theorem dX1_standing_58 : decode cX1_standing 58 = .ok (.istore_n 2, 1) := by decide +kernel
theorem dX1_standing_59 : decode cX1_standing 59 = .ok (.iinc 3 1, 3) := by decide +kernel
theorem dX1_standing_62 : decode cX1_standing 62 = .ok (.goto (-58), 3) := by decide +kernel
theorem dX1_standing_65 : decode cX1_standing 65 = .ok (.iload_n 2, 1) := by decide +kernel
theorem dX1_standing_66 : decode cX1_standing 66 = .ok (.ireturn, 1) := by decide +kernel
theorem dX1_layerOf_0 : decode cX1_layerOf 0 = .ok (.bipush 8, 2) := by decide +kernel
theorem dX1_layerOf_2 : decode cX1_layerOf 2 = .ok (.newarray .int, 2) := by decide +kernel
theorem dX1_layerOf_4 : decode cX1_layerOf 4 = .ok (.astore_n 2, 1) := by decide +kernel
theorem dX1_layerOf_5 : decode cX1_layerOf 5 = .ok (.iconst 0, 1) := by decide +kernel
theorem dX1_layerOf_6 : decode cX1_layerOf 6 = .ok (.istore_n 3, 1) := by decide +kernel
theorem dX1_layerOf_7 : decode cX1_layerOf 7 = .ok (.iload_n 3, 1) := by decide +kernel
theorem dX1_layerOf_8 : decode cX1_layerOf 8 = .ok (.iload_n 1, 1) := by decide +kernel
theorem dX1_layerOf_9 : decode cX1_layerOf 9 = .ok (.if_icmp .gt 54, 3) := by decide +kernel
theorem dX1_layerOf_12 : decode cX1_layerOf 12 = .ok (.iconst 0, 1) := by decide +kernel
theorem dX1_layerOf_13 : decode cX1_layerOf 13 = .ok (.istore 4, 2) := by decide +kernel
theorem dX1_layerOf_15 : decode cX1_layerOf 15 = .ok (.iload 4, 2) := by decide +kernel
theorem dX1_layerOf_17 : decode cX1_layerOf 17 = .ok (.iload_n 3, 1) := by decide +kernel
theorem dX1_layerOf_18 : decode cX1_layerOf 18 = .ok (.if_icmp .ge 39, 3) := by decide +kernel
theorem dX1_layerOf_21 : decode cX1_layerOf 21 = .ok (.aload_n 0, 1) := by decide +kernel
theorem dX1_layerOf_22 : decode cX1_layerOf 22 = .ok (.getfield 31, 3) := by decide +kernel
theorem dX1_layerOf_25 : decode cX1_layerOf 25 = .ok (.iload_n 3, 1) := by decide +kernel
theorem dX1_layerOf_26 : decode cX1_layerOf 26 = .ok (.iaload, 1) := by decide +kernel
theorem dX1_layerOf_27 : decode cX1_layerOf 27 = .ok (.iload 4, 2) := by decide +kernel
theorem dX1_layerOf_29 : decode cX1_layerOf 29 = .ok (.ishr, 1) := by decide +kernel
theorem dX1_layerOf_30 : decode cX1_layerOf 30 = .ok (.iconst 1, 1) := by decide +kernel
theorem dX1_layerOf_31 : decode cX1_layerOf 31 = .ok (.iand, 1) := by decide +kernel
theorem dX1_layerOf_32 : decode cX1_layerOf 32 = .ok (.iconst 1, 1) := by decide +kernel
theorem dX1_layerOf_33 : decode cX1_layerOf 33 = .ok (.if_icmp .ne 18, 3) := by decide +kernel
theorem dX1_layerOf_36 : decode cX1_layerOf 36 = .ok (.aload_n 2, 1) := by decide +kernel
theorem dX1_layerOf_37 : decode cX1_layerOf 37 = .ok (.iload_n 3, 1) := by decide +kernel
theorem dX1_layerOf_38 : decode cX1_layerOf 38 = .ok (.aload_n 2, 1) := by decide +kernel
theorem dX1_layerOf_39 : decode cX1_layerOf 39 = .ok (.iload_n 3, 1) := by decide +kernel
theorem dX1_layerOf_40 : decode cX1_layerOf 40 = .ok (.iaload, 1) := by decide +kernel
theorem dX1_layerOf_41 : decode cX1_layerOf 41 = .ok (.aload_n 2, 1) := by decide +kernel
theorem dX1_layerOf_42 : decode cX1_layerOf 42 = .ok (.iload 4, 2) := by decide +kernel
theorem dX1_layerOf_44 : decode cX1_layerOf 44 = .ok (.iaload, 1) := by decide +kernel
theorem dX1_layerOf_45 : decode cX1_layerOf 45 = .ok (.iconst 1, 1) := by decide +kernel
theorem dX1_layerOf_46 : decode cX1_layerOf 46 = .ok (.iadd, 1) := by decide +kernel
theorem dX1_layerOf_47 : decode cX1_layerOf 47 = .ok (.invokestatic 44, 3) := by decide +kernel
theorem dX1_layerOf_50 : decode cX1_layerOf 50 = .ok (.iastore, 1) := by decide +kernel
theorem dX1_layerOf_51 : decode cX1_layerOf 51 = .ok (.iinc 4 1, 3) := by decide +kernel
theorem dX1_layerOf_54 : decode cX1_layerOf 54 = .ok (.goto (-39), 3) := by decide +kernel
theorem dX1_layerOf_57 : decode cX1_layerOf 57 = .ok (.iinc 3 1, 3) := by decide +kernel
theorem dX1_layerOf_60 : decode cX1_layerOf 60 = .ok (.goto (-53), 3) := by decide +kernel
theorem dX1_layerOf_63 : decode cX1_layerOf 63 = .ok (.aload_n 2, 1) := by decide +kernel
theorem dX1_layerOf_64 : decode cX1_layerOf 64 = .ok (.iload_n 1, 1) := by decide +kernel
theorem dX1_layerOf_65 : decode cX1_layerOf 65 = .ok (.iaload, 1) := by decide +kernel
theorem dX1_layerOf_66 : decode cX1_layerOf 66 = .ok (.ireturn, 1) := by decide +kernel
theorem dX1_chalkFor_0 : decode cX1_chalkFor 0 = .ok (.aload_n 0, 1) := by decide +kernel
theorem dX1_chalkFor_1 : decode cX1_chalkFor 1 = .ok (.getfield 34, 3) := by decide +kernel
theorem dX1_chalkFor_4 : decode cX1_chalkFor 4 = .ok (.iload_n 1, 1) := by decide +kernel
theorem dX1_chalkFor_5 : decode cX1_chalkFor 5 = .ok (.iaload, 1) := by decide +kernel
theorem dX1_chalkFor_6 : decode cX1_chalkFor 6 = .ok (.aload_n 0, 1) := by decide +kernel
theorem dX1_chalkFor_7 : decode cX1_chalkFor 7 = .ok (.getfield 37, 3) := by decide +kernel
theorem dX1_chalkFor_10 : decode cX1_chalkFor 10 = .ok (.iload_n 1, 1) := by decide +kernel
theorem dX1_chalkFor_11 : decode cX1_chalkFor 11 = .ok (.iaload, 1) := by decide +kernel
theorem dX1_chalkFor_12 : decode cX1_chalkFor 12 = .ok (.iload_n 2, 1) := by decide +kernel
theorem dX1_chalkFor_13 : decode cX1_chalkFor 13 = .ok (.iload_n 3, 1) := by decide +kernel
theorem dX1_chalkFor_14 : decode cX1_chalkFor 14 = .ok (.invokestatic 50, 3) := by decide +kernel
theorem dX1_chalkFor_17 : decode cX1_chalkFor 17 = .ok (.ireturn, 1) := by decide +kernel
theorem dX1_letRain_0 : decode cX1_letRain 0 = .ok (.aload_n 0, 1) := by decide +kernel
theorem dX1_letRain_1 : decode cX1_letRain 1 = .ok (.aload_n 1, 1) := by decide +kernel
theorem dX1_letRain_2 : decode cX1_letRain 2 = .ok (.invokevirtual 54, 3) := by decide +kernel
theorem dX1_letRain_5 : decode cX1_letRain 5 = .ok (.invokevirtual 60, 3) := by decide +kernel
theorem dX1_letRain_8 : decode cX1_letRain 8 = .ok (.istore_n 2, 1) := by decide +kernel
theorem dX1_letRain_9 : decode cX1_letRain 9 = .ok (.iconst 0, 1) := by decide +kernel
theorem dX1_letRain_10 : decode cX1_letRain 10 = .ok (.istore_n 3, 1) := by decide +kernel
theorem dX1_letRain_11 : decode cX1_letRain 11 = .ok (.iload_n 3, 1) := by decide +kernel
theorem dX1_letRain_12 : decode cX1_letRain 12 = .ok (.aload_n 0, 1) := by decide +kernel
theorem dX1_letRain_13 : decode cX1_letRain 13 = .ok (.getfield 18, 3) := by decide +kernel
theorem dX1_letRain_16 : decode cX1_letRain 16 = .ok (.if_icmp .ge 49, 3) := by decide +kernel
theorem dX1_letRain_19 : decode cX1_letRain 19 = .ok (.iload_n 2, 1) := by decide +kernel
theorem dX1_letRain_20 : decode cX1_letRain 20 = .ok (.iload_n 3, 1) := by decide +kernel
theorem dX1_letRain_21 : decode cX1_letRain 21 = .ok (.ishr, 1) := by decide +kernel
theorem dX1_letRain_22 : decode cX1_letRain 22 = .ok (.iconst 1, 1) := by decide +kernel
theorem dX1_letRain_23 : decode cX1_letRain 23 = .ok (.iand, 1) := by decide +kernel
theorem dX1_letRain_24 : decode cX1_letRain 24 = .ok (.iconst 1, 1) := by decide +kernel
theorem dX1_letRain_25 : decode cX1_letRain 25 = .ok (.if_icmp .ne 34, 3) := by decide +kernel
theorem dX1_letRain_28 : decode cX1_letRain 28 = .ok (.aload_n 0, 1) := by decide +kernel
theorem dX1_letRain_29 : decode cX1_letRain 29 = .ok (.iload_n 3, 1) := by decide +kernel
theorem dX1_letRain_30 : decode cX1_letRain 30 = .ok (.invokevirtual 64, 3) := by decide +kernel
theorem dX1_letRain_33 : decode cX1_letRain 33 = .ok (.iload_n 2, 1) := by decide +kernel
theorem dX1_letRain_34 : decode cX1_letRain 34 = .ok (.iand, 1) := by decide +kernel
theorem dX1_letRain_35 : decode cX1_letRain 35 = .ok (.ifCond .ne 24, 3) := by decide +kernel
theorem dX1_letRain_38 : decode cX1_letRain 38 = .ok (.aload_n 1, 1) := by decide +kernel
theorem dX1_letRain_39 : decode cX1_letRain 39 = .ok (.getfield 67, 3) := by decide +kernel
theorem dX1_letRain_42 : decode cX1_letRain 42 = .ok (.iload_n 3, 1) := by decide +kernel
theorem dX1_letRain_43 : decode cX1_letRain 43 = .ok (.iconst 0, 1) := by decide +kernel
theorem dX1_letRain_44 : decode cX1_letRain 44 = .ok (.aload_n 1, 1) := by decide +kernel
theorem dX1_letRain_45 : decode cX1_letRain 45 = .ok (.getfield 67, 3) := by decide +kernel
theorem dX1_letRain_48 : decode cX1_letRain 48 = .ok (.iload_n 3, 1) := by decide +kernel
theorem dX1_letRain_49 : decode cX1_letRain 49 = .ok (.iaload, 1) := by decide +kernel
theorem dX1_letRain_50 : decode cX1_letRain 50 = .ok (.aload_n 0, 1) := by decide +kernel
theorem dX1_letRain_51 : decode cX1_letRain 51 = .ok (.getfield 9, 3) := by decide +kernel
theorem dX1_letRain_54 : decode cX1_letRain 54 = .ok (.isub, 1) := by decide +kernel
theorem dX1_letRain_55 : decode cX1_letRain 55 = .ok (.invokestatic 44, 3) := by decide +kernel
theorem dX1_letRain_58 : decode cX1_letRain 58 = .ok (.iastore, 1) := by decide +kernel
theorem dX1_letRain_59 : decode cX1_letRain 59 = .ok (.iinc 3 1, 3) := by decide +kernel
theorem dX1_letRain_62 : decode cX1_letRain 62 = .ok (.goto (-51), 3) := by decide +kernel
theorem dX1_letRain_65 : decode cX1_letRain 65 = .ok (.return_, 1) := by decide +kernel
theorem dX2_init_0 : decode cX2_init 0 = .ok (.aload_n 0, 1) := by decide +kernel
theorem dX2_init_1 : decode cX2_init 1 = .ok (.invokespecial 3, 3) := by decide +kernel
theorem dX2_init_4 : decode cX2_init 4 = .ok (.aload_n 0, 1) := by decide +kernel
theorem dX2_init_5 : decode cX2_init 5 = .ok (.new 9, 3) := by decide +kernel
theorem dX2_init_8 : decode cX2_init 8 = .ok (.dup, 1) := by decide +kernel
theorem dX2_init_9 : decode cX2_init 9 = .ok (.invokespecial 11, 3) := by decide +kernel
theorem dX2_init_12 : decode cX2_init 12 = .ok (.putfield 12, 3) := by decide +kernel
theorem dX2_init_15 : decode cX2_init 15 = .ok (.aload_n 0, 1) := by decide +kernel
theorem dX2_init_16 : decode cX2_init 16 = .ok (.iconst 0, 1) := by decide +kernel
theorem dX2_init_17 : decode cX2_init 17 = .ok (.putfield 18, 3) := by decide +kernel
theorem dX2_init_20 : decode cX2_init 20 = .ok (.aload_n 0, 1) := by decide +kernel
theorem dX2_init_21 : decode cX2_init 21 = .ok (.iconst 0, 1) := by decide +kernel
theorem dX2_init_22 : decode cX2_init 22 = .ok (.putfield 22, 3) := by decide +kernel
theorem dX2_init_25 : decode cX2_init 25 = .ok (.aload_n 0, 1) := by decide +kernel
theorem dX2_init_26 : decode cX2_init 26 = .ok (.aload_n 1, 1) := by decide +kernel
theorem dX2_init_27 : decode cX2_init 27 = .ok (.putfield 25, 3) := by decide +kernel
theorem dX2_init_30 : decode cX2_init 30 = .ok (.aload_n 0, 1) := by decide +kernel
theorem dX2_init_31 : decode cX2_init 31 = .ok (.iload_n 2, 1) := by decide +kernel
theorem dX2_init_32 : decode cX2_init 32 = .ok (.aload_n 1, 1) := by decide +kernel
theorem dX2_init_33 : decode cX2_init 33 = .ok (.arraylength, 1) := by decide +kernel
theorem dX2_init_34 : decode cX2_init 34 = .ok (.invokestatic 29, 3) := by decide +kernel
theorem dX2_init_37 : decode cX2_init 37 = .ok (.putfield 35, 3) := by decide +kernel
theorem dX2_init_40 : decode cX2_init 40 = .ok (.return_, 1) := by decide +kernel
theorem dX2_readCastle_0 : decode cX2_readCastle 0 = .ok (.aload_n 0, 1) := by decide +kernel
theorem dX2_readCastle_1 : decode cX2_readCastle 1 = .ok (.invokevirtual 38, 3) := by decide +kernel
theorem dX2_readCastle_4 : decode cX2_readCastle 4 = .ok (.aload_n 0, 1) := by decide +kernel
theorem dX2_readCastle_5 : decode cX2_readCastle 5 = .ok (.invokevirtual 41, 3) := by decide +kernel
theorem dX2_readCastle_8 : decode cX2_readCastle 8 = .ok (.iconst 1, 1) := by decide +kernel
theorem dX2_readCastle_9 : decode cX2_readCastle 9 = .ok (.istore_n 1, 1) := by decide +kernel
theorem dX2_readCastle_10 : decode cX2_readCastle 10 = .ok (.iload_n 1, 1) := by decide +kernel
theorem dX2_readCastle_11 : decode cX2_readCastle 11 = .ok (.bipush 8, 2) := by decide +kernel
theorem dX2_readCastle_13 : decode cX2_readCastle 13 = .ok (.if_icmp .gt 29, 3) := by decide +kernel
theorem dX2_readCastle_16 : decode cX2_readCastle 16 = .ok (.aload_n 0, 1) := by decide +kernel
theorem dX2_readCastle_17 : decode cX2_readCastle 17 = .ok (.getfield 22, 3) := by decide +kernel
theorem dX2_readCastle_20 : decode cX2_readCastle 20 = .ok (.ifCond .ne 22, 3) := by decide +kernel
theorem dX2_readCastle_23 : decode cX2_readCastle 23 = .ok (.aload_n 0, 1) := by decide +kernel
theorem dX2_readCastle_24 : decode cX2_readCastle 24 = .ok (.invokevirtual 44, 3) := by decide +kernel
theorem dX2_readCastle_27 : decode cX2_readCastle 27 = .ok (.bipush 98, 2) := by decide +kernel
theorem dX2_readCastle_29 : decode cX2_readCastle 29 = .ok (.if_icmp .ne 13, 3) := by decide +kernel
theorem dX2_readCastle_32 : decode cX2_readCastle 32 = .ok (.aload_n 0, 1) := by decide +kernel
theorem dX2_readCastle_33 : decode cX2_readCastle 33 = .ok (.invokevirtual 41, 3) := by decide +kernel
theorem dX2_readCastle_36 : decode cX2_readCastle 36 = .ok (.iinc 1 1, 3) := by decide +kernel
theorem dX2_readCastle_39 : decode cX2_readCastle 39 = .ok (.goto (-29), 3) := by decide +kernel
theorem dX2_readCastle_42 : decode cX2_readCastle 42 = .ok (.iconst 0, 1) := by decide +kernel
theorem dX2_readCastle_43 : decode cX2_readCastle 43 = .ok (.istore_n 1, 1) := by decide +kernel
theorem dX2_readCastle_44 : decode cX2_readCastle 44 = .ok (.iload_n 1, 1) := by decide +kernel
theorem dX2_readCastle_45 : decode cX2_readCastle 45 = .ok (.bipush 12, 2) := by decide +kernel
theorem dX2_readCastle_47 : decode cX2_readCastle 47 = .ok (.if_icmp .gt 29, 3) := by decide +kernel
theorem dX2_readCastle_50 : decode cX2_readCastle 50 = .ok (.aload_n 0, 1) := by decide +kernel
theorem dX2_readCastle_51 : decode cX2_readCastle 51 = .ok (.getfield 22, 3) := by decide +kernel
theorem dX2_readCastle_54 : decode cX2_readCastle 54 = .ok (.ifCond .ne 22, 3) := by decide +kernel
theorem dX2_readCastle_57 : decode cX2_readCastle 57 = .ok (.aload_n 0, 1) := by decide +kernel
theorem dX2_readCastle_58 : decode cX2_readCastle 58 = .ok (.invokevirtual 44, 3) := by decide +kernel
theorem dX2_readCastle_61 : decode cX2_readCastle 61 = .ok (.bipush 114, 2) := by decide +kernel
theorem dX2_readCastle_63 : decode cX2_readCastle 63 = .ok (.if_icmp .ne 13, 3) := by decide +kernel
theorem dX2_readCastle_66 : decode cX2_readCastle 66 = .ok (.aload_n 0, 1) := by decide +kernel
theorem dX2_readCastle_67 : decode cX2_readCastle 67 = .ok (.invokevirtual 48, 3) := by decide +kernel
theorem dX2_readCastle_70 : decode cX2_readCastle 70 = .ok (.iinc 1 1, 3) := by decide +kernel
theorem dX2_readCastle_73 : decode cX2_readCastle 73 = .ok (.goto (-29), 3) := by decide +kernel
theorem dX2_readCastle_76 : decode cX2_readCastle 76 = .ok (.iconst 0, 1) := by decide +kernel
theorem dX2_readCastle_77 : decode cX2_readCastle 77 = .ok (.istore_n 1, 1) := by decide +kernel
theorem dX2_readCastle_78 : decode cX2_readCastle 78 = .ok (.iload_n 1, 1) := by decide +kernel
theorem dX2_readCastle_79 : decode cX2_readCastle 79 = .ok (.iconst 4, 1) := by decide +kernel
theorem dX2_readCastle_80 : decode cX2_readCastle 80 = .ok (.if_icmp .gt 30, 3) := by decide +kernel
theorem dX2_readCastle_83 : decode cX2_readCastle 83 = .ok (.aload_n 0, 1) := by decide +kernel
theorem dX2_readCastle_84 : decode cX2_readCastle 84 = .ok (.getfield 22, 3) := by decide +kernel
theorem dX2_readCastle_87 : decode cX2_readCastle 87 = .ok (.ifCond .ne 23, 3) := by decide +kernel
theorem dX2_readCastle_90 : decode cX2_readCastle 90 = .ok (.aload_n 0, 1) := by decide +kernel
theorem dX2_readCastle_91 : decode cX2_readCastle 91 = .ok (.invokevirtual 44, 3) := by decide +kernel
theorem dX2_readCastle_94 : decode cX2_readCastle 94 = .ok (.invokestatic 51, 3) := by decide +kernel
theorem dX2_readCastle_97 : decode cX2_readCastle 97 = .ok (.ifCond .eq 13, 3) := by decide +kernel
theorem dX2_readCastle_100 : decode cX2_readCastle 100 = .ok (.aload_n 0, 1) := by decide +kernel
theorem dX2_readCastle_101 : decode cX2_readCastle 101 = .ok (.invokevirtual 55, 3) := by decide +kernel
theorem dX2_readCastle_104 : decode cX2_readCastle 104 = .ok (.iinc 1 1, 3) := by decide +kernel
theorem dX2_readCastle_107 : decode cX2_readCastle 107 = .ok (.goto (-29), 3) := by decide +kernel
theorem dX2_readCastle_110 : decode cX2_readCastle 110 = .ok (.aload_n 0, 1) := by decide +kernel
theorem dX2_readCastle_111 : decode cX2_readCastle 111 = .ok (.getfield 22, 3) := by decide +kernel
theorem dX2_readCastle_114 : decode cX2_readCastle 114 = .ok (.ifCond .ne 19, 3) := by decide +kernel
theorem dX2_readCastle_117 : decode cX2_readCastle 117 = .ok (.aload_n 0, 1) := by decide +kernel
theorem dX2_readCastle_118 : decode cX2_readCastle 118 = .ok (.getfield 18, 3) := by decide +kernel
theorem dX2_readCastle_121 : decode cX2_readCastle 121 = .ok (.aload_n 0, 1) := by decide +kernel
theorem dX2_readCastle_122 : decode cX2_readCastle 122 = .ok (.getfield 35, 3) := by decide +kernel
theorem dX2_readCastle_125 : decode cX2_readCastle 125 = .ok (.if_icmp .ge 8, 3) := by decide +kernel
theorem dX2_readCastle_128 : decode cX2_readCastle 128 = .ok (.aload_n 0, 1) := by decide +kernel
theorem dX2_readCastle_129 : decode cX2_readCastle 129 = .ok (.iconst 1, 1) := by decide +kernel
theorem dX2_readCastle_130 : decode cX2_readCastle 130 = .ok (.putfield 22, 3) := by decide +kernel
theorem dX2_readCastle_133 : decode cX2_readCastle 133 = .ok (.return_, 1) := by decide +kernel
theorem dX2_readLaw_0 : decode cX2_readLaw 0 = .ok (.aload_n 0, 1) := by decide +kernel
theorem dX2_readLaw_1 : decode cX2_readLaw 1 = .ok (.bipush 107, 2) := by decide +kernel
theorem dX2_readLaw_3 : decode cX2_readLaw 3 = .ok (.invokevirtual 58, 3) := by decide +kernel
theorem dX2_readLaw_6 : decode cX2_readLaw 6 = .ok (.aload_n 0, 1) := by decide +kernel
theorem dX2_readLaw_7 : decode cX2_readLaw 7 = .ok (.getfield 12, 3) := by decide +kernel
theorem dX2_readLaw_10 : decode cX2_readLaw 10 = .ok (.aload_n 0, 1) := by decide +kernel
theorem dX2_readLaw_11 : decode cX2_readLaw 11 = .ok (.iconst 1, 1) := by decide +kernel
theorem dX2_readLaw_12 : decode cX2_readLaw 12 = .ok (.bipush 9, 2) := by decide +kernel
theorem dX2_readLaw_14 : decode cX2_readLaw 14 = .ok (.invokevirtual 62, 3) := by decide +kernel
theorem dX2_readLaw_17 : decode cX2_readLaw 17 = .ok (.putfield 65, 3) := by decide +kernel
theorem dX2_readLaw_20 : decode cX2_readLaw 20 = .ok (.aload_n 0, 1) := by decide +kernel
theorem dX2_readLaw_21 : decode cX2_readLaw 21 = .ok (.bipush 44, 2) := by decide +kernel
theorem dX2_readLaw_23 : decode cX2_readLaw 23 = .ok (.invokevirtual 58, 3) := by decide +kernel
theorem dX2_readLaw_26 : decode cX2_readLaw 26 = .ok (.aload_n 0, 1) := by decide +kernel
theorem dX2_readLaw_27 : decode cX2_readLaw 27 = .ok (.getfield 12, 3) := by decide +kernel
theorem dX2_readLaw_30 : decode cX2_readLaw 30 = .ok (.aload_n 0, 1) := by decide +kernel
theorem dX2_readLaw_31 : decode cX2_readLaw 31 = .ok (.iconst 0, 1) := by decide +kernel
theorem dX2_readLaw_32 : decode cX2_readLaw 32 = .ok (.bipush 10, 2) := by decide +kernel
theorem dX2_readLaw_34 : decode cX2_readLaw 34 = .ok (.invokevirtual 62, 3) := by decide +kernel
theorem dX2_readLaw_37 : decode cX2_readLaw 37 = .ok (.putfield 68, 3) := by decide +kernel
theorem dX2_readLaw_40 : decode cX2_readLaw 40 = .ok (.aload_n 0, 1) := by decide +kernel
theorem dX2_readLaw_41 : decode cX2_readLaw 41 = .ok (.bipush 59, 2) := by decide +kernel
theorem dX2_readLaw_43 : decode cX2_readLaw 43 = .ok (.invokevirtual 58, 3) := by decide +kernel
theorem dX2_readLaw_46 : decode cX2_readLaw 46 = .ok (.return_, 1) := by decide +kernel
theorem dX2_readBlock_0 : decode cX2_readBlock 0 = .ok (.aload_n 0, 1) := by decide +kernel
theorem dX2_readBlock_1 : decode cX2_readBlock 1 = .ok (.bipush 98, 2) := by decide +kernel
theorem dX2_readBlock_3 : decode cX2_readBlock 3 = .ok (.aload_n 0, 1) := by decide +kernel
theorem dX2_readBlock_4 : decode cX2_readBlock 4 = .ok (.getfield 12, 3) := by decide +kernel
theorem dX2_readBlock_7 : decode cX2_readBlock 7 = .ok (.getfield 71, 3) := by decide +kernel
theorem dX2_readBlock_10 : decode cX2_readBlock 10 = .ok (.bipush 8, 2) := by decide +kernel
theorem dX2_readBlock_12 : decode cX2_readBlock 12 = .ok (.invokevirtual 74, 3) := by decide +kernel
theorem dX2_readBlock_15 : decode cX2_readBlock 15 = .ok (.aload_n 0, 1) := by decide +kernel
theorem dX2_readBlock_16 : decode cX2_readBlock 16 = .ok (.bipush 98, 2) := by decide +kernel
theorem dX2_readBlock_18 : decode cX2_readBlock 18 = .ok (.invokevirtual 58, 3) := by decide +kernel
theorem dX2_readBlock_21 : decode cX2_readBlock 21 = .ok (.aload_n 0, 1) := by decide +kernel
theorem dX2_readBlock_22 : decode cX2_readBlock 22 = .ok (.iconst 1, 1) := by decide +kernel
theorem dX2_readBlock_23 : decode cX2_readBlock 23 = .ok (.bipush 30, 2) := by decide +kernel
theorem dX2_readBlock_25 : decode cX2_readBlock 25 = .ok (.invokevirtual 62, 3) := by decide +kernel
theorem dX2_readBlock_28 : decode cX2_readBlock 28 = .ok (.istore_n 1, 1) := by decide +kernel
theorem dX2_readBlock_29 : decode cX2_readBlock 29 = .ok (.aload_n 0, 1) := by decide +kernel
theorem dX2_readBlock_30 : decode cX2_readBlock 30 = .ok (.bipush 59, 2) := by decide +kernel
theorem dX2_readBlock_32 : decode cX2_readBlock 32 = .ok (.invokevirtual 58, 3) := by decide +kernel
theorem dX2_readBlock_35 : decode cX2_readBlock 35 = .ok (.aload_n 0, 1) := by decide +kernel
theorem dX2_readBlock_36 : decode cX2_readBlock 36 = .ok (.getfield 22, 3) := by decide +kernel
theorem dX2_readBlock_39 : decode cX2_readBlock 39 = .ok (.ifCond .ne 32, 3) := by decide +kernel
theorem dX2_readBlock_42 : decode cX2_readBlock 42 = .ok (.aload_n 0, 1) := by decide +kernel
theorem dX2_readBlock_43 : decode cX2_readBlock 43 = .ok (.getfield 12, 3) := by decide +kernel
theorem dX2_readBlock_46 : decode cX2_readBlock 46 = .ok (.getfield 78, 3) := by decide +kernel
theorem dX2_readBlock_49 : decode cX2_readBlock 49 = .ok (.aload_n 0, 1) := by decide +kernel
theorem dX2_readBlock_50 : decode cX2_readBlock 50 = .ok (.getfield 12, 3) := by decide +kernel
theorem dX2_readBlock_53 : decode cX2_readBlock 53 = .ok (.getfield 71, 3) := by decide +kernel
theorem dX2_readBlock_56 : decode cX2_readBlock 56 = .ok (.iload_n 1, 1) := by decide +kernel
theorem dX2_readBlock_57 : decode cX2_readBlock 57 = .ok (.iastore, 1) := by decide +kernel
theorem dX2_readBlock_58 : decode cX2_readBlock 58 = .ok (.aload_n 0, 1) := by decide +kernel
theorem dX2_readBlock_59 : decode cX2_readBlock 59 = .ok (.getfield 12, 3) := by decide +kernel
theorem dX2_readBlock_62 : decode cX2_readBlock 62 = .ok (.dup, 1) := by decide +kernel
theorem dX2_readBlock_63 : decode cX2_readBlock 63 = .ok (.getfield 71, 3) := by decide +kernel
theorem dX2_readBlock_66 : decode cX2_readBlock 66 = .ok (.iconst 1, 1) := by decide +kernel
theorem dX2_readBlock_67 : decode cX2_readBlock 67 = .ok (.iadd, 1) := by decide +kernel
theorem dX2_readBlock_68 : decode cX2_readBlock 68 = .ok (.putfield 71, 3) := by decide +kernel
theorem dX2_readBlock_71 : decode cX2_readBlock 71 = .ok (.return_, 1) := by decide +kernel
theorem dX2_readRest_0 : decode cX2_readRest 0 = .ok (.aload_n 0, 1) := by decide +kernel
theorem dX2_readRest_1 : decode cX2_readRest 1 = .ok (.bipush 114, 2) := by decide +kernel
theorem dX2_readRest_3 : decode cX2_readRest 3 = .ok (.aload_n 0, 1) := by decide +kernel
theorem dX2_readRest_4 : decode cX2_readRest 4 = .ok (.getfield 12, 3) := by decide +kernel
theorem dX2_readRest_7 : decode cX2_readRest 7 = .ok (.getfield 81, 3) := by decide +kernel
theorem dX2_readRest_10 : decode cX2_readRest 10 = .ok (.bipush 12, 2) := by decide +kernel
theorem dX2_readRest_12 : decode cX2_readRest 12 = .ok (.invokevirtual 74, 3) := by decide +kernel
theorem dX2_readRest_15 : decode cX2_readRest 15 = .ok (.aload_n 0, 1) := by decide +kernel
theorem dX2_readRest_16 : decode cX2_readRest 16 = .ok (.bipush 114, 2) := by decide +kernel
theorem dX2_readRest_18 : decode cX2_readRest 18 = .ok (.invokevirtual 58, 3) := by decide +kernel
theorem dX2_readRest_21 : decode cX2_readRest 21 = .ok (.aload_n 0, 1) := by decide +kernel
theorem dX2_readRest_22 : decode cX2_readRest 22 = .ok (.iconst 0, 1) := by decide +kernel
theorem dX2_readRest_23 : decode cX2_readRest 23 = .ok (.aload_n 0, 1) := by decide +kernel
theorem dX2_readRest_24 : decode cX2_readRest 24 = .ok (.getfield 12, 3) := by decide +kernel
theorem dX2_readRest_27 : decode cX2_readRest 27 = .ok (.getfield 71, 3) := by decide +kernel
theorem dX2_readRest_30 : decode cX2_readRest 30 = .ok (.iconst 1, 1) := by decide +kernel
theorem dX2_readRest_31 : decode cX2_readRest 31 = .ok (.isub, 1) := by decide +kernel
theorem dX2_readRest_32 : decode cX2_readRest 32 = .ok (.invokevirtual 62, 3) := by decide +kernel
theorem dX2_readRest_35 : decode cX2_readRest 35 = .ok (.istore_n 1, 1) := by decide +kernel
theorem dX2_readRest_36 : decode cX2_readRest 36 = .ok (.aload_n 0, 1) := by decide +kernel
theorem dX2_readRest_37 : decode cX2_readRest 37 = .ok (.bipush 44, 2) := by decide +kernel
theorem dX2_readRest_39 : decode cX2_readRest 39 = .ok (.invokevirtual 58, 3) := by decide +kernel
theorem dX2_readRest_42 : decode cX2_readRest 42 = .ok (.aload_n 0, 1) := by decide +kernel
theorem dX2_readRest_43 : decode cX2_readRest 43 = .ok (.getfield 18, 3) := by decide +kernel
theorem dX2_readRest_46 : decode cX2_readRest 46 = .ok (.istore_n 2, 1) := by decide +kernel
theorem dX2_readRest_47 : decode cX2_readRest 47 = .ok (.aload_n 0, 1) := by decide +kernel
theorem dX2_readRest_48 : decode cX2_readRest 48 = .ok (.iconst 0, 1) := by decide +kernel
theorem dX2_readRest_49 : decode cX2_readRest 49 = .ok (.iload_n 1, 1) := by decide +kernel
theorem dX2_readRest_50 : decode cX2_readRest 50 = .ok (.iconst 1, 1) := by decide +kernel
theorem dX2_readRest_51 : decode cX2_readRest 51 = .ok (.isub, 1) := by decide +kernel
theorem dX2_readRest_52 : decode cX2_readRest 52 = .ok (.invokevirtual 62, 3) := by decide +kernel
theorem dX2_readRest_55 : decode cX2_readRest 55 = .ok (.istore_n 3, 1) := by decide +kernel
theorem dX2_readRest_56 : decode cX2_readRest 56 = .ok (.aload_n 0, 1) := by decide +kernel
theorem dX2_readRest_57 : decode cX2_readRest 57 = .ok (.getfield 22, 3) := by decide +kernel
theorem dX2_readRest_60 : decode cX2_readRest 60 = .ok (.ifCond .ne 30, 3) := by decide +kernel
theorem dX2_readRest_63 : decode cX2_readRest 63 = .ok (.aload_n 0, 1) := by decide +kernel
theorem dX2_readRest_64 : decode cX2_readRest 64 = .ok (.getfield 12, 3) := by decide +kernel
theorem dX2_readRest_67 : decode cX2_readRest 67 = .ok (.getfield 84, 3) := by decide +kernel
theorem dX2_readRest_70 : decode cX2_readRest 70 = .ok (.iload_n 1, 1) := by decide +kernel
theorem dX2_readRest_71 : decode cX2_readRest 71 = .ok (.iaload, 1) := by decide +kernel
theorem dX2_readRest_72 : decode cX2_readRest 72 = .ok (.iload_n 3, 1) := by decide +kernel
theorem dX2_readRest_73 : decode cX2_readRest 73 = .ok (.ishr, 1) := by decide +kernel
theorem dX2_readRest_74 : decode cX2_readRest 74 = .ok (.iconst 1, 1) := by decide +kernel
theorem dX2_readRest_75 : decode cX2_readRest 75 = .ok (.iand, 1) := by decide +kernel
theorem dX2_readRest_76 : decode cX2_readRest 76 = .ok (.iconst 1, 1) := by decide +kernel
theorem dX2_readRest_77 : decode cX2_readRest 77 = .ok (.if_icmp .ne 13, 3) := by decide +kernel
theorem dX2_readRest_80 : decode cX2_readRest 80 = .ok (.aload_n 0, 1) := by decide +kernel
theorem dX2_readRest_81 : decode cX2_readRest 81 = .ok (.iload_n 2, 1) := by decide +kernel
theorem dX2_readRest_82 : decode cX2_readRest 82 = .ok (.putfield 18, 3) := by decide +kernel
theorem dX2_readRest_85 : decode cX2_readRest 85 = .ok (.aload_n 0, 1) := by decide +kernel
theorem dX2_readRest_86 : decode cX2_readRest 86 = .ok (.iconst 2, 1) := by decide +kernel
theorem dX2_readRest_87 : decode cX2_readRest 87 = .ok (.putfield 22, 3) := by decide +kernel
theorem dX2_readRest_90 : decode cX2_readRest 90 = .ok (.aload_n 0, 1) := by decide +kernel
theorem dX2_readRest_91 : decode cX2_readRest 91 = .ok (.bipush 59, 2) := by decide +kernel
theorem dX2_readRest_93 : decode cX2_readRest 93 = .ok (.invokevirtual 58, 3) := by decide +kernel
theorem dX2_readRest_96 : decode cX2_readRest 96 = .ok (.aload_n 0, 1) := by decide +kernel
theorem dX2_readRest_97 : decode cX2_readRest 97 = .ok (.getfield 22, 3) := by decide +kernel
theorem dX2_readRest_100 : decode cX2_readRest 100 = .ok (.ifCond .ne 31, 3) := by decide +kernel
theorem dX2_readRest_103 : decode cX2_readRest 103 = .ok (.aload_n 0, 1) := by decide +kernel
theorem dX2_readRest_104 : decode cX2_readRest 104 = .ok (.getfield 12, 3) := by decide +kernel
theorem dX2_readRest_107 : decode cX2_readRest 107 = .ok (.getfield 84, 3) := by decide +kernel
theorem dX2_readRest_110 : decode cX2_readRest 110 = .ok (.iload_n 1, 1) := by decide +kernel
theorem dX2_readRest_111 : decode cX2_readRest 111 = .ok (.dup2, 1) := by decide +kernel
theorem dX2_readRest_112 : decode cX2_readRest 112 = .ok (.iaload, 1) := by decide +kernel
theorem dX2_readRest_113 : decode cX2_readRest 113 = .ok (.iconst 1, 1) := by decide +kernel
theorem dX2_readRest_114 : decode cX2_readRest 114 = .ok (.iload_n 3, 1) := by decide +kernel
theorem dX2_readRest_115 : decode cX2_readRest 115 = .ok (.ishl, 1) := by decide +kernel
theorem dX2_readRest_116 : decode cX2_readRest 116 = .ok (.ior, 1) := by decide +kernel
theorem dX2_readRest_117 : decode cX2_readRest 117 = .ok (.iastore, 1) := by decide +kernel
theorem dX2_readRest_118 : decode cX2_readRest 118 = .ok (.aload_n 0, 1) := by decide +kernel
theorem dX2_readRest_119 : decode cX2_readRest 119 = .ok (.getfield 12, 3) := by decide +kernel
theorem dX2_readRest_122 : decode cX2_readRest 122 = .ok (.dup, 1) := by decide +kernel
theorem dX2_readRest_123 : decode cX2_readRest 123 = .ok (.getfield 81, 3) := by decide +kernel
theorem dX2_readRest_126 : decode cX2_readRest 126 = .ok (.iconst 1, 1) := by decide +kernel
theorem dX2_readRest_127 : decode cX2_readRest 127 = .ok (.iadd, 1) := by decide +kernel
theorem dX2_readRest_128 : decode cX2_readRest 128 = .ok (.putfield 81, 3) := by decide +kernel
theorem dX2_readRest_131 : decode cX2_readRest 131 = .ok (.return_, 1) := by decide +kernel
theorem dX2_readClerk_0 : decode cX2_readClerk 0 = .ok (.aload_n 0, 1) := by decide +kernel
theorem dX2_readClerk_1 : decode cX2_readClerk 1 = .ok (.invokevirtual 44, 3) := by decide +kernel
theorem dX2_readClerk_4 : decode cX2_readClerk 4 = .ok (.invokestatic 51, 3) := by decide +kernel
theorem dX2_readClerk_7 : decode cX2_readClerk 7 = .ok (.istore_n 1, 1) := by decide +kernel
theorem dX2_readClerk_8 : decode cX2_readClerk 8 = .ok (.aload_n 0, 1) := by decide +kernel
theorem dX2_readClerk_9 : decode cX2_readClerk 9 = .ok (.aload_n 0, 1) := by decide +kernel
theorem dX2_readClerk_10 : decode cX2_readClerk 10 = .ok (.invokevirtual 44, 3) := by decide +kernel
theorem dX2_readClerk_13 : decode cX2_readClerk 13 = .ok (.aload_n 0, 1) := by decide +kernel
theorem dX2_readClerk_14 : decode cX2_readClerk 14 = .ok (.getfield 12, 3) := by decide +kernel
theorem dX2_readClerk_17 : decode cX2_readClerk 17 = .ok (.getfield 87, 3) := by decide +kernel
theorem dX2_readClerk_20 : decode cX2_readClerk 20 = .ok (.iconst 4, 1) := by decide +kernel
theorem dX2_readClerk_21 : decode cX2_readClerk 21 = .ok (.invokevirtual 74, 3) := by decide +kernel
theorem dX2_readClerk_24 : decode cX2_readClerk 24 = .ok (.aload_n 0, 1) := by decide +kernel
theorem dX2_readClerk_25 : decode cX2_readClerk 25 = .ok (.aload_n 0, 1) := by decide +kernel
theorem dX2_readClerk_26 : decode cX2_readClerk 26 = .ok (.invokevirtual 44, 3) := by decide +kernel
theorem dX2_readClerk_29 : decode cX2_readClerk 29 = .ok (.invokevirtual 58, 3) := by decide +kernel
theorem dX2_readClerk_32 : decode cX2_readClerk 32 = .ok (.aload_n 0, 1) := by decide +kernel
theorem dX2_readClerk_33 : decode cX2_readClerk 33 = .ok (.iconst 1, 1) := by decide +kernel
theorem dX2_readClerk_34 : decode cX2_readClerk 34 = .ok (.bipush 9, 2) := by decide +kernel
theorem dX2_readClerk_36 : decode cX2_readClerk 36 = .ok (.invokevirtual 62, 3) := by decide +kernel
theorem dX2_readClerk_39 : decode cX2_readClerk 39 = .ok (.istore_n 2, 1) := by decide +kernel
theorem dX2_readClerk_40 : decode cX2_readClerk 40 = .ok (.aload_n 0, 1) := by decide +kernel
theorem dX2_readClerk_41 : decode cX2_readClerk 41 = .ok (.bipush 59, 2) := by decide +kernel
theorem dX2_readClerk_43 : decode cX2_readClerk 43 = .ok (.invokevirtual 58, 3) := by decide +kernel
theorem dX2_readClerk_46 : decode cX2_readClerk 46 = .ok (.aload_n 0, 1) := by decide +kernel
theorem dX2_readClerk_47 : decode cX2_readClerk 47 = .ok (.getfield 22, 3) := by decide +kernel
theorem dX2_readClerk_50 : decode cX2_readClerk 50 = .ok (.ifCond .ne 48, 3) := by decide +kernel
theorem dX2_readClerk_53 : decode cX2_readClerk 53 = .ok (.aload_n 0, 1) := by decide +kernel
theorem dX2_readClerk_54 : decode cX2_readClerk 54 = .ok (.getfield 12, 3) := by decide +kernel
theorem dX2_readClerk_57 : decode cX2_readClerk 57 = .ok (.getfield 90, 3) := by decide +kernel
theorem dX2_readClerk_60 : decode cX2_readClerk 60 = .ok (.aload_n 0, 1) := by decide +kernel
theorem dX2_readClerk_61 : decode cX2_readClerk 61 = .ok (.getfield 12, 3) := by decide +kernel
theorem dX2_readClerk_64 : decode cX2_readClerk 64 = .ok (.getfield 87, 3) := by decide +kernel
theorem dX2_readClerk_67 : decode cX2_readClerk 67 = .ok (.iload_n 1, 1) := by decide +kernel
theorem dX2_readClerk_68 : decode cX2_readClerk 68 = .ok (.iastore, 1) := by decide +kernel
theorem dX2_readClerk_69 : decode cX2_readClerk 69 = .ok (.aload_n 0, 1) := by decide +kernel
theorem dX2_readClerk_70 : decode cX2_readClerk 70 = .ok (.getfield 12, 3) := by decide +kernel
theorem dX2_readClerk_73 : decode cX2_readClerk 73 = .ok (.getfield 93, 3) := by decide +kernel
theorem dX2_readClerk_76 : decode cX2_readClerk 76 = .ok (.aload_n 0, 1) := by decide +kernel
theorem dX2_readClerk_77 : decode cX2_readClerk 77 = .ok (.getfield 12, 3) := by decide +kernel
theorem dX2_readClerk_80 : decode cX2_readClerk 80 = .ok (.getfield 87, 3) := by decide +kernel
theorem dX2_readClerk_83 : decode cX2_readClerk 83 = .ok (.iload_n 2, 1) := by decide +kernel
theorem dX2_readClerk_84 : decode cX2_readClerk 84 = .ok (.iastore, 1) := by decide +kernel
theorem dX2_readClerk_85 : decode cX2_readClerk 85 = .ok (.aload_n 0, 1) := by decide +kernel
theorem dX2_readClerk_86 : decode cX2_readClerk 86 = .ok (.getfield 12, 3) := by decide +kernel
theorem dX2_readClerk_89 : decode cX2_readClerk 89 = .ok (.dup, 1) := by decide +kernel
theorem dX2_readClerk_90 : decode cX2_readClerk 90 = .ok (.getfield 87, 3) := by decide +kernel
theorem dX2_readClerk_93 : decode cX2_readClerk 93 = .ok (.iconst 1, 1) := by decide +kernel
theorem dX2_readClerk_94 : decode cX2_readClerk 94 = .ok (.iadd, 1) := by decide +kernel
theorem dX2_readClerk_95 : decode cX2_readClerk 95 = .ok (.putfield 87, 3) := by decide +kernel
theorem dX2_readClerk_98 : decode cX2_readClerk 98 = .ok (.return_, 1) := by decide +kernel
theorem dX2_kindOf_0 : decode cX2_kindOf 0 = .ok (.iload_n 0, 1) := by decide +kernel
theorem dX2_kindOf_1 : decode cX2_kindOf 1 = .ok (.lookupswitch 61 #[(99, 51), (108, 59), (112, 55), (115, 53), (121, 57)], 51) := by decide +kernel
theorem dX2_kindOf_52 : decode cX2_kindOf 52 = .ok (.iconst 1, 1) := by decide +kernel
theorem dX2_kindOf_53 : decode cX2_kindOf 53 = .ok (.ireturn, 1) := by decide +kernel
theorem dX2_kindOf_54 : decode cX2_kindOf 54 = .ok (.iconst 2, 1) := by decide +kernel
theorem dX2_kindOf_55 : decode cX2_kindOf 55 = .ok (.ireturn, 1) := by decide +kernel
theorem dX2_kindOf_56 : decode cX2_kindOf 56 = .ok (.iconst 3, 1) := by decide +kernel
theorem dX2_kindOf_57 : decode cX2_kindOf 57 = .ok (.ireturn, 1) := by decide +kernel
theorem dX2_kindOf_58 : decode cX2_kindOf 58 = .ok (.iconst 4, 1) := by decide +kernel
theorem dX2_kindOf_59 : decode cX2_kindOf 59 = .ok (.ireturn, 1) := by decide +kernel
theorem dX2_kindOf_60 : decode cX2_kindOf 60 = .ok (.iconst 5, 1) := by decide +kernel
theorem dX2_kindOf_61 : decode cX2_kindOf 61 = .ok (.ireturn, 1) := by decide +kernel
theorem dX2_kindOf_62 : decode cX2_kindOf 62 = .ok (.iconst 0, 1) := by decide +kernel
theorem dX2_kindOf_63 : decode cX2_kindOf 63 = .ok (.ireturn, 1) := by decide +kernel
theorem dX2_letter_0 : decode cX2_letter 0 = .ok (.aload_n 0, 1) := by decide +kernel
theorem dX2_letter_1 : decode cX2_letter 1 = .ok (.getfield 18, 3) := by decide +kernel
theorem dX2_letter_4 : decode cX2_letter 4 = .ok (.aload_n 0, 1) := by decide +kernel
theorem dX2_letter_5 : decode cX2_letter 5 = .ok (.getfield 35, 3) := by decide +kernel
theorem dX2_letter_8 : decode cX2_letter 8 = .ok (.if_icmp .ge 15, 3) := by decide +kernel
theorem dX2_letter_11 : decode cX2_letter 11 = .ok (.aload_n 0, 1) := by decide +kernel
theorem dX2_letter_12 : decode cX2_letter 12 = .ok (.getfield 25, 3) := by decide +kernel
theorem dX2_letter_15 : decode cX2_letter 15 = .ok (.aload_n 0, 1) := by decide +kernel
theorem dX2_letter_16 : decode cX2_letter 16 = .ok (.getfield 18, 3) := by decide +kernel
theorem dX2_letter_19 : decode cX2_letter 19 = .ok (.iaload, 1) := by decide +kernel
theorem dX2_letter_20 : decode cX2_letter 20 = .ok (.goto 4, 3) := by decide +kernel
theorem dX2_letter_23 : decode cX2_letter 23 = .ok (.iconst (-1), 1) := by decide +kernel
theorem dX2_letter_24 : decode cX2_letter 24 = .ok (.ireturn, 1) := by decide +kernel
theorem dX2_lookForRoom_0 : decode cX2_lookForRoom 0 = .ok (.aload_n 0, 1) := by decide +kernel
theorem dX2_lookForRoom_1 : decode cX2_lookForRoom 1 = .ok (.getfield 22, 3) := by decide +kernel
theorem dX2_lookForRoom_4 : decode cX2_lookForRoom 4 = .ok (.ifCond .ne 21, 3) := by decide +kernel
theorem dX2_lookForRoom_7 : decode cX2_lookForRoom 7 = .ok (.aload_n 0, 1) := by decide +kernel
theorem dX2_lookForRoom_8 : decode cX2_lookForRoom 8 = .ok (.invokevirtual 44, 3) := by decide +kernel
theorem dX2_lookForRoom_11 : decode cX2_lookForRoom 11 = .ok (.iload_n 1, 1) := by decide +kernel
theorem dX2_lookForRoom_12 : decode cX2_lookForRoom 12 = .ok (.if_icmp .ne 13, 3) := by decide +kernel
theorem dX2_lookForRoom_15 : decode cX2_lookForRoom 15 = .ok (.iload_n 2, 1) := by decide +kernel
theorem dX2_lookForRoom_16 : decode cX2_lookForRoom 16 = .ok (.iload_n 3, 1) := by decide +kernel
theorem dX2_lookForRoom_17 : decode cX2_lookForRoom 17 = .ok (.if_icmp .lt 8, 3) := by decide +kernel
theorem dX2_lookForRoom_20 : decode cX2_lookForRoom 20 = .ok (.aload_n 0, 1) := by decide +kernel
theorem dX2_lookForRoom_21 : decode cX2_lookForRoom 21 = .ok (.iconst 3, 1) := by decide +kernel
theorem dX2_lookForRoom_22 : decode cX2_lookForRoom 22 = .ok (.putfield 22, 3) := by decide +kernel
theorem dX2_lookForRoom_25 : decode cX2_lookForRoom 25 = .ok (.return_, 1) := by decide +kernel
theorem dX2_readSign_0 : decode cX2_readSign 0 = .ok (.aload_n 0, 1) := by decide +kernel
theorem dX2_readSign_1 : decode cX2_readSign 1 = .ok (.getfield 22, 3) := by decide +kernel
theorem dX2_readSign_4 : decode cX2_readSign 4 = .ok (.ifCond .eq 4, 3) := by decide +kernel
theorem dX2_readSign_7 : decode cX2_readSign 7 = .ok (.return_, 1) := by decide +kernel
theorem dX2_readSign_8 : decode cX2_readSign 8 = .ok (.aload_n 0, 1) := by decide +kernel
theorem dX2_readSign_9 : decode cX2_readSign 9 = .ok (.invokevirtual 44, 3) := by decide +kernel
theorem dX2_readSign_12 : decode cX2_readSign 12 = .ok (.iload_n 1, 1) := by decide +kernel
theorem dX2_readSign_13 : decode cX2_readSign 13 = .ok (.if_icmp .eq 9, 3) := by decide +kernel
theorem dX2_readSign_16 : decode cX2_readSign 16 = .ok (.aload_n 0, 1) := by decide +kernel
theorem dX2_readSign_17 : decode cX2_readSign 17 = .ok (.iconst 1, 1) := by decide +kernel
theorem dX2_readSign_18 : decode cX2_readSign 18 = .ok (.putfield 22, 3) := by decide +kernel
theorem dX2_readSign_21 : decode cX2_readSign 21 = .ok (.return_, 1) := by decide +kernel
theorem dX2_readSign_22 : decode cX2_readSign 22 = .ok (.aload_n 0, 1) := by decide +kernel
theorem dX2_readSign_23 : decode cX2_readSign 23 = .ok (.dup, 1) := by decide +kernel
theorem dX2_readSign_24 : decode cX2_readSign 24 = .ok (.getfield 18, 3) := by decide +kernel
theorem dX2_readSign_27 : decode cX2_readSign 27 = .ok (.iconst 1, 1) := by decide +kernel
theorem dX2_readSign_28 : decode cX2_readSign 28 = .ok (.iadd, 1) := by decide +kernel
theorem dX2_readSign_29 : decode cX2_readSign 29 = .ok (.putfield 18, 3) := by decide +kernel
theorem dX2_readSign_32 : decode cX2_readSign 32 = .ok (.return_, 1) := by decide +kernel
theorem dX2_readNumber_0 : decode cX2_readNumber 0 = .ok (.aload_n 0, 1) := by decide +kernel
theorem dX2_readNumber_1 : decode cX2_readNumber 1 = .ok (.getfield 22, 3) := by decide +kernel
theorem dX2_readNumber_4 : decode cX2_readNumber 4 = .ok (.ifCond .eq 5, 3) := by decide +kernel
theorem dX2_readNumber_7 : decode cX2_readNumber 7 = .ok (.iconst 0, 1) := by decide +kernel
theorem dX2_readNumber_8 : decode cX2_readNumber 8 = .ok (.ireturn, 1) := by decide +kernel
theorem dX2_readNumber_9 : decode cX2_readNumber 9 = .ok (.iconst 0, 1) := by decide +kernel
theorem dX2_readNumber_10 : decode cX2_readNumber 10 = .ok (.istore_n 3, 1) := by decide +kernel
theorem dX2_readNumber_11 : decode cX2_readNumber 11 = .ok (.iconst 0, 1) := by decide +kernel
theorem dX2_readNumber_12 : decode cX2_readNumber 12 = .ok (.istore 4, 2) := by decide +kernel
theorem dX2_readNumber_14 : decode cX2_readNumber 14 = .ok (.aload_n 0, 1) := by decide +kernel
theorem dX2_readNumber_15 : decode cX2_readNumber 15 = .ok (.getfield 18, 3) := by decide +kernel
theorem dX2_readNumber_18 : decode cX2_readNumber 18 = .ok (.istore 5, 2) := by decide +kernel
theorem dX2_readNumber_20 : decode cX2_readNumber 20 = .ok (.iload 5, 2) := by decide +kernel
theorem dX2_readNumber_22 : decode cX2_readNumber 22 = .ok (.aload_n 0, 1) := by decide +kernel
theorem dX2_readNumber_23 : decode cX2_readNumber 23 = .ok (.getfield 35, 3) := by decide +kernel
theorem dX2_readNumber_26 : decode cX2_readNumber 26 = .ok (.if_icmp .ge 58, 3) := by decide +kernel
theorem dX2_readNumber_29 : decode cX2_readNumber 29 = .ok (.iload 4, 2) := by decide +kernel
theorem dX2_readNumber_31 : decode cX2_readNumber 31 = .ok (.iconst 3, 1) := by decide +kernel
theorem dX2_readNumber_32 : decode cX2_readNumber 32 = .ok (.if_icmp .ge 52, 3) := by decide +kernel
theorem dX2_readNumber_35 : decode cX2_readNumber 35 = .ok (.aload_n 0, 1) := by decide +kernel
theorem dX2_readNumber_36 : decode cX2_readNumber 36 = .ok (.getfield 25, 3) := by decide +kernel
theorem dX2_readNumber_39 : decode cX2_readNumber 39 = .ok (.iload 5, 2) := by decide +kernel
theorem dX2_readNumber_41 : decode cX2_readNumber 41 = .ok (.iaload, 1) := by decide +kernel
theorem dX2_readNumber_42 : decode cX2_readNumber 42 = .ok (.bipush 48, 2) := by decide +kernel
theorem dX2_readNumber_44 : decode cX2_readNumber 44 = .ok (.if_icmp .lt 40, 3) := by decide +kernel
theorem dX2_readNumber_47 : decode cX2_readNumber 47 = .ok (.aload_n 0, 1) := by decide +kernel
theorem dX2_readNumber_48 : decode cX2_readNumber 48 = .ok (.getfield 25, 3) := by decide +kernel
theorem dX2_readNumber_51 : decode cX2_readNumber 51 = .ok (.iload 5, 2) := by decide +kernel
theorem dX2_readNumber_53 : decode cX2_readNumber 53 = .ok (.iaload, 1) := by decide +kernel
theorem dX2_readNumber_54 : decode cX2_readNumber 54 = .ok (.bipush 57, 2) := by decide +kernel
theorem dX2_readNumber_56 : decode cX2_readNumber 56 = .ok (.if_icmp .gt 28, 3) := by decide +kernel
theorem dX2_readNumber_59 : decode cX2_readNumber 59 = .ok (.bipush 10, 2) := by decide +kernel
theorem dX2_readNumber_61 : decode cX2_readNumber 61 = .ok (.iload_n 3, 1) := by decide +kernel
theorem dX2_readNumber_62 : decode cX2_readNumber 62 = .ok (.imul, 1) := by decide +kernel
theorem dX2_readNumber_63 : decode cX2_readNumber 63 = .ok (.aload_n 0, 1) := by decide +kernel
theorem dX2_readNumber_64 : decode cX2_readNumber 64 = .ok (.getfield 25, 3) := by decide +kernel
theorem dX2_readNumber_67 : decode cX2_readNumber 67 = .ok (.iload 5, 2) := by decide +kernel
theorem dX2_readNumber_69 : decode cX2_readNumber 69 = .ok (.iaload, 1) := by decide +kernel
theorem dX2_readNumber_70 : decode cX2_readNumber 70 = .ok (.iadd, 1) := by decide +kernel
theorem dX2_readNumber_71 : decode cX2_readNumber 71 = .ok (.bipush 48, 2) := by decide +kernel
theorem dX2_readNumber_73 : decode cX2_readNumber 73 = .ok (.isub, 1) := by decide +kernel
theorem dX2_readNumber_74 : decode cX2_readNumber 74 = .ok (.istore_n 3, 1) := by decide +kernel
theorem dX2_readNumber_75 : decode cX2_readNumber 75 = .ok (.iinc 4 1, 3) := by decide +kernel
theorem dX2_readNumber_78 : decode cX2_readNumber 78 = .ok (.iinc 5 1, 3) := by decide +kernel
theorem dX2_readNumber_81 : decode cX2_readNumber 81 = .ok (.goto (-61), 3) := by decide +kernel
theorem dX2_readNumber_84 : decode cX2_readNumber 84 = .ok (.iload 4, 2) := by decide +kernel
theorem dX2_readNumber_86 : decode cX2_readNumber 86 = .ok (.iconst 1, 1) := by decide +kernel
theorem dX2_readNumber_87 : decode cX2_readNumber 87 = .ok (.if_icmp .lt 9, 3) := by decide +kernel
theorem dX2_readNumber_90 : decode cX2_readNumber 90 = .ok (.iload 4, 2) := by decide +kernel
theorem dX2_readNumber_92 : decode cX2_readNumber 92 = .ok (.iconst 2, 1) := by decide +kernel
theorem dX2_readNumber_93 : decode cX2_readNumber 93 = .ok (.if_icmp .le 10, 3) := by decide +kernel
theorem dX2_readNumber_96 : decode cX2_readNumber 96 = .ok (.aload_n 0, 1) := by decide +kernel
theorem dX2_readNumber_97 : decode cX2_readNumber 97 = .ok (.iconst 1, 1) := by decide +kernel
theorem dX2_readNumber_98 : decode cX2_readNumber 98 = .ok (.putfield 22, 3) := by decide +kernel
theorem dX2_readNumber_101 : decode cX2_readNumber 101 = .ok (.iconst 0, 1) := by decide +kernel
theorem dX2_readNumber_102 : decode cX2_readNumber 102 = .ok (.ireturn, 1) := by decide +kernel
theorem dX2_readNumber_103 : decode cX2_readNumber 103 = .ok (.iload_n 3, 1) := by decide +kernel
theorem dX2_readNumber_104 : decode cX2_readNumber 104 = .ok (.iload_n 1, 1) := by decide +kernel
theorem dX2_readNumber_105 : decode cX2_readNumber 105 = .ok (.if_icmp .lt 8, 3) := by decide +kernel
theorem dX2_readNumber_108 : decode cX2_readNumber 108 = .ok (.iload_n 3, 1) := by decide +kernel
theorem dX2_readNumber_109 : decode cX2_readNumber 109 = .ok (.iload_n 2, 1) := by decide +kernel
theorem dX2_readNumber_110 : decode cX2_readNumber 110 = .ok (.if_icmp .le 10, 3) := by decide +kernel
theorem dX2_readNumber_113 : decode cX2_readNumber 113 = .ok (.aload_n 0, 1) := by decide +kernel
theorem dX2_readNumber_114 : decode cX2_readNumber 114 = .ok (.iconst 2, 1) := by decide +kernel
theorem dX2_readNumber_115 : decode cX2_readNumber 115 = .ok (.putfield 22, 3) := by decide +kernel
theorem dX2_readNumber_118 : decode cX2_readNumber 118 = .ok (.iconst 0, 1) := by decide +kernel
theorem dX2_readNumber_119 : decode cX2_readNumber 119 = .ok (.ireturn, 1) := by decide +kernel
theorem dX2_readNumber_120 : decode cX2_readNumber 120 = .ok (.aload_n 0, 1) := by decide +kernel
theorem dX2_readNumber_121 : decode cX2_readNumber 121 = .ok (.dup, 1) := by decide +kernel
theorem dX2_readNumber_122 : decode cX2_readNumber 122 = .ok (.getfield 18, 3) := by decide +kernel
theorem dX2_readNumber_125 : decode cX2_readNumber 125 = .ok (.iload 4, 2) := by decide +kernel
theorem dX2_readNumber_127 : decode cX2_readNumber 127 = .ok (.iadd, 1) := by decide +kernel
theorem dX2_readNumber_128 : decode cX2_readNumber 128 = .ok (.putfield 18, 3) := by decide +kernel
theorem dX2_readNumber_131 : decode cX2_readNumber 131 = .ok (.iload_n 3, 1) := by decide +kernel
theorem dX2_readNumber_132 : decode cX2_readNumber 132 = .ok (.ireturn, 1) := by decide +kernel
theorem dX3_init_0 : decode cX3_init 0 = .ok (.aload_n 0, 1) := by decide +kernel
theorem dX3_init_1 : decode cX3_init 1 = .ok (.invokespecial 1, 3) := by decide +kernel
theorem dX3_init_4 : decode cX3_init 4 = .ok (.aload_n 0, 1) := by decide +kernel
theorem dX3_init_5 : decode cX3_init 5 = .ok (.iload_n 1, 1) := by decide +kernel
theorem dX3_init_6 : decode cX3_init 6 = .ok (.putfield 7, 3) := by decide +kernel
theorem dX3_init_9 : decode cX3_init 9 = .ok (.aload_n 0, 1) := by decide +kernel
theorem dX3_init_10 : decode cX3_init 10 = .ok (.iconst 0, 1) := by decide +kernel
theorem dX3_init_11 : decode cX3_init 11 = .ok (.iload_n 2, 1) := by decide +kernel
theorem dX3_init_12 : decode cX3_init 12 = .ok (.invokestatic 13, 3) := by decide +kernel
theorem dX3_init_15 : decode cX3_init 15 = .ok (.newarray .int, 2) := by decide +kernel
theorem dX3_init_17 : decode cX3_init 17 = .ok (.putfield 19, 3) := by decide +kernel
theorem dX3_init_20 : decode cX3_init 20 = .ok (.return_, 1) := by decide +kernel
theorem dX3_hasPlaces_0 : decode cX3_hasPlaces 0 = .ok (.iload_n 1, 1) := by decide +kernel
theorem dX3_hasPlaces_1 : decode cX3_hasPlaces 1 = .ok (.ifCond .lt 22, 3) := by decide +kernel
theorem dX3_hasPlaces_4 : decode cX3_hasPlaces 4 = .ok (.iload_n 2, 1) := by decide +kernel
theorem dX3_hasPlaces_5 : decode cX3_hasPlaces 5 = .ok (.ifCond .lt 18, 3) := by decide +kernel
theorem dX3_hasPlaces_8 : decode cX3_hasPlaces 8 = .ok (.iload_n 1, 1) := by decide +kernel
theorem dX3_hasPlaces_9 : decode cX3_hasPlaces 9 = .ok (.aload_n 0, 1) := by decide +kernel
theorem dX3_hasPlaces_10 : decode cX3_hasPlaces 10 = .ok (.getfield 19, 3) := by decide +kernel
theorem dX3_hasPlaces_13 : decode cX3_hasPlaces 13 = .ok (.arraylength, 1) := by decide +kernel
theorem dX3_hasPlaces_14 : decode cX3_hasPlaces 14 = .ok (.iload_n 2, 1) := by decide +kernel
theorem dX3_hasPlaces_15 : decode cX3_hasPlaces 15 = .ok (.isub, 1) := by decide +kernel
theorem dX3_hasPlaces_16 : decode cX3_hasPlaces 16 = .ok (.if_icmp .gt 7, 3) := by decide +kernel
theorem dX3_hasPlaces_19 : decode cX3_hasPlaces 19 = .ok (.iconst 1, 1) := by decide +kernel
theorem dX3_hasPlaces_20 : decode cX3_hasPlaces 20 = .ok (.goto 4, 3) := by decide +kernel
theorem dX3_hasPlaces_23 : decode cX3_hasPlaces 23 = .ok (.iconst 0, 1) := by decide +kernel
theorem dX3_hasPlaces_24 : decode cX3_hasPlaces 24 = .ok (.ireturn, 1) := by decide +kernel
theorem dX3_lowestBits_0 : decode cX3_lowestBits 0 = .ok (.aload_n 0, 1) := by decide +kernel
theorem dX3_lowestBits_1 : decode cX3_lowestBits 1 = .ok (.getfield 7, 3) := by decide +kernel
theorem dX3_lowestBits_4 : decode cX3_lowestBits 4 = .ok (.lookupswitch 34 #[(0, 28), (1, 31)], 28) := by decide +kernel
theorem dX3_lowestBits_32 : decode cX3_lowestBits 32 = .ok (.iload_n 1, 1) := by decide +kernel
theorem dX3_lowestBits_33 : decode cX3_lowestBits 33 = .ok (.i2b, 1) := by decide +kernel
theorem dX3_lowestBits_34 : decode cX3_lowestBits 34 = .ok (.ireturn, 1) := by decide +kernel
theorem dX3_lowestBits_35 : decode cX3_lowestBits 35 = .ok (.iload_n 1, 1) := by decide +kernel
theorem dX3_lowestBits_36 : decode cX3_lowestBits 36 = .ok (.i2s, 1) := by decide +kernel
theorem dX3_lowestBits_37 : decode cX3_lowestBits 37 = .ok (.ireturn, 1) := by decide +kernel
theorem dX3_lowestBits_38 : decode cX3_lowestBits 38 = .ok (.iload_n 1, 1) := by decide +kernel
theorem dX3_lowestBits_39 : decode cX3_lowestBits 39 = .ok (.ireturn, 1) := by decide +kernel
theorem dX4_init_0 : decode cX4_init 0 = .ok (.aload_n 0, 1) := by decide +kernel
theorem dX4_init_1 : decode cX4_init 1 = .ok (.invokespecial 3, 3) := by decide +kernel
theorem dX4_init_4 : decode cX4_init 4 = .ok (.aload_n 0, 1) := by decide +kernel
theorem dX4_init_5 : decode cX4_init 5 = .ok (.new 9, 3) := by decide +kernel
theorem dX4_init_8 : decode cX4_init 8 = .ok (.dup, 1) := by decide +kernel
theorem dX4_init_9 : decode cX4_init 9 = .ok (.invokespecial 11, 3) := by decide +kernel
theorem dX4_init_12 : decode cX4_init 12 = .ok (.putfield 12, 3) := by decide +kernel
theorem dX4_init_15 : decode cX4_init 15 = .ok (.aload_n 0, 1) := by decide +kernel
theorem dX4_init_16 : decode cX4_init 16 = .ok (.iconst 4, 1) := by decide +kernel
theorem dX4_init_17 : decode cX4_init 17 = .ok (.newarray .int, 2) := by decide +kernel
theorem dX4_init_19 : decode cX4_init 19 = .ok (.putfield 18, 3) := by decide +kernel
theorem dX4_init_22 : decode cX4_init 22 = .ok (.aload_n 0, 1) := by decide +kernel
theorem dX4_init_23 : decode cX4_init 23 = .ok (.iconst 4, 1) := by decide +kernel
theorem dX4_init_24 : decode cX4_init 24 = .ok (.newarray .int, 2) := by decide +kernel
theorem dX4_init_26 : decode cX4_init 26 = .ok (.putfield 22, 3) := by decide +kernel
theorem dX4_init_29 : decode cX4_init 29 = .ok (.aload_n 0, 1) := by decide +kernel
theorem dX4_init_30 : decode cX4_init 30 = .ok (.iconst 4, 1) := by decide +kernel
theorem dX4_init_31 : decode cX4_init 31 = .ok (.newarray .int, 2) := by decide +kernel
theorem dX4_init_33 : decode cX4_init 33 = .ok (.putfield 25, 3) := by decide +kernel
theorem dX4_init_36 : decode cX4_init 36 = .ok (.aload_n 0, 1) := by decide +kernel
theorem dX4_init_37 : decode cX4_init 37 = .ok (.new 28, 3) := by decide +kernel
theorem dX4_init_40 : decode cX4_init 40 = .ok (.dup, 1) := by decide +kernel
theorem dX4_init_41 : decode cX4_init 41 = .ok (.invokespecial 30, 3) := by decide +kernel
theorem dX4_init_44 : decode cX4_init 44 = .ok (.putfield 31, 3) := by decide +kernel
theorem dX4_init_47 : decode cX4_init 47 = .ok (.aload_n 0, 1) := by decide +kernel
theorem dX4_init_48 : decode cX4_init 48 = .ok (.iconst 0, 1) := by decide +kernel
theorem dX4_init_49 : decode cX4_init 49 = .ok (.putfield 35, 3) := by decide +kernel
theorem dX4_init_52 : decode cX4_init 52 = .ok (.aload_n 0, 1) := by decide +kernel
theorem dX4_init_53 : decode cX4_init 53 = .ok (.iconst (-1), 1) := by decide +kernel
theorem dX4_init_54 : decode cX4_init 54 = .ok (.putfield 39, 3) := by decide +kernel
theorem dX4_init_57 : decode cX4_init 57 = .ok (.return_, 1) := by decide +kernel
theorem dX4_begin_0 : decode cX4_begin 0 = .ok (.aload_n 0, 1) := by decide +kernel
theorem dX4_begin_1 : decode cX4_begin 1 = .ok (.aload_n 1, 1) := by decide +kernel
theorem dX4_begin_2 : decode cX4_begin 2 = .ok (.putfield 31, 3) := by decide +kernel
theorem dX4_begin_5 : decode cX4_begin 5 = .ok (.aload_n 0, 1) := by decide +kernel
theorem dX4_begin_6 : decode cX4_begin 6 = .ok (.iload_n 3, 1) := by decide +kernel
theorem dX4_begin_7 : decode cX4_begin 7 = .ok (.iconst 4, 1) := by decide +kernel
theorem dX4_begin_8 : decode cX4_begin 8 = .ok (.invokestatic 42, 3) := by decide +kernel
theorem dX4_begin_11 : decode cX4_begin 11 = .ok (.putfield 35, 3) := by decide +kernel
theorem dX4_begin_14 : decode cX4_begin 14 = .ok (.aload_n 0, 1) := by decide +kernel
theorem dX4_begin_15 : decode cX4_begin 15 = .ok (.iconst (-1), 1) := by decide +kernel
theorem dX4_begin_16 : decode cX4_begin 16 = .ok (.putfield 39, 3) := by decide +kernel
theorem dX4_begin_19 : decode cX4_begin 19 = .ok (.aload_n 0, 1) := by decide +kernel
theorem dX4_begin_20 : decode cX4_begin 20 = .ok (.getfield 12, 3) := by decide +kernel
theorem dX4_begin_23 : decode cX4_begin 23 = .ok (.aload_n 2, 1) := by decide +kernel
theorem dX4_begin_24 : decode cX4_begin 24 = .ok (.invokevirtual 48, 3) := by decide +kernel
theorem dX4_begin_27 : decode cX4_begin 27 = .ok (.return_, 1) := by decide +kernel
theorem dX4_standing_0 : decode cX4_standing 0 = .ok (.aload_n 0, 1) := by decide +kernel
theorem dX4_standing_1 : decode cX4_standing 1 = .ok (.getfield 31, 3) := by decide +kernel
theorem dX4_standing_4 : decode cX4_standing 4 = .ok (.aload_n 0, 1) := by decide +kernel
theorem dX4_standing_5 : decode cX4_standing 5 = .ok (.getfield 12, 3) := by decide +kernel
theorem dX4_standing_8 : decode cX4_standing 8 = .ok (.invokevirtual 52, 3) := by decide +kernel
theorem dX4_standing_11 : decode cX4_standing 11 = .ok (.invokevirtual 56, 3) := by decide +kernel
theorem dX4_standing_14 : decode cX4_standing 14 = .ok (.invokestatic 60, 3) := by decide +kernel
theorem dX4_standing_17 : decode cX4_standing 17 = .ok (.ireturn, 1) := by decide +kernel
theorem dX4_keepWay_0 : decode cX4_keepWay 0 = .ok (.aload_n 0, 1) := by decide +kernel
theorem dX4_keepWay_1 : decode cX4_keepWay 1 = .ok (.aload_n 0, 1) := by decide +kernel
theorem dX4_keepWay_2 : decode cX4_keepWay 2 = .ok (.invokevirtual 65, 3) := by decide +kernel
theorem dX4_keepWay_5 : decode cX4_keepWay 5 = .ok (.putfield 39, 3) := by decide +kernel
theorem dX4_keepWay_8 : decode cX4_keepWay 8 = .ok (.aload_n 0, 1) := by decide +kernel
theorem dX4_keepWay_9 : decode cX4_keepWay 9 = .ok (.getfield 22, 3) := by decide +kernel
theorem dX4_keepWay_12 : decode cX4_keepWay 12 = .ok (.iconst 0, 1) := by decide +kernel
theorem dX4_keepWay_13 : decode cX4_keepWay 13 = .ok (.aload_n 0, 1) := by decide +kernel
theorem dX4_keepWay_14 : decode cX4_keepWay 14 = .ok (.getfield 25, 3) := by decide +kernel
theorem dX4_keepWay_17 : decode cX4_keepWay 17 = .ok (.iconst 0, 1) := by decide +kernel
theorem dX4_keepWay_18 : decode cX4_keepWay 18 = .ok (.aload_n 0, 1) := by decide +kernel
theorem dX4_keepWay_19 : decode cX4_keepWay 19 = .ok (.getfield 35, 3) := by decide +kernel
theorem dX4_keepWay_22 : decode cX4_keepWay 22 = .ok (.invokestatic 67, 3) := by decide +kernel
theorem dX4_keepWay_25 : decode cX4_keepWay 25 = .ok (.return_, 1) := by decide +kernel
theorem dX5_init_0 : decode cX5_init 0 = .ok (.aload_n 0, 1) := by decide +kernel
theorem dX5_init_1 : decode cX5_init 1 = .ok (.invokespecial 3, 3) := by decide +kernel
theorem dX5_init_4 : decode cX5_init 4 = .ok (.aload_n 0, 1) := by decide +kernel
theorem dX5_init_5 : decode cX5_init 5 = .ok (.bipush 8, 2) := by decide +kernel
theorem dX5_init_7 : decode cX5_init 7 = .ok (.newarray .int, 2) := by decide +kernel
theorem dX5_init_9 : decode cX5_init 9 = .ok (.putfield 9, 3) := by decide +kernel
theorem dX5_init_12 : decode cX5_init 12 = .ok (.aload_n 0, 1) := by decide +kernel
theorem dX5_init_13 : decode cX5_init 13 = .ok (.iconst 4, 1) := by decide +kernel
theorem dX5_init_14 : decode cX5_init 14 = .ok (.newarray .int, 2) := by decide +kernel
theorem dX5_init_16 : decode cX5_init 16 = .ok (.putfield 15, 3) := by decide +kernel
theorem dX5_init_19 : decode cX5_init 19 = .ok (.aload_n 0, 1) := by decide +kernel
theorem dX5_init_20 : decode cX5_init 20 = .ok (.iconst 0, 1) := by decide +kernel
theorem dX5_init_21 : decode cX5_init 21 = .ok (.putfield 18, 3) := by decide +kernel
theorem dX5_init_24 : decode cX5_init 24 = .ok (.aload_n 0, 1) := by decide +kernel
theorem dX5_init_25 : decode cX5_init 25 = .ok (.iconst 0, 1) := by decide +kernel
theorem dX5_init_26 : decode cX5_init 26 = .ok (.putfield 22, 3) := by decide +kernel
theorem dX5_init_29 : decode cX5_init 29 = .ok (.return_, 1) := by decide +kernel
theorem dX5_begin_0 : decode cX5_begin 0 = .ok (.aload_n 1, 1) := by decide +kernel
theorem dX5_begin_1 : decode cX5_begin 1 = .ok (.getfield 25, 3) := by decide +kernel
theorem dX5_begin_4 : decode cX5_begin 4 = .ok (.iconst 0, 1) := by decide +kernel
theorem dX5_begin_5 : decode cX5_begin 5 = .ok (.aload_n 0, 1) := by decide +kernel
theorem dX5_begin_6 : decode cX5_begin 6 = .ok (.getfield 9, 3) := by decide +kernel
theorem dX5_begin_9 : decode cX5_begin 9 = .ok (.iconst 0, 1) := by decide +kernel
theorem dX5_begin_10 : decode cX5_begin 10 = .ok (.bipush 8, 2) := by decide +kernel
theorem dX5_begin_12 : decode cX5_begin 12 = .ok (.invokestatic 28, 3) := by decide +kernel
theorem dX5_begin_15 : decode cX5_begin 15 = .ok (.iconst 0, 1) := by decide +kernel
theorem dX5_begin_16 : decode cX5_begin 16 = .ok (.istore_n 2, 1) := by decide +kernel
theorem dX5_begin_17 : decode cX5_begin 17 = .ok (.iload_n 2, 1) := by decide +kernel
theorem dX5_begin_18 : decode cX5_begin 18 = .ok (.iconst 4, 1) := by decide +kernel
theorem dX5_begin_19 : decode cX5_begin 19 = .ok (.if_icmp .ge 16, 3) := by decide +kernel
theorem dX5_begin_22 : decode cX5_begin 22 = .ok (.aload_n 0, 1) := by decide +kernel
theorem dX5_begin_23 : decode cX5_begin 23 = .ok (.getfield 15, 3) := by decide +kernel
theorem dX5_begin_26 : decode cX5_begin 26 = .ok (.iload_n 2, 1) := by decide +kernel
theorem dX5_begin_27 : decode cX5_begin 27 = .ok (.iconst 0, 1) := by decide +kernel
theorem dX5_begin_28 : decode cX5_begin 28 = .ok (.iastore, 1) := by decide +kernel
theorem dX5_begin_29 : decode cX5_begin 29 = .ok (.iinc 2 1, 3) := by decide +kernel
theorem dX5_begin_32 : decode cX5_begin 32 = .ok (.goto (-15), 3) := by decide +kernel
theorem dX5_begin_35 : decode cX5_begin 35 = .ok (.aload_n 0, 1) := by decide +kernel
theorem dX5_begin_36 : decode cX5_begin 36 = .ok (.iconst 0, 1) := by decide +kernel
theorem dX5_begin_37 : decode cX5_begin 37 = .ok (.putfield 18, 3) := by decide +kernel
theorem dX5_begin_40 : decode cX5_begin 40 = .ok (.aload_n 0, 1) := by decide +kernel
theorem dX5_begin_41 : decode cX5_begin 41 = .ok (.iconst 0, 1) := by decide +kernel
theorem dX5_begin_42 : decode cX5_begin 42 = .ok (.putfield 22, 3) := by decide +kernel
theorem dX5_begin_45 : decode cX5_begin 45 = .ok (.return_, 1) := by decide +kernel
theorem dX5_become_0 : decode cX5_become 0 = .ok (.aload_n 1, 1) := by decide +kernel
theorem dX5_become_1 : decode cX5_become 1 = .ok (.getfield 9, 3) := by decide +kernel
theorem dX5_become_4 : decode cX5_become 4 = .ok (.iconst 0, 1) := by decide +kernel
theorem dX5_become_5 : decode cX5_become 5 = .ok (.aload_n 0, 1) := by decide +kernel
theorem dX5_become_6 : decode cX5_become 6 = .ok (.getfield 9, 3) := by decide +kernel
theorem dX5_become_9 : decode cX5_become 9 = .ok (.iconst 0, 1) := by decide +kernel
theorem dX5_become_10 : decode cX5_become 10 = .ok (.bipush 8, 2) := by decide +kernel
theorem dX5_become_12 : decode cX5_become 12 = .ok (.invokestatic 28, 3) := by decide +kernel
theorem dX5_become_15 : decode cX5_become 15 = .ok (.aload_n 1, 1) := by decide +kernel
theorem dX5_become_16 : decode cX5_become 16 = .ok (.getfield 15, 3) := by decide +kernel
theorem dX5_become_19 : decode cX5_become 19 = .ok (.iconst 0, 1) := by decide +kernel
theorem dX5_become_20 : decode cX5_become 20 = .ok (.aload_n 0, 1) := by decide +kernel
theorem dX5_become_21 : decode cX5_become 21 = .ok (.getfield 15, 3) := by decide +kernel
theorem dX5_become_24 : decode cX5_become 24 = .ok (.iconst 0, 1) := by decide +kernel
theorem dX5_become_25 : decode cX5_become 25 = .ok (.iconst 4, 1) := by decide +kernel
theorem dX5_become_26 : decode cX5_become 26 = .ok (.invokestatic 28, 3) := by decide +kernel
theorem dX5_become_29 : decode cX5_become 29 = .ok (.aload_n 0, 1) := by decide +kernel
theorem dX5_become_30 : decode cX5_become 30 = .ok (.aload_n 1, 1) := by decide +kernel
theorem dX5_become_31 : decode cX5_become 31 = .ok (.getfield 18, 3) := by decide +kernel
theorem dX5_become_34 : decode cX5_become 34 = .ok (.putfield 18, 3) := by decide +kernel
theorem dX5_become_37 : decode cX5_become 37 = .ok (.aload_n 0, 1) := by decide +kernel
theorem dX5_become_38 : decode cX5_become 38 = .ok (.aload_n 1, 1) := by decide +kernel
theorem dX5_become_39 : decode cX5_become 39 = .ok (.getfield 22, 3) := by decide +kernel
theorem dX5_become_42 : decode cX5_become 42 = .ok (.putfield 22, 3) := by decide +kernel
theorem dX5_become_45 : decode cX5_become 45 = .ok (.return_, 1) := by decide +kernel
theorem dX5_useUp_0 : decode cX5_useUp 0 = .ok (.aload_n 0, 1) := by decide +kernel
theorem dX5_useUp_1 : decode cX5_useUp 1 = .ok (.getfield 9, 3) := by decide +kernel
theorem dX5_useUp_4 : decode cX5_useUp 4 = .ok (.iload_n 1, 1) := by decide +kernel
theorem dX5_useUp_5 : decode cX5_useUp 5 = .ok (.dup2, 1) := by decide +kernel
theorem dX5_useUp_6 : decode cX5_useUp 6 = .ok (.iaload, 1) := by decide +kernel
theorem dX5_useUp_7 : decode cX5_useUp 7 = .ok (.iload_n 2, 1) := by decide +kernel
theorem dX5_useUp_8 : decode cX5_useUp 8 = .ok (.isub, 1) := by decide +kernel
theorem dX5_useUp_9 : decode cX5_useUp 9 = .ok (.iastore, 1) := by decide +kernel
theorem dX5_useUp_10 : decode cX5_useUp 10 = .ok (.aload_n 0, 1) := by decide +kernel
theorem dX5_useUp_11 : decode cX5_useUp 11 = .ok (.dup, 1) := by decide +kernel
theorem dX5_useUp_12 : decode cX5_useUp 12 = .ok (.getfield 18, 3) := by decide +kernel
theorem dX5_useUp_15 : decode cX5_useUp 15 = .ok (.iload_n 2, 1) := by decide +kernel
theorem dX5_useUp_16 : decode cX5_useUp 16 = .ok (.iadd, 1) := by decide +kernel
theorem dX5_useUp_17 : decode cX5_useUp 17 = .ok (.putfield 18, 3) := by decide +kernel
theorem dX5_useUp_20 : decode cX5_useUp 20 = .ok (.return_, 1) := by decide +kernel
theorem dX5_withChalk_0 : decode cX5_withChalk 0 = .ok (.iconst 0, 1) := by decide +kernel
theorem dX5_withChalk_1 : decode cX5_withChalk 1 = .ok (.istore_n 1, 1) := by decide +kernel
theorem dX5_withChalk_2 : decode cX5_withChalk 2 = .ok (.iconst 0, 1) := by decide +kernel
theorem dX5_withChalk_3 : decode cX5_withChalk 3 = .ok (.istore_n 2, 1) := by decide +kernel
theorem dX5_withChalk_4 : decode cX5_withChalk 4 = .ok (.iload_n 2, 1) := by decide +kernel
theorem dX5_withChalk_5 : decode cX5_withChalk 5 = .ok (.bipush 8, 2) := by decide +kernel
theorem dX5_withChalk_7 : decode cX5_withChalk 7 = .ok (.if_icmp .ge 24, 3) := by decide +kernel
theorem dX5_withChalk_10 : decode cX5_withChalk 10 = .ok (.aload_n 0, 1) := by decide +kernel
theorem dX5_withChalk_11 : decode cX5_withChalk 11 = .ok (.getfield 9, 3) := by decide +kernel
theorem dX5_withChalk_14 : decode cX5_withChalk 14 = .ok (.iload_n 2, 1) := by decide +kernel
theorem dX5_withChalk_15 : decode cX5_withChalk 15 = .ok (.iaload, 1) := by decide +kernel
theorem dX5_withChalk_16 : decode cX5_withChalk 16 = .ok (.ifCond .le 9, 3) := by decide +kernel
theorem dX5_withChalk_19 : decode cX5_withChalk 19 = .ok (.iload_n 1, 1) := by decide +kernel
theorem dX5_withChalk_20 : decode cX5_withChalk 20 = .ok (.iconst 1, 1) := by decide +kernel
theorem dX5_withChalk_21 : decode cX5_withChalk 21 = .ok (.iload_n 2, 1) := by decide +kernel
theorem dX5_withChalk_22 : decode cX5_withChalk 22 = .ok (.ishl, 1) := by decide +kernel
theorem dX5_withChalk_23 : decode cX5_withChalk 23 = .ok (.ior, 1) := by decide +kernel
theorem dX5_withChalk_24 : decode cX5_withChalk 24 = .ok (.istore_n 1, 1) := by decide +kernel
theorem dX5_withChalk_25 : decode cX5_withChalk 25 = .ok (.iinc 2 1, 3) := by decide +kernel
theorem dX5_withChalk_28 : decode cX5_withChalk 28 = .ok (.goto (-24), 3) := by decide +kernel
theorem dX5_withChalk_31 : decode cX5_withChalk 31 = .ok (.iload_n 1, 1) := by decide +kernel
theorem dX5_withChalk_32 : decode cX5_withChalk 32 = .ok (.ireturn, 1) := by decide +kernel
theorem dX5_allChalk_0 : decode cX5_allChalk 0 = .ok (.iconst 0, 1) := by decide +kernel
theorem dX5_allChalk_1 : decode cX5_allChalk 1 = .ok (.istore_n 1, 1) := by decide +kernel
theorem dX5_allChalk_2 : decode cX5_allChalk 2 = .ok (.iconst 0, 1) := by decide +kernel
theorem dX5_allChalk_3 : decode cX5_allChalk 3 = .ok (.istore_n 2, 1) := by decide +kernel
theorem dX5_allChalk_4 : decode cX5_allChalk 4 = .ok (.iload_n 2, 1) := by decide +kernel
theorem dX5_allChalk_5 : decode cX5_allChalk 5 = .ok (.bipush 8, 2) := by decide +kernel
theorem dX5_allChalk_7 : decode cX5_allChalk 7 = .ok (.if_icmp .ge 18, 3) := by decide +kernel
theorem dX5_allChalk_10 : decode cX5_allChalk 10 = .ok (.iload_n 1, 1) := by decide +kernel
theorem dX5_allChalk_11 : decode cX5_allChalk 11 = .ok (.aload_n 0, 1) := by decide +kernel
theorem dX5_allChalk_12 : decode cX5_allChalk 12 = .ok (.getfield 9, 3) := by decide +kernel
theorem dX5_allChalk_15 : decode cX5_allChalk 15 = .ok (.iload_n 2, 1) := by decide +kernel
theorem dX5_allChalk_16 : decode cX5_allChalk 16 = .ok (.iaload, 1) := by decide +kernel
theorem dX5_allChalk_17 : decode cX5_allChalk 17 = .ok (.iadd, 1) := by decide +kernel
theorem dX5_allChalk_18 : decode cX5_allChalk 18 = .ok (.istore_n 1, 1) := by decide +kernel
theorem dX5_allChalk_19 : decode cX5_allChalk 19 = .ok (.iinc 2 1, 3) := by decide +kernel
theorem dX5_allChalk_22 : decode cX5_allChalk 22 = .ok (.goto (-18), 3) := by decide +kernel
theorem dX5_allChalk_25 : decode cX5_allChalk 25 = .ok (.iload_n 1, 1) := by decide +kernel
theorem dX5_allChalk_26 : decode cX5_allChalk 26 = .ok (.ireturn, 1) := by decide +kernel
theorem dX5_allLines_0 : decode cX5_allLines 0 = .ok (.iconst 0, 1) := by decide +kernel
theorem dX5_allLines_1 : decode cX5_allLines 1 = .ok (.istore_n 1, 1) := by decide +kernel
theorem dX5_allLines_2 : decode cX5_allLines 2 = .ok (.iconst 0, 1) := by decide +kernel
theorem dX5_allLines_3 : decode cX5_allLines 3 = .ok (.istore_n 2, 1) := by decide +kernel
theorem dX5_allLines_4 : decode cX5_allLines 4 = .ok (.iload_n 2, 1) := by decide +kernel
theorem dX5_allLines_5 : decode cX5_allLines 5 = .ok (.iconst 4, 1) := by decide +kernel
theorem dX5_allLines_6 : decode cX5_allLines 6 = .ok (.if_icmp .ge 18, 3) := by decide +kernel
theorem dX5_allLines_9 : decode cX5_allLines 9 = .ok (.iload_n 1, 1) := by decide +kernel
theorem dX5_allLines_10 : decode cX5_allLines 10 = .ok (.aload_n 0, 1) := by decide +kernel
theorem dX5_allLines_11 : decode cX5_allLines 11 = .ok (.getfield 15, 3) := by decide +kernel
theorem dX5_allLines_14 : decode cX5_allLines 14 = .ok (.iload_n 2, 1) := by decide +kernel
theorem dX5_allLines_15 : decode cX5_allLines 15 = .ok (.iaload, 1) := by decide +kernel
theorem dX5_allLines_16 : decode cX5_allLines 16 = .ok (.iadd, 1) := by decide +kernel
theorem dX5_allLines_17 : decode cX5_allLines 17 = .ok (.istore_n 1, 1) := by decide +kernel
theorem dX5_allLines_18 : decode cX5_allLines 18 = .ok (.iinc 2 1, 3) := by decide +kernel
theorem dX5_allLines_21 : decode cX5_allLines 21 = .ok (.goto (-17), 3) := by decide +kernel
theorem dX5_allLines_24 : decode cX5_allLines 24 = .ok (.iload_n 1, 1) := by decide +kernel
theorem dX5_allLines_25 : decode cX5_allLines 25 = .ok (.ireturn, 1) := by decide +kernel
theorem dX6_init_0 : decode cX6_init 0 = .ok (.aload_n 0, 1) := by decide +kernel
theorem dX6_init_1 : decode cX6_init 1 = .ok (.invokespecial 1, 3) := by decide +kernel
theorem dX6_init_4 : decode cX6_init 4 = .ok (.aload_n 0, 1) := by decide +kernel
theorem dX6_init_5 : decode cX6_init 5 = .ok (.bipush 8, 2) := by decide +kernel
theorem dX6_init_7 : decode cX6_init 7 = .ok (.anewarray 9, 3) := by decide +kernel
theorem dX6_init_10 : decode cX6_init 10 = .ok (.putfield 11, 3) := by decide +kernel
theorem dX6_init_13 : decode cX6_init 13 = .ok (.aload_n 0, 1) := by decide +kernel
theorem dX6_init_14 : decode cX6_init 14 = .ok (.bipush 120, 2) := by decide +kernel
theorem dX6_init_16 : decode cX6_init 16 = .ok (.newarray .int, 2) := by decide +kernel
theorem dX6_init_18 : decode cX6_init 18 = .ok (.putfield 15, 3) := by decide +kernel
theorem dX6_init_21 : decode cX6_init 21 = .ok (.aload_n 0, 1) := by decide +kernel
theorem dX6_init_22 : decode cX6_init 22 = .ok (.iconst 0, 1) := by decide +kernel
theorem dX6_init_23 : decode cX6_init 23 = .ok (.putfield 19, 3) := by decide +kernel
theorem dX6_init_26 : decode cX6_init 26 = .ok (.aload_n 0, 1) := by decide +kernel
theorem dX6_init_27 : decode cX6_init 27 = .ok (.iconst 0, 1) := by decide +kernel
theorem dX6_init_28 : decode cX6_init 28 = .ok (.putfield 23, 3) := by decide +kernel
theorem dX6_init_31 : decode cX6_init 31 = .ok (.aload_n 0, 1) := by decide +kernel
theorem dX6_init_32 : decode cX6_init 32 = .ok (.iconst 0, 1) := by decide +kernel
theorem dX6_init_33 : decode cX6_init 33 = .ok (.putfield 26, 3) := by decide +kernel
theorem dX6_init_36 : decode cX6_init 36 = .ok (.aload_n 0, 1) := by decide +kernel
theorem dX6_init_37 : decode cX6_init 37 = .ok (.new 29, 3) := by decide +kernel
theorem dX6_init_40 : decode cX6_init 40 = .ok (.dup, 1) := by decide +kernel
theorem dX6_init_41 : decode cX6_init 41 = .ok (.invokespecial 31, 3) := by decide +kernel
theorem dX6_init_44 : decode cX6_init 44 = .ok (.putfield 32, 3) := by decide +kernel
theorem dX6_init_47 : decode cX6_init 47 = .ok (.aload_n 0, 1) := by decide +kernel
theorem dX6_init_48 : decode cX6_init 48 = .ok (.new 36, 3) := by decide +kernel
theorem dX6_init_51 : decode cX6_init 51 = .ok (.dup, 1) := by decide +kernel
theorem dX6_init_52 : decode cX6_init 52 = .ok (.invokespecial 38, 3) := by decide +kernel
theorem dX6_init_55 : decode cX6_init 55 = .ok (.putfield 39, 3) := by decide +kernel
theorem dX6_init_58 : decode cX6_init 58 = .ok (.aload_n 0, 1) := by decide +kernel
theorem dX6_init_59 : decode cX6_init 59 = .ok (.bipush 24, 2) := by decide +kernel
theorem dX6_init_61 : decode cX6_init 61 = .ok (.anewarray 36, 3) := by decide +kernel
theorem dX6_init_64 : decode cX6_init 64 = .ok (.putfield 43, 3) := by decide +kernel
theorem dX6_init_67 : decode cX6_init 67 = .ok (.aload_n 0, 1) := by decide +kernel
theorem dX6_init_68 : decode cX6_init 68 = .ok (.iconst 0, 1) := by decide +kernel
theorem dX6_init_69 : decode cX6_init 69 = .ok (.putfield 47, 3) := by decide +kernel
theorem dX6_init_72 : decode cX6_init 72 = .ok (.aload_n 0, 1) := by decide +kernel
theorem dX6_init_73 : decode cX6_init 73 = .ok (.iconst 0, 1) := by decide +kernel
theorem dX6_init_74 : decode cX6_init 74 = .ok (.putfield 50, 3) := by decide +kernel
theorem dX6_init_77 : decode cX6_init 77 = .ok (.aload_n 0, 1) := by decide +kernel
theorem dX6_init_78 : decode cX6_init 78 = .ok (.iconst 2, 1) := by decide +kernel
theorem dX6_init_79 : decode cX6_init 79 = .ok (.anewarray 29, 3) := by decide +kernel
theorem dX6_init_82 : decode cX6_init 82 = .ok (.putfield 53, 3) := by decide +kernel
theorem dX6_init_85 : decode cX6_init 85 = .ok (.aload_n 0, 1) := by decide +kernel
theorem dX6_init_86 : decode cX6_init 86 = .ok (.iconst 2, 1) := by decide +kernel
theorem dX6_init_87 : decode cX6_init 87 = .ok (.anewarray 36, 3) := by decide +kernel
theorem dX6_init_90 : decode cX6_init 90 = .ok (.putfield 57, 3) := by decide +kernel
theorem dX6_init_93 : decode cX6_init 93 = .ok (.aload_n 0, 1) := by decide +kernel
theorem dX6_init_94 : decode cX6_init 94 = .ok (.new 36, 3) := by decide +kernel
theorem dX6_init_97 : decode cX6_init 97 = .ok (.dup, 1) := by decide +kernel
theorem dX6_init_98 : decode cX6_init 98 = .ok (.invokespecial 38, 3) := by decide +kernel
theorem dX6_init_101 : decode cX6_init 101 = .ok (.putfield 60, 3) := by decide +kernel
theorem dX6_init_104 : decode cX6_init 104 = .ok (.aload_n 0, 1) := by decide +kernel
theorem dX6_init_105 : decode cX6_init 105 = .ok (.new 63, 3) := by decide +kernel
theorem dX6_init_108 : decode cX6_init 108 = .ok (.dup, 1) := by decide +kernel
theorem dX6_init_109 : decode cX6_init 109 = .ok (.invokespecial 65, 3) := by decide +kernel
theorem dX6_init_112 : decode cX6_init 112 = .ok (.putfield 66, 3) := by decide +kernel
theorem dX6_init_115 : decode cX6_init 115 = .ok (.aload_n 0, 1) := by decide +kernel
theorem dX6_init_116 : decode cX6_init 116 = .ok (.new 70, 3) := by decide +kernel
theorem dX6_init_119 : decode cX6_init 119 = .ok (.dup, 1) := by decide +kernel
theorem dX6_init_120 : decode cX6_init 120 = .ok (.invokespecial 72, 3) := by decide +kernel
theorem dX6_init_123 : decode cX6_init 123 = .ok (.putfield 73, 3) := by decide +kernel
theorem dX6_init_126 : decode cX6_init 126 = .ok (.iconst 0, 1) := by decide +kernel
theorem dX6_init_127 : decode cX6_init 127 = .ok (.istore_n 1, 1) := by decide +kernel
theorem dX6_init_128 : decode cX6_init 128 = .ok (.iload_n 1, 1) := by decide +kernel
theorem dX6_init_129 : decode cX6_init 129 = .ok (.bipush 24, 2) := by decide +kernel
theorem dX6_init_131 : decode cX6_init 131 = .ok (.if_icmp .ge 22, 3) := by decide +kernel
theorem dX6_init_134 : decode cX6_init 134 = .ok (.aload_n 0, 1) := by decide +kernel
theorem dX6_init_135 : decode cX6_init 135 = .ok (.getfield 43, 3) := by decide +kernel
theorem dX6_init_138 : decode cX6_init 138 = .ok (.iload_n 1, 1) := by decide +kernel
theorem dX6_init_139 : decode cX6_init 139 = .ok (.new 36, 3) := by decide +kernel
theorem dX6_init_142 : decode cX6_init 142 = .ok (.dup, 1) := by decide +kernel
theorem dX6_init_143 : decode cX6_init 143 = .ok (.invokespecial 38, 3) := by decide +kernel
theorem dX6_init_146 : decode cX6_init 146 = .ok (.aastore, 1) := by decide +kernel
theorem dX6_init_147 : decode cX6_init 147 = .ok (.iinc 1 1, 3) := by decide +kernel
theorem dX6_init_150 : decode cX6_init 150 = .ok (.goto (-22), 3) := by decide +kernel
theorem dX6_init_153 : decode cX6_init 153 = .ok (.iconst 0, 1) := by decide +kernel
theorem dX6_init_154 : decode cX6_init 154 = .ok (.istore_n 1, 1) := by decide +kernel
theorem dX6_init_155 : decode cX6_init 155 = .ok (.iload_n 1, 1) := by decide +kernel
theorem dX6_init_156 : decode cX6_init 156 = .ok (.iconst 2, 1) := by decide +kernel
theorem dX6_init_157 : decode cX6_init 157 = .ok (.if_icmp .ge 22, 3) := by decide +kernel
theorem dX6_init_160 : decode cX6_init 160 = .ok (.aload_n 0, 1) := by decide +kernel
theorem dX6_init_161 : decode cX6_init 161 = .ok (.getfield 57, 3) := by decide +kernel
theorem dX6_init_164 : decode cX6_init 164 = .ok (.iload_n 1, 1) := by decide +kernel
theorem dX6_init_165 : decode cX6_init 165 = .ok (.new 36, 3) := by decide +kernel
theorem dX6_init_168 : decode cX6_init 168 = .ok (.dup, 1) := by decide +kernel
theorem dX6_init_169 : decode cX6_init 169 = .ok (.invokespecial 38, 3) := by decide +kernel
theorem dX6_init_172 : decode cX6_init 172 = .ok (.aastore, 1) := by decide +kernel
theorem dX6_init_173 : decode cX6_init 173 = .ok (.iinc 1 1, 3) := by decide +kernel
theorem dX6_init_176 : decode cX6_init 176 = .ok (.goto (-21), 3) := by decide +kernel
theorem dX6_init_179 : decode cX6_init 179 = .ok (.return_, 1) := by decide +kernel
theorem dX6_row_0 : decode cX6_row 0 = .ok (.iload_n 1, 1) := by decide +kernel
theorem dX6_row_1 : decode cX6_row 1 = .ok (.bipush 8, 2) := by decide +kernel
theorem dX6_row_3 : decode cX6_row 3 = .ok (.invokestatic 77, 3) := by decide +kernel
theorem dX6_row_6 : decode cX6_row 6 = .ok (.ifCond .eq 17, 3) := by decide +kernel
theorem dX6_row_9 : decode cX6_row 9 = .ok (.iload_n 2, 1) := by decide +kernel
theorem dX6_row_10 : decode cX6_row 10 = .ok (.iconst 3, 1) := by decide +kernel
theorem dX6_row_11 : decode cX6_row 11 = .ok (.invokestatic 77, 3) := by decide +kernel
theorem dX6_row_14 : decode cX6_row 14 = .ok (.ifCond .eq 9, 3) := by decide +kernel
theorem dX6_row_17 : decode cX6_row 17 = .ok (.iload_n 3, 1) := by decide +kernel
theorem dX6_row_18 : decode cX6_row 18 = .ok (.bipush 40, 2) := by decide +kernel
theorem dX6_row_20 : decode cX6_row 20 = .ok (.if_icmp .le 6, 3) := by decide +kernel
theorem dX6_row_23 : decode cX6_row 23 = .ok (.ldc 81, 2) := by decide +kernel
theorem dX6_row_25 : decode cX6_row 25 = .ok (.ireturn, 1) := by decide +kernel
theorem dX6_row_26 : decode cX6_row 26 = .ok (.iload_n 3, 1) := by decide +kernel
theorem dX6_row_27 : decode cX6_row 27 = .ok (.ifCond .ge 9, 3) := by decide +kernel
theorem dX6_row_30 : decode cX6_row 30 = .ok (.aload_n 0, 1) := by decide +kernel
theorem dX6_row_31 : decode cX6_row 31 = .ok (.iconst 4, 1) := by decide +kernel
theorem dX6_row_32 : decode cX6_row 32 = .ok (.invokevirtual 82, 3) := by decide +kernel
theorem dX6_row_35 : decode cX6_row 35 = .ok (.ireturn, 1) := by decide +kernel
theorem dX6_row_36 : decode cX6_row 36 = .ok (.aload_n 0, 1) := by decide +kernel
theorem dX6_row_37 : decode cX6_row 37 = .ok (.getfield 11, 3) := by decide +kernel
theorem dX6_row_40 : decode cX6_row 40 = .ok (.iload_n 1, 1) := by decide +kernel
theorem dX6_row_41 : decode cX6_row 41 = .ok (.new 9, 3) := by decide +kernel
theorem dX6_row_44 : decode cX6_row 44 = .ok (.dup, 1) := by decide +kernel
theorem dX6_row_45 : decode cX6_row 45 = .ok (.iload_n 2, 1) := by decide +kernel
theorem dX6_row_46 : decode cX6_row 46 = .ok (.iload_n 3, 1) := by decide +kernel
theorem dX6_row_47 : decode cX6_row 47 = .ok (.invokespecial 86, 3) := by decide +kernel
theorem dX6_row_50 : decode cX6_row 50 = .ok (.aastore, 1) := by decide +kernel
theorem dX6_row_51 : decode cX6_row 51 = .ok (.aload_n 0, 1) := by decide +kernel
theorem dX6_row_52 : decode cX6_row 52 = .ok (.iload_n 3, 1) := by decide +kernel
theorem dX6_row_53 : decode cX6_row 53 = .ok (.invokevirtual 89, 3) := by decide +kernel
theorem dX6_row_56 : decode cX6_row 56 = .ok (.ireturn, 1) := by decide +kernel
theorem dX6_set_0 : decode cX6_set 0 = .ok (.iload_n 1, 1) := by decide +kernel
theorem dX6_set_1 : decode cX6_set 1 = .ok (.bipush 8, 2) := by decide +kernel
theorem dX6_set_3 : decode cX6_set 3 = .ok (.invokestatic 77, 3) := by decide +kernel
theorem dX6_set_6 : decode cX6_set 6 = .ok (.ifCond .ne 6, 3) := by decide +kernel
theorem dX6_set_9 : decode cX6_set 9 = .ok (.ldc 81, 2) := by decide +kernel
theorem dX6_set_11 : decode cX6_set 11 = .ok (.ireturn, 1) := by decide +kernel
theorem dX6_set_12 : decode cX6_set 12 = .ok (.aload_n 0, 1) := by decide +kernel
theorem dX6_set_13 : decode cX6_set 13 = .ok (.getfield 11, 3) := by decide +kernel
theorem dX6_set_16 : decode cX6_set 16 = .ok (.iload_n 1, 1) := by decide +kernel
theorem dX6_set_17 : decode cX6_set 17 = .ok (.aaload, 1) := by decide +kernel
theorem dX6_set_18 : decode cX6_set 18 = .ok (.astore 4, 2) := by decide +kernel
theorem dX6_set_20 : decode cX6_set 20 = .ok (.aload 4, 2) := by decide +kernel
theorem dX6_set_22 : decode cX6_set 22 = .ok (.ifnonnull 9, 3) := by decide +kernel
theorem dX6_set_25 : decode cX6_set 25 = .ok (.aload_n 0, 1) := by decide +kernel
theorem dX6_set_26 : decode cX6_set 26 = .ok (.iconst 1, 1) := by decide +kernel
theorem dX6_set_27 : decode cX6_set 27 = .ok (.invokevirtual 82, 3) := by decide +kernel
theorem dX6_set_30 : decode cX6_set 30 = .ok (.ireturn, 1) := by decide +kernel
theorem dX6_set_31 : decode cX6_set 31 = .ok (.aload 4, 2) := by decide +kernel
theorem dX6_set_33 : decode cX6_set 33 = .ok (.iload_n 2, 1) := by decide +kernel
theorem dX6_set_34 : decode cX6_set 34 = .ok (.iconst 1, 1) := by decide +kernel
theorem dX6_set_35 : decode cX6_set 35 = .ok (.invokevirtual 92, 3) := by decide +kernel
theorem dX6_set_38 : decode cX6_set 38 = .ok (.ifCond .ne 9, 3) := by decide +kernel
theorem dX6_set_41 : decode cX6_set 41 = .ok (.aload_n 0, 1) := by decide +kernel
theorem dX6_set_42 : decode cX6_set 42 = .ok (.iconst 2, 1) := by decide +kernel
theorem dX6_set_43 : decode cX6_set 43 = .ok (.invokevirtual 82, 3) := by decide +kernel
theorem dX6_set_46 : decode cX6_set 46 = .ok (.ireturn, 1) := by decide +kernel
theorem dX6_set_47 : decode cX6_set 47 = .ok (.aload 4, 2) := by decide +kernel
theorem dX6_set_49 : decode cX6_set 49 = .ok (.getfield 95, 3) := by decide +kernel
theorem dX6_set_52 : decode cX6_set 52 = .ok (.iload_n 2, 1) := by decide +kernel
theorem dX6_set_53 : decode cX6_set 53 = .ok (.aload 4, 2) := by decide +kernel
theorem dX6_set_55 : decode cX6_set 55 = .ok (.iload_n 3, 1) := by decide +kernel
theorem dX6_set_56 : decode cX6_set 56 = .ok (.invokevirtual 98, 3) := by decide +kernel
theorem dX6_set_59 : decode cX6_set 59 = .ok (.iastore, 1) := by decide +kernel
theorem dX6_set_60 : decode cX6_set 60 = .ok (.aload_n 0, 1) := by decide +kernel
theorem dX6_set_61 : decode cX6_set 61 = .ok (.aload 4, 2) := by decide +kernel
theorem dX6_set_63 : decode cX6_set 63 = .ok (.getfield 95, 3) := by decide +kernel
theorem dX6_set_66 : decode cX6_set 66 = .ok (.iload_n 2, 1) := by decide +kernel
theorem dX6_set_67 : decode cX6_set 67 = .ok (.iaload, 1) := by decide +kernel
theorem dX6_set_68 : decode cX6_set 68 = .ok (.invokevirtual 89, 3) := by decide +kernel
theorem dX6_set_71 : decode cX6_set 71 = .ok (.ireturn, 1) := by decide +kernel
theorem dX6_copy_0 : decode cX6_copy 0 = .ok (.iload_n 1, 1) := by decide +kernel
theorem dX6_copy_1 : decode cX6_copy 1 = .ok (.bipush 8, 2) := by decide +kernel
theorem dX6_copy_3 : decode cX6_copy 3 = .ok (.invokestatic 77, 3) := by decide +kernel
theorem dX6_copy_6 : decode cX6_copy 6 = .ok (.ifCond .eq 12, 3) := by decide +kernel
theorem dX6_copy_9 : decode cX6_copy 9 = .ok (.iload_n 3, 1) := by decide +kernel
theorem dX6_copy_10 : decode cX6_copy 10 = .ok (.bipush 8, 2) := by decide +kernel
theorem dX6_copy_12 : decode cX6_copy 12 = .ok (.invokestatic 77, 3) := by decide +kernel
theorem dX6_copy_15 : decode cX6_copy 15 = .ok (.ifCond .ne 6, 3) := by decide +kernel
theorem dX6_copy_18 : decode cX6_copy 18 = .ok (.ldc 81, 2) := by decide +kernel
theorem dX6_copy_20 : decode cX6_copy 20 = .ok (.ireturn, 1) := by decide +kernel
theorem dX6_copy_21 : decode cX6_copy 21 = .ok (.aload_n 0, 1) := by decide +kernel
theorem dX6_copy_22 : decode cX6_copy 22 = .ok (.getfield 11, 3) := by decide +kernel
theorem dX6_copy_25 : decode cX6_copy 25 = .ok (.iload_n 1, 1) := by decide +kernel
theorem dX6_copy_26 : decode cX6_copy 26 = .ok (.aaload, 1) := by decide +kernel
theorem dX6_copy_27 : decode cX6_copy 27 = .ok (.astore 6, 2) := by decide +kernel
theorem dX6_copy_29 : decode cX6_copy 29 = .ok (.aload_n 0, 1) := by decide +kernel
theorem dX6_copy_30 : decode cX6_copy 30 = .ok (.getfield 11, 3) := by decide +kernel
theorem dX6_copy_33 : decode cX6_copy 33 = .ok (.iload_n 3, 1) := by decide +kernel
theorem dX6_copy_34 : decode cX6_copy 34 = .ok (.aaload, 1) := by decide +kernel
theorem dX6_copy_35 : decode cX6_copy 35 = .ok (.astore 7, 2) := by decide +kernel
theorem dX6_copy_37 : decode cX6_copy 37 = .ok (.aload 6, 2) := by decide +kernel
theorem dX6_copy_39 : decode cX6_copy 39 = .ok (.ifnull 8, 3) := by decide +kernel
theorem dX6_copy_42 : decode cX6_copy 42 = .ok (.aload 7, 2) := by decide +kernel
theorem dX6_copy_44 : decode cX6_copy 44 = .ok (.ifnonnull 9, 3) := by decide +kernel
theorem dX6_copy_47 : decode cX6_copy 47 = .ok (.aload_n 0, 1) := by decide +kernel
theorem dX6_copy_48 : decode cX6_copy 48 = .ok (.iconst 1, 1) := by decide +kernel
theorem dX6_copy_49 : decode cX6_copy 49 = .ok (.invokevirtual 82, 3) := by decide +kernel
theorem dX6_copy_52 : decode cX6_copy 52 = .ok (.ireturn, 1) := by decide +kernel
theorem dX6_copy_53 : decode cX6_copy 53 = .ok (.aload 6, 2) := by decide +kernel
theorem dX6_copy_55 : decode cX6_copy 55 = .ok (.getfield 101, 3) := by decide +kernel
theorem dX6_copy_58 : decode cX6_copy 58 = .ok (.aload 7, 2) := by decide +kernel
theorem dX6_copy_60 : decode cX6_copy 60 = .ok (.getfield 101, 3) := by decide +kernel
theorem dX6_copy_63 : decode cX6_copy 63 = .ok (.if_icmp .eq 9, 3) := by decide +kernel
theorem dX6_copy_66 : decode cX6_copy 66 = .ok (.aload_n 0, 1) := by decide +kernel
theorem dX6_copy_67 : decode cX6_copy 67 = .ok (.iconst 5, 1) := by decide +kernel
theorem dX6_copy_68 : decode cX6_copy 68 = .ok (.invokevirtual 82, 3) := by decide +kernel
theorem dX6_copy_71 : decode cX6_copy 71 = .ok (.ireturn, 1) := by decide +kernel
theorem dX6_copy_72 : decode cX6_copy 72 = .ok (.aload 6, 2) := by decide +kernel
theorem dX6_copy_74 : decode cX6_copy 74 = .ok (.iload_n 2, 1) := by decide +kernel
theorem dX6_copy_75 : decode cX6_copy 75 = .ok (.iload 5, 2) := by decide +kernel
theorem dX6_copy_77 : decode cX6_copy 77 = .ok (.invokevirtual 92, 3) := by decide +kernel
theorem dX6_copy_80 : decode cX6_copy 80 = .ok (.ifCond .eq 15, 3) := by decide +kernel
theorem dX6_copy_83 : decode cX6_copy 83 = .ok (.aload 7, 2) := by decide +kernel
theorem dX6_copy_85 : decode cX6_copy 85 = .ok (.iload 4, 2) := by decide +kernel
theorem dX6_copy_87 : decode cX6_copy 87 = .ok (.iload 5, 2) := by decide +kernel
theorem dX6_copy_89 : decode cX6_copy 89 = .ok (.invokevirtual 92, 3) := by decide +kernel
theorem dX6_copy_92 : decode cX6_copy 92 = .ok (.ifCond .ne 9, 3) := by decide +kernel
theorem dX6_copy_95 : decode cX6_copy 95 = .ok (.aload_n 0, 1) := by decide +kernel
theorem dX6_copy_96 : decode cX6_copy 96 = .ok (.iconst 2, 1) := by decide +kernel
theorem dX6_copy_97 : decode cX6_copy 97 = .ok (.invokevirtual 82, 3) := by decide +kernel
theorem dX6_copy_100 : decode cX6_copy 100 = .ok (.ireturn, 1) := by decide +kernel
theorem dX6_copy_101 : decode cX6_copy 101 = .ok (.aload 6, 2) := by decide +kernel
theorem dX6_copy_103 : decode cX6_copy 103 = .ok (.getfield 95, 3) := by decide +kernel
theorem dX6_copy_106 : decode cX6_copy 106 = .ok (.iload_n 2, 1) := by decide +kernel
theorem dX6_copy_107 : decode cX6_copy 107 = .ok (.aload 7, 2) := by decide +kernel
theorem dX6_copy_109 : decode cX6_copy 109 = .ok (.getfield 95, 3) := by decide +kernel
theorem dX6_copy_112 : decode cX6_copy 112 = .ok (.iload 4, 2) := by decide +kernel
theorem dX6_copy_114 : decode cX6_copy 114 = .ok (.iload 5, 2) := by decide +kernel
theorem dX6_copy_116 : decode cX6_copy 116 = .ok (.invokestatic 104, 3) := by decide +kernel
theorem dX6_copy_119 : decode cX6_copy 119 = .ok (.aload_n 0, 1) := by decide +kernel
theorem dX6_copy_120 : decode cX6_copy 120 = .ok (.iload 5, 2) := by decide +kernel
theorem dX6_copy_122 : decode cX6_copy 122 = .ok (.invokevirtual 89, 3) := by decide +kernel
theorem dX6_copy_125 : decode cX6_copy 125 = .ok (.ireturn, 1) := by decide +kernel
theorem dX6_drop_0 : decode cX6_drop 0 = .ok (.iload_n 1, 1) := by decide +kernel
theorem dX6_drop_1 : decode cX6_drop 1 = .ok (.bipush 8, 2) := by decide +kernel
theorem dX6_drop_3 : decode cX6_drop 3 = .ok (.invokestatic 77, 3) := by decide +kernel
theorem dX6_drop_6 : decode cX6_drop 6 = .ok (.ifCond .ne 6, 3) := by decide +kernel
theorem dX6_drop_9 : decode cX6_drop 9 = .ok (.ldc 81, 2) := by decide +kernel
theorem dX6_drop_11 : decode cX6_drop 11 = .ok (.ireturn, 1) := by decide +kernel
theorem dX6_drop_12 : decode cX6_drop 12 = .ok (.aload_n 0, 1) := by decide +kernel
theorem dX6_drop_13 : decode cX6_drop 13 = .ok (.getfield 11, 3) := by decide +kernel
theorem dX6_drop_16 : decode cX6_drop 16 = .ok (.iload_n 1, 1) := by decide +kernel
theorem dX6_drop_17 : decode cX6_drop 17 = .ok (.aaload, 1) := by decide +kernel
theorem dX6_drop_18 : decode cX6_drop 18 = .ok (.astore_n 2, 1) := by decide +kernel
theorem dX6_drop_19 : decode cX6_drop 19 = .ok (.aload_n 2, 1) := by decide +kernel
theorem dX6_drop_20 : decode cX6_drop 20 = .ok (.ifnonnull 9, 3) := by decide +kernel
theorem dX6_drop_23 : decode cX6_drop 23 = .ok (.aload_n 0, 1) := by decide +kernel
theorem dX6_drop_24 : decode cX6_drop 24 = .ok (.iconst 1, 1) := by decide +kernel
theorem dX6_drop_25 : decode cX6_drop 25 = .ok (.invokevirtual 82, 3) := by decide +kernel
theorem dX6_drop_28 : decode cX6_drop 28 = .ok (.ireturn, 1) := by decide +kernel
theorem dX6_drop_29 : decode cX6_drop 29 = .ok (.aload_n 0, 1) := by decide +kernel
theorem dX6_drop_30 : decode cX6_drop 30 = .ok (.getfield 11, 3) := by decide +kernel
theorem dX6_drop_33 : decode cX6_drop 33 = .ok (.iload_n 1, 1) := by decide +kernel
theorem dX6_drop_34 : decode cX6_drop 34 = .ok (.aconst_null, 1) := by decide +kernel
theorem dX6_drop_35 : decode cX6_drop 35 = .ok (.aastore, 1) := by decide +kernel
theorem dX6_drop_36 : decode cX6_drop 36 = .ok (.aload_n 0, 1) := by decide +kernel
theorem dX6_drop_37 : decode cX6_drop 37 = .ok (.aload_n 2, 1) := by decide +kernel
theorem dX6_drop_38 : decode cX6_drop 38 = .ok (.getfield 95, 3) := by decide +kernel
theorem dX6_drop_41 : decode cX6_drop 41 = .ok (.arraylength, 1) := by decide +kernel
theorem dX6_drop_42 : decode cX6_drop 42 = .ok (.invokevirtual 89, 3) := by decide +kernel
theorem dX6_drop_45 : decode cX6_drop 45 = .ok (.ireturn, 1) := by decide +kernel
theorem dX6_feed_0 : decode cX6_feed 0 = .ok (.iload_n 1, 1) := by decide +kernel
theorem dX6_feed_1 : decode cX6_feed 1 = .ok (.ifCond .lt 10, 3) := by decide +kernel
theorem dX6_feed_4 : decode cX6_feed 4 = .ok (.iload_n 1, 1) := by decide +kernel
theorem dX6_feed_5 : decode cX6_feed 5 = .ok (.sipush 255, 3) := by decide +kernel
theorem dX6_feed_8 : decode cX6_feed 8 = .ok (.if_icmp .le 6, 3) := by decide +kernel
theorem dX6_feed_11 : decode cX6_feed 11 = .ok (.ldc 81, 2) := by decide +kernel
theorem dX6_feed_13 : decode cX6_feed 13 = .ok (.ireturn, 1) := by decide +kernel
theorem dX6_feed_14 : decode cX6_feed 14 = .ok (.aload_n 0, 1) := by decide +kernel
theorem dX6_feed_15 : decode cX6_feed 15 = .ok (.getfield 19, 3) := by decide +kernel
theorem dX6_feed_18 : decode cX6_feed 18 = .ok (.bipush 120, 2) := by decide +kernel
theorem dX6_feed_20 : decode cX6_feed 20 = .ok (.if_icmp .lt 6, 3) := by decide +kernel
theorem dX6_feed_23 : decode cX6_feed 23 = .ok (.ldc 110, 2) := by decide +kernel
theorem dX6_feed_25 : decode cX6_feed 25 = .ok (.ireturn, 1) := by decide +kernel
theorem dX6_feed_26 : decode cX6_feed 26 = .ok (.aload_n 0, 1) := by decide +kernel
theorem dX6_feed_27 : decode cX6_feed 27 = .ok (.getfield 15, 3) := by decide +kernel
theorem dX6_feed_30 : decode cX6_feed 30 = .ok (.aload_n 0, 1) := by decide +kernel
theorem dX6_feed_31 : decode cX6_feed 31 = .ok (.getfield 19, 3) := by decide +kernel
theorem dX6_feed_34 : decode cX6_feed 34 = .ok (.iload_n 1, 1) := by decide +kernel
theorem dX6_feed_35 : decode cX6_feed 35 = .ok (.iastore, 1) := by decide +kernel
theorem dX6_feed_36 : decode cX6_feed 36 = .ok (.aload_n 0, 1) := by decide +kernel
theorem dX6_feed_37 : decode cX6_feed 37 = .ok (.dup, 1) := by decide +kernel
theorem dX6_feed_38 : decode cX6_feed 38 = .ok (.getfield 19, 3) := by decide +kernel
theorem dX6_feed_41 : decode cX6_feed 41 = .ok (.iconst 1, 1) := by decide +kernel
theorem dX6_feed_42 : decode cX6_feed 42 = .ok (.iadd, 1) := by decide +kernel
theorem dX6_feed_43 : decode cX6_feed 43 = .ok (.putfield 19, 3) := by decide +kernel
theorem dX6_feed_46 : decode cX6_feed 46 = .ok (.aload_n 0, 1) := by decide +kernel
theorem dX6_feed_47 : decode cX6_feed 47 = .ok (.getfield 19, 3) := by decide +kernel
theorem dX6_feed_50 : decode cX6_feed 50 = .ok (.ireturn, 1) := by decide +kernel
theorem dX6_castle_0 : decode cX6_castle 0 = .ok (.new 111, 3) := by decide +kernel
theorem dX6_castle_3 : decode cX6_castle 3 = .ok (.dup, 1) := by decide +kernel
theorem dX6_castle_4 : decode cX6_castle 4 = .ok (.aload_n 0, 1) := by decide +kernel
theorem dX6_castle_5 : decode cX6_castle 5 = .ok (.getfield 15, 3) := by decide +kernel
theorem dX6_castle_8 : decode cX6_castle 8 = .ok (.aload_n 0, 1) := by decide +kernel
theorem dX6_castle_9 : decode cX6_castle 9 = .ok (.getfield 19, 3) := by decide +kernel
theorem dX6_castle_12 : decode cX6_castle 12 = .ok (.invokespecial 113, 3) := by decide +kernel
theorem dX6_castle_15 : decode cX6_castle 15 = .ok (.astore_n 1, 1) := by decide +kernel
theorem dX6_castle_16 : decode cX6_castle 16 = .ok (.aload_n 1, 1) := by decide +kernel
theorem dX6_castle_17 : decode cX6_castle 17 = .ok (.invokevirtual 116, 3) := by decide +kernel
theorem dX6_castle_20 : decode cX6_castle 20 = .ok (.aload_n 0, 1) := by decide +kernel
theorem dX6_castle_21 : decode cX6_castle 21 = .ok (.iconst 0, 1) := by decide +kernel
theorem dX6_castle_22 : decode cX6_castle 22 = .ok (.putfield 19, 3) := by decide +kernel
theorem dX6_castle_25 : decode cX6_castle 25 = .ok (.aload_n 1, 1) := by decide +kernel
theorem dX6_castle_26 : decode cX6_castle 26 = .ok (.getfield 119, 3) := by decide +kernel
theorem dX6_castle_29 : decode cX6_castle 29 = .ok (.ifCond .eq 19, 3) := by decide +kernel
theorem dX6_castle_32 : decode cX6_castle 32 = .ok (.aload_n 0, 1) := by decide +kernel
theorem dX6_castle_33 : decode cX6_castle 33 = .ok (.aload_n 1, 1) := by decide +kernel
theorem dX6_castle_34 : decode cX6_castle 34 = .ok (.getfield 119, 3) := by decide +kernel
theorem dX6_castle_37 : decode cX6_castle 37 = .ok (.putfield 23, 3) := by decide +kernel
theorem dX6_castle_40 : decode cX6_castle 40 = .ok (.ldc 122, 2) := by decide +kernel
theorem dX6_castle_42 : decode cX6_castle 42 = .ok (.aload_n 1, 1) := by decide +kernel
theorem dX6_castle_43 : decode cX6_castle 43 = .ok (.getfield 123, 3) := by decide +kernel
theorem dX6_castle_46 : decode cX6_castle 46 = .ok (.isub, 1) := by decide +kernel
theorem dX6_castle_47 : decode cX6_castle 47 = .ok (.ireturn, 1) := by decide +kernel
theorem dX6_castle_48 : decode cX6_castle 48 = .ok (.aload_n 0, 1) := by decide +kernel
theorem dX6_castle_49 : decode cX6_castle 49 = .ok (.aload_n 1, 1) := by decide +kernel
theorem dX6_castle_50 : decode cX6_castle 50 = .ok (.getfield 126, 3) := by decide +kernel
theorem dX6_castle_53 : decode cX6_castle 53 = .ok (.putfield 32, 3) := by decide +kernel
theorem dX6_castle_56 : decode cX6_castle 56 = .ok (.aload_n 0, 1) := by decide +kernel
theorem dX6_castle_57 : decode cX6_castle 57 = .ok (.getfield 39, 3) := by decide +kernel
theorem dX6_castle_60 : decode cX6_castle 60 = .ok (.aload_n 0, 1) := by decide +kernel
theorem dX6_castle_61 : decode cX6_castle 61 = .ok (.getfield 32, 3) := by decide +kernel
theorem dX6_castle_64 : decode cX6_castle 64 = .ok (.invokevirtual 127, 3) := by decide +kernel
theorem dX6_castle_67 : decode cX6_castle 67 = .ok (.aload_n 0, 1) := by decide +kernel
theorem dX6_castle_68 : decode cX6_castle 68 = .ok (.iconst 0, 1) := by decide +kernel
theorem dX6_castle_69 : decode cX6_castle 69 = .ok (.putfield 50, 3) := by decide +kernel
theorem dX6_castle_72 : decode cX6_castle 72 = .ok (.aload_n 0, 1) := by decide +kernel
theorem dX6_castle_73 : decode cX6_castle 73 = .ok (.getfield 32, 3) := by decide +kernel
theorem dX6_castle_76 : decode cX6_castle 76 = .ok (.getfield 131, 3) := by decide +kernel
theorem dX6_castle_79 : decode cX6_castle 79 = .ok (.ireturn, 1) := by decide +kernel
theorem dX6_fault_0 : decode cX6_fault 0 = .ok (.aload_n 0, 1) := by decide +kernel
theorem dX6_fault_1 : decode cX6_fault 1 = .ok (.getfield 23, 3) := by decide +kernel
theorem dX6_fault_4 : decode cX6_fault 4 = .ok (.ireturn, 1) := by decide +kernel
theorem dX6_undo_0 : decode cX6_undo 0 = .ok (.aload_n 0, 1) := by decide +kernel
theorem dX6_undo_1 : decode cX6_undo 1 = .ok (.getfield 50, 3) := by decide +kernel
theorem dX6_undo_4 : decode cX6_undo 4 = .ok (.iconst 1, 1) := by decide +kernel
theorem dX6_undo_5 : decode cX6_undo 5 = .ok (.if_icmp .ge 6, 3) := by decide +kernel
theorem dX6_undo_8 : decode cX6_undo 8 = .ok (.ldc 134, 2) := by decide +kernel
theorem dX6_undo_10 : decode cX6_undo 10 = .ok (.ireturn, 1) := by decide +kernel
theorem dX6_undo_11 : decode cX6_undo 11 = .ok (.aload_n 0, 1) := by decide +kernel
theorem dX6_undo_12 : decode cX6_undo 12 = .ok (.aload_n 0, 1) := by decide +kernel
theorem dX6_undo_13 : decode cX6_undo 13 = .ok (.getfield 47, 3) := by decide +kernel
theorem dX6_undo_16 : decode cX6_undo 16 = .ok (.ifCond .ne 8, 3) := by decide +kernel
theorem dX6_undo_19 : decode cX6_undo 19 = .ok (.bipush 23, 2) := by decide +kernel
theorem dX6_undo_21 : decode cX6_undo 21 = .ok (.goto 9, 3) := by decide +kernel
theorem dX6_undo_24 : decode cX6_undo 24 = .ok (.aload_n 0, 1) := by decide +kernel
theorem dX6_undo_25 : decode cX6_undo 25 = .ok (.getfield 47, 3) := by decide +kernel
theorem dX6_undo_28 : decode cX6_undo 28 = .ok (.iconst 1, 1) := by decide +kernel
theorem dX6_undo_29 : decode cX6_undo 29 = .ok (.isub, 1) := by decide +kernel
theorem dX6_undo_30 : decode cX6_undo 30 = .ok (.putfield 47, 3) := by decide +kernel
theorem dX6_undo_33 : decode cX6_undo 33 = .ok (.aload_n 0, 1) := by decide +kernel
theorem dX6_undo_34 : decode cX6_undo 34 = .ok (.getfield 39, 3) := by decide +kernel
theorem dX6_undo_37 : decode cX6_undo 37 = .ok (.aload_n 0, 1) := by decide +kernel
theorem dX6_undo_38 : decode cX6_undo 38 = .ok (.getfield 43, 3) := by decide +kernel
theorem dX6_undo_41 : decode cX6_undo 41 = .ok (.aload_n 0, 1) := by decide +kernel
theorem dX6_undo_42 : decode cX6_undo 42 = .ok (.getfield 47, 3) := by decide +kernel
theorem dX6_undo_45 : decode cX6_undo 45 = .ok (.aaload, 1) := by decide +kernel
theorem dX6_undo_46 : decode cX6_undo 46 = .ok (.invokevirtual 135, 3) := by decide +kernel
theorem dX6_undo_49 : decode cX6_undo 49 = .ok (.aload_n 0, 1) := by decide +kernel
theorem dX6_undo_50 : decode cX6_undo 50 = .ok (.dup, 1) := by decide +kernel
theorem dX6_undo_51 : decode cX6_undo 51 = .ok (.getfield 50, 3) := by decide +kernel
theorem dX6_undo_54 : decode cX6_undo 54 = .ok (.iconst 1, 1) := by decide +kernel
theorem dX6_undo_55 : decode cX6_undo 55 = .ok (.isub, 1) := by decide +kernel
theorem dX6_undo_56 : decode cX6_undo 56 = .ok (.putfield 50, 3) := by decide +kernel
theorem dX6_undo_59 : decode cX6_undo 59 = .ok (.aload_n 0, 1) := by decide +kernel
theorem dX6_undo_60 : decode cX6_undo 60 = .ok (.getfield 50, 3) := by decide +kernel
theorem dX6_undo_63 : decode cX6_undo 63 = .ok (.ireturn, 1) := by decide +kernel
theorem dX6_write_0 : decode cX6_write 0 = .ok (.aload_n 0, 1) := by decide +kernel
theorem dX6_write_1 : decode cX6_write 1 = .ok (.getfield 32, 3) := by decide +kernel
theorem dX6_write_4 : decode cX6_write 4 = .ok (.iload_n 1, 1) := by decide +kernel
theorem dX6_write_5 : decode cX6_write 5 = .ok (.invokevirtual 139, 3) := by decide +kernel
theorem dX6_write_8 : decode cX6_write 8 = .ok (.ifCond .eq 21, 3) := by decide +kernel
theorem dX6_write_11 : decode cX6_write 11 = .ok (.iload_n 2, 1) := by decide +kernel
theorem dX6_write_12 : decode cX6_write 12 = .ok (.invokestatic 143, 3) := by decide +kernel
theorem dX6_write_15 : decode cX6_write 15 = .ok (.ifCond .eq 14, 3) := by decide +kernel
theorem dX6_write_18 : decode cX6_write 18 = .ok (.aload_n 0, 1) := by decide +kernel
theorem dX6_write_19 : decode cX6_write 19 = .ok (.getfield 32, 3) := by decide +kernel
theorem dX6_write_22 : decode cX6_write 22 = .ok (.iload_n 3, 1) := by decide +kernel
theorem dX6_write_23 : decode cX6_write 23 = .ok (.invokevirtual 146, 3) := by decide +kernel
theorem dX6_write_26 : decode cX6_write 26 = .ok (.ifCond .ne 6, 3) := by decide +kernel
theorem dX6_write_29 : decode cX6_write 29 = .ok (.ldc 81, 2) := by decide +kernel
theorem dX6_write_31 : decode cX6_write 31 = .ok (.ireturn, 1) := by decide +kernel
theorem dX6_write_32 : decode cX6_write 32 = .ok (.aload_n 0, 1) := by decide +kernel
theorem dX6_write_33 : decode cX6_write 33 = .ok (.getfield 32, 3) := by decide +kernel
theorem dX6_write_36 : decode cX6_write 36 = .ok (.iload_n 1, 1) := by decide +kernel
theorem dX6_write_37 : decode cX6_write 37 = .ok (.iload_n 2, 1) := by decide +kernel
theorem dX6_write_38 : decode cX6_write 38 = .ok (.aload_n 0, 1) := by decide +kernel
theorem dX6_write_39 : decode cX6_write 39 = .ok (.getfield 39, 3) := by decide +kernel
theorem dX6_write_42 : decode cX6_write 42 = .ok (.getfield 149, 3) := by decide +kernel
theorem dX6_write_45 : decode cX6_write 45 = .ok (.invokevirtual 152, 3) := by decide +kernel
theorem dX6_write_48 : decode cX6_write 48 = .ok (.istore 4, 2) := by decide +kernel
theorem dX6_write_50 : decode cX6_write 50 = .ok (.aload_n 0, 1) := by decide +kernel
theorem dX6_write_51 : decode cX6_write 51 = .ok (.getfield 39, 3) := by decide +kernel
theorem dX6_write_54 : decode cX6_write 54 = .ok (.getfield 156, 3) := by decide +kernel
theorem dX6_write_57 : decode cX6_write 57 = .ok (.iload_n 3, 1) := by decide +kernel
theorem dX6_write_58 : decode cX6_write 58 = .ok (.iaload, 1) := by decide +kernel
theorem dX6_write_59 : decode cX6_write 59 = .ok (.iload 4, 2) := by decide +kernel
theorem dX6_write_61 : decode cX6_write 61 = .ok (.if_icmp .ge 6, 3) := by decide +kernel
theorem dX6_write_64 : decode cX6_write 64 = .ok (.ldc 134, 2) := by decide +kernel
theorem dX6_write_66 : decode cX6_write 66 = .ok (.ireturn, 1) := by decide +kernel
theorem dX6_write_67 : decode cX6_write 67 = .ok (.aload_n 0, 1) := by decide +kernel
theorem dX6_write_68 : decode cX6_write 68 = .ok (.invokevirtual 159, 3) := by decide +kernel
theorem dX6_write_71 : decode cX6_write 71 = .ok (.aload_n 0, 1) := by decide +kernel
theorem dX6_write_72 : decode cX6_write 72 = .ok (.getfield 39, 3) := by decide +kernel
theorem dX6_write_75 : decode cX6_write 75 = .ok (.iload_n 3, 1) := by decide +kernel
theorem dX6_write_76 : decode cX6_write 76 = .ok (.iload 4, 2) := by decide +kernel
theorem dX6_write_78 : decode cX6_write 78 = .ok (.invokevirtual 162, 3) := by decide +kernel
theorem dX6_write_81 : decode cX6_write 81 = .ok (.aload_n 0, 1) := by decide +kernel
theorem dX6_write_82 : decode cX6_write 82 = .ok (.getfield 39, 3) := by decide +kernel
theorem dX6_write_85 : decode cX6_write 85 = .ok (.getfield 165, 3) := by decide +kernel
theorem dX6_write_88 : decode cX6_write 88 = .ok (.iload_n 1, 1) := by decide +kernel
theorem dX6_write_89 : decode cX6_write 89 = .ok (.dup2, 1) := by decide +kernel
theorem dX6_write_90 : decode cX6_write 90 = .ok (.iaload, 1) := by decide +kernel
theorem dX6_write_91 : decode cX6_write 91 = .ok (.iload_n 2, 1) := by decide +kernel
theorem dX6_write_92 : decode cX6_write 92 = .ok (.iadd, 1) := by decide +kernel
theorem dX6_write_93 : decode cX6_write 93 = .ok (.iastore, 1) := by decide +kernel
theorem dX6_write_94 : decode cX6_write 94 = .ok (.iload 4, 2) := by decide +kernel
theorem dX6_write_96 : decode cX6_write 96 = .ok (.ireturn, 1) := by decide +kernel
theorem dX6_rub_0 : decode cX6_rub 0 = .ok (.iload_n 1, 1) := by decide +kernel
theorem dX6_rub_1 : decode cX6_rub 1 = .ok (.iconst 1, 1) := by decide +kernel
theorem dX6_rub_2 : decode cX6_rub 2 = .ok (.if_icmp .lt 20, 3) := by decide +kernel
theorem dX6_rub_5 : decode cX6_rub 5 = .ok (.iload_n 1, 1) := by decide +kernel
theorem dX6_rub_6 : decode cX6_rub 6 = .ok (.bipush 60, 2) := by decide +kernel
theorem dX6_rub_8 : decode cX6_rub 8 = .ok (.if_icmp .gt 14, 3) := by decide +kernel
theorem dX6_rub_11 : decode cX6_rub 11 = .ok (.aload_n 0, 1) := by decide +kernel
theorem dX6_rub_12 : decode cX6_rub 12 = .ok (.getfield 32, 3) := by decide +kernel
theorem dX6_rub_15 : decode cX6_rub 15 = .ok (.iload_n 2, 1) := by decide +kernel
theorem dX6_rub_16 : decode cX6_rub 16 = .ok (.invokevirtual 146, 3) := by decide +kernel
theorem dX6_rub_19 : decode cX6_rub 19 = .ok (.ifCond .ne 6, 3) := by decide +kernel
theorem dX6_rub_22 : decode cX6_rub 22 = .ok (.ldc 81, 2) := by decide +kernel
theorem dX6_rub_24 : decode cX6_rub 24 = .ok (.ireturn, 1) := by decide +kernel
theorem dX6_rub_25 : decode cX6_rub 25 = .ok (.aload_n 0, 1) := by decide +kernel
theorem dX6_rub_26 : decode cX6_rub 26 = .ok (.getfield 39, 3) := by decide +kernel
theorem dX6_rub_29 : decode cX6_rub 29 = .ok (.getfield 168, 3) := by decide +kernel
theorem dX6_rub_32 : decode cX6_rub 32 = .ok (.iload_n 1, 1) := by decide +kernel
theorem dX6_rub_33 : decode cX6_rub 33 = .ok (.if_icmp .ge 6, 3) := by decide +kernel
theorem dX6_rub_36 : decode cX6_rub 36 = .ok (.ldc 134, 2) := by decide +kernel
theorem dX6_rub_38 : decode cX6_rub 38 = .ok (.ireturn, 1) := by decide +kernel
theorem dX6_rub_39 : decode cX6_rub 39 = .ok (.aload_n 0, 1) := by decide +kernel
theorem dX6_rub_40 : decode cX6_rub 40 = .ok (.invokevirtual 159, 3) := by decide +kernel
theorem dX6_rub_43 : decode cX6_rub 43 = .ok (.aload_n 0, 1) := by decide +kernel
theorem dX6_rub_44 : decode cX6_rub 44 = .ok (.getfield 39, 3) := by decide +kernel
theorem dX6_rub_47 : decode cX6_rub 47 = .ok (.dup, 1) := by decide +kernel
theorem dX6_rub_48 : decode cX6_rub 48 = .ok (.getfield 168, 3) := by decide +kernel
theorem dX6_rub_51 : decode cX6_rub 51 = .ok (.iload_n 1, 1) := by decide +kernel
theorem dX6_rub_52 : decode cX6_rub 52 = .ok (.isub, 1) := by decide +kernel
theorem dX6_rub_53 : decode cX6_rub 53 = .ok (.putfield 168, 3) := by decide +kernel
theorem dX6_rub_56 : decode cX6_rub 56 = .ok (.aload_n 0, 1) := by decide +kernel
theorem dX6_rub_57 : decode cX6_rub 57 = .ok (.getfield 39, 3) := by decide +kernel
theorem dX6_rub_60 : decode cX6_rub 60 = .ok (.getfield 156, 3) := by decide +kernel
theorem dX6_rub_63 : decode cX6_rub 63 = .ok (.iload_n 2, 1) := by decide +kernel
theorem dX6_rub_64 : decode cX6_rub 64 = .ok (.bipush 30, 2) := by decide +kernel
theorem dX6_rub_66 : decode cX6_rub 66 = .ok (.aload_n 0, 1) := by decide +kernel
theorem dX6_rub_67 : decode cX6_rub 67 = .ok (.getfield 39, 3) := by decide +kernel
theorem dX6_rub_70 : decode cX6_rub 70 = .ok (.getfield 156, 3) := by decide +kernel
theorem dX6_rub_73 : decode cX6_rub 73 = .ok (.iload_n 2, 1) := by decide +kernel
theorem dX6_rub_74 : decode cX6_rub 74 = .ok (.iaload, 1) := by decide +kernel
theorem dX6_rub_75 : decode cX6_rub 75 = .ok (.iload_n 1, 1) := by decide +kernel
theorem dX6_rub_76 : decode cX6_rub 76 = .ok (.aload_n 0, 1) := by decide +kernel
theorem dX6_rub_77 : decode cX6_rub 77 = .ok (.getfield 32, 3) := by decide +kernel
theorem dX6_rub_80 : decode cX6_rub 80 = .ok (.getfield 171, 3) := by decide +kernel
theorem dX6_rub_83 : decode cX6_rub 83 = .ok (.imul, 1) := by decide +kernel
theorem dX6_rub_84 : decode cX6_rub 84 = .ok (.bipush 10, 2) := by decide +kernel
theorem dX6_rub_86 : decode cX6_rub 86 = .ok (.idiv, 1) := by decide +kernel
theorem dX6_rub_87 : decode cX6_rub 87 = .ok (.iadd, 1) := by decide +kernel
theorem dX6_rub_88 : decode cX6_rub 88 = .ok (.invokestatic 174, 3) := by decide +kernel
theorem dX6_rub_91 : decode cX6_rub 91 = .ok (.iastore, 1) := by decide +kernel
theorem dX6_rub_92 : decode cX6_rub 92 = .ok (.aload_n 0, 1) := by decide +kernel
theorem dX6_rub_93 : decode cX6_rub 93 = .ok (.getfield 39, 3) := by decide +kernel
theorem dX6_rub_96 : decode cX6_rub 96 = .ok (.getfield 156, 3) := by decide +kernel
theorem dX6_rub_99 : decode cX6_rub 99 = .ok (.iload_n 2, 1) := by decide +kernel
theorem dX6_rub_100 : decode cX6_rub 100 = .ok (.iaload, 1) := by decide +kernel
theorem dX6_rub_101 : decode cX6_rub 101 = .ok (.ireturn, 1) := by decide +kernel
theorem dX6_rain_0 : decode cX6_rain 0 = .ok (.aload_n 0, 1) := by decide +kernel
theorem dX6_rain_1 : decode cX6_rain 1 = .ok (.invokevirtual 180, 3) := by decide +kernel
theorem dX6_rain_4 : decode cX6_rain 4 = .ok (.ifCond .ne 6, 3) := by decide +kernel
theorem dX6_rain_7 : decode cX6_rain 7 = .ok (.ldc 134, 2) := by decide +kernel
theorem dX6_rain_9 : decode cX6_rain 9 = .ok (.ireturn, 1) := by decide +kernel
theorem dX6_rain_10 : decode cX6_rain 10 = .ok (.aload_n 0, 1) := by decide +kernel
theorem dX6_rain_11 : decode cX6_rain 11 = .ok (.invokevirtual 159, 3) := by decide +kernel
theorem dX6_rain_14 : decode cX6_rain 14 = .ok (.aload_n 0, 1) := by decide +kernel
theorem dX6_rain_15 : decode cX6_rain 15 = .ok (.getfield 32, 3) := by decide +kernel
theorem dX6_rain_18 : decode cX6_rain 18 = .ok (.aload_n 0, 1) := by decide +kernel
theorem dX6_rain_19 : decode cX6_rain 19 = .ok (.getfield 39, 3) := by decide +kernel
theorem dX6_rain_22 : decode cX6_rain 22 = .ok (.invokevirtual 184, 3) := by decide +kernel
theorem dX6_rain_25 : decode cX6_rain 25 = .ok (.aload_n 0, 1) := by decide +kernel
theorem dX6_rain_26 : decode cX6_rain 26 = .ok (.invokevirtual 187, 3) := by decide +kernel
theorem dX6_rain_29 : decode cX6_rain 29 = .ok (.ireturn, 1) := by decide +kernel
theorem dX6_days_0 : decode cX6_days 0 = .ok (.aload_n 0, 1) := by decide +kernel
theorem dX6_days_1 : decode cX6_days 1 = .ok (.invokevirtual 180, 3) := by decide +kernel
theorem dX6_days_4 : decode cX6_days 4 = .ok (.ifCond .ne 6, 3) := by decide +kernel
theorem dX6_days_7 : decode cX6_days 7 = .ok (.ldc 134, 2) := by decide +kernel
theorem dX6_days_9 : decode cX6_days 9 = .ok (.ireturn, 1) := by decide +kernel
theorem dX6_days_10 : decode cX6_days 10 = .ok (.iload_n 1, 1) := by decide +kernel
theorem dX6_days_11 : decode cX6_days 11 = .ok (.iconst 1, 1) := by decide +kernel
theorem dX6_days_12 : decode cX6_days 12 = .ok (.if_icmp .lt 9, 3) := by decide +kernel
theorem dX6_days_15 : decode cX6_days 15 = .ok (.iload_n 1, 1) := by decide +kernel
theorem dX6_days_16 : decode cX6_days 16 = .ok (.bipush 24, 2) := by decide +kernel
theorem dX6_days_18 : decode cX6_days 18 = .ok (.if_icmp .le 6, 3) := by decide +kernel
theorem dX6_days_21 : decode cX6_days 21 = .ok (.ldc 81, 2) := by decide +kernel
theorem dX6_days_23 : decode cX6_days 23 = .ok (.ireturn, 1) := by decide +kernel
theorem dX6_days_24 : decode cX6_days 24 = .ok (.aload_n 0, 1) := by decide +kernel
theorem dX6_days_25 : decode cX6_days 25 = .ok (.getfield 39, 3) := by decide +kernel
theorem dX6_days_28 : decode cX6_days 28 = .ok (.getfield 149, 3) := by decide +kernel
theorem dX6_days_31 : decode cX6_days 31 = .ok (.iload_n 1, 1) := by decide +kernel
theorem dX6_days_32 : decode cX6_days 32 = .ok (.iadd, 1) := by decide +kernel
theorem dX6_days_33 : decode cX6_days 33 = .ok (.sipush 999, 3) := by decide +kernel
theorem dX6_days_36 : decode cX6_days 36 = .ok (.if_icmp .le 6, 3) := by decide +kernel
theorem dX6_days_39 : decode cX6_days 39 = .ok (.ldc 110, 2) := by decide +kernel
theorem dX6_days_41 : decode cX6_days 41 = .ok (.ireturn, 1) := by decide +kernel
theorem dX6_days_42 : decode cX6_days 42 = .ok (.iconst 0, 1) := by decide +kernel
theorem dX6_days_43 : decode cX6_days 43 = .ok (.istore_n 2, 1) := by decide +kernel
theorem dX6_days_44 : decode cX6_days 44 = .ok (.iload_n 2, 1) := by decide +kernel
theorem dX6_days_45 : decode cX6_days 45 = .ok (.iload_n 1, 1) := by decide +kernel
theorem dX6_days_46 : decode cX6_days 46 = .ok (.if_icmp .ge 26, 3) := by decide +kernel
theorem dX6_days_49 : decode cX6_days 49 = .ok (.aload_n 0, 1) := by decide +kernel
theorem dX6_days_50 : decode cX6_days 50 = .ok (.invokevirtual 159, 3) := by decide +kernel
theorem dX6_days_53 : decode cX6_days 53 = .ok (.aload_n 0, 1) := by decide +kernel
theorem dX6_days_54 : decode cX6_days 54 = .ok (.getfield 39, 3) := by decide +kernel
theorem dX6_days_57 : decode cX6_days 57 = .ok (.dup, 1) := by decide +kernel
theorem dX6_days_58 : decode cX6_days 58 = .ok (.getfield 149, 3) := by decide +kernel
theorem dX6_days_61 : decode cX6_days 61 = .ok (.iconst 1, 1) := by decide +kernel
theorem dX6_days_62 : decode cX6_days 62 = .ok (.iadd, 1) := by decide +kernel
theorem dX6_days_63 : decode cX6_days 63 = .ok (.putfield 149, 3) := by decide +kernel
theorem dX6_days_66 : decode cX6_days 66 = .ok (.iinc 2 1, 3) := by decide +kernel
theorem dX6_days_69 : decode cX6_days 69 = .ok (.goto (-25), 3) := by decide +kernel
theorem dX6_days_72 : decode cX6_days 72 = .ok (.aload_n 0, 1) := by decide +kernel
theorem dX6_days_73 : decode cX6_days 73 = .ok (.getfield 39, 3) := by decide +kernel
theorem dX6_days_76 : decode cX6_days 76 = .ok (.getfield 149, 3) := by decide +kernel
theorem dX6_days_79 : decode cX6_days 79 = .ok (.ireturn, 1) := by decide +kernel
theorem dX6_block_0 : decode cX6_block 0 = .ok (.aload_n 0, 1) := by decide +kernel
theorem dX6_block_1 : decode cX6_block 1 = .ok (.getfield 32, 3) := by decide +kernel
theorem dX6_block_4 : decode cX6_block 4 = .ok (.iload_n 1, 1) := by decide +kernel
theorem dX6_block_5 : decode cX6_block 5 = .ok (.invokevirtual 146, 3) := by decide +kernel
theorem dX6_block_8 : decode cX6_block 8 = .ok (.ifCond .ne 6, 3) := by decide +kernel
theorem dX6_block_11 : decode cX6_block 11 = .ok (.ldc 81, 2) := by decide +kernel
theorem dX6_block_13 : decode cX6_block 13 = .ok (.ireturn, 1) := by decide +kernel
theorem dX6_block_14 : decode cX6_block 14 = .ok (.iload_n 2, 1) := by decide +kernel
theorem dX6_block_15 : decode cX6_block 15 = .ok (.tableswitch 67 0 3 #[29, 39, 48, 58], 29) := by decide +kernel
theorem dX6_block_44 : decode cX6_block 44 = .ok (.aload_n 0, 1) := by decide +kernel
theorem dX6_block_45 : decode cX6_block 45 = .ok (.getfield 39, 3) := by decide +kernel
theorem dX6_block_48 : decode cX6_block 48 = .ok (.getfield 156, 3) := by decide +kernel
theorem dX6_block_51 : decode cX6_block 51 = .ok (.iload_n 1, 1) := by decide +kernel
theorem dX6_block_52 : decode cX6_block 52 = .ok (.iaload, 1) := by decide +kernel
theorem dX6_block_53 : decode cX6_block 53 = .ok (.ireturn, 1) := by decide +kernel
theorem dX6_block_54 : decode cX6_block 54 = .ok (.aload_n 0, 1) := by decide +kernel
theorem dX6_block_55 : decode cX6_block 55 = .ok (.invokevirtual 187, 3) := by decide +kernel
theorem dX6_block_58 : decode cX6_block 58 = .ok (.iload_n 1, 1) := by decide +kernel
theorem dX6_block_59 : decode cX6_block 59 = .ok (.ishr, 1) := by decide +kernel
theorem dX6_block_60 : decode cX6_block 60 = .ok (.iconst 1, 1) := by decide +kernel
theorem dX6_block_61 : decode cX6_block 61 = .ok (.iand, 1) := by decide +kernel
theorem dX6_block_62 : decode cX6_block 62 = .ok (.ireturn, 1) := by decide +kernel
theorem dX6_block_63 : decode cX6_block 63 = .ok (.aload_n 0, 1) := by decide +kernel
theorem dX6_block_64 : decode cX6_block 64 = .ok (.getfield 32, 3) := by decide +kernel
theorem dX6_block_67 : decode cX6_block 67 = .ok (.getfield 191, 3) := by decide +kernel
theorem dX6_block_70 : decode cX6_block 70 = .ok (.iload_n 1, 1) := by decide +kernel
theorem dX6_block_71 : decode cX6_block 71 = .ok (.iaload, 1) := by decide +kernel
theorem dX6_block_72 : decode cX6_block 72 = .ok (.ireturn, 1) := by decide +kernel
theorem dX6_block_73 : decode cX6_block 73 = .ok (.aload_n 0, 1) := by decide +kernel
theorem dX6_block_74 : decode cX6_block 74 = .ok (.getfield 32, 3) := by decide +kernel
theorem dX6_block_77 : decode cX6_block 77 = .ok (.iload_n 1, 1) := by decide +kernel
theorem dX6_block_78 : decode cX6_block 78 = .ok (.invokevirtual 194, 3) := by decide +kernel
theorem dX6_block_81 : decode cX6_block 81 = .ok (.ireturn, 1) := by decide +kernel
theorem dX6_block_82 : decode cX6_block 82 = .ok (.ldc 81, 2) := by decide +kernel
theorem dX6_block_84 : decode cX6_block 84 = .ok (.ireturn, 1) := by decide +kernel
theorem dX6_clerk_0 : decode cX6_clerk 0 = .ok (.aload_n 0, 1) := by decide +kernel
theorem dX6_clerk_1 : decode cX6_clerk 1 = .ok (.getfield 32, 3) := by decide +kernel
theorem dX6_clerk_4 : decode cX6_clerk 4 = .ok (.iload_n 1, 1) := by decide +kernel
theorem dX6_clerk_5 : decode cX6_clerk 5 = .ok (.invokevirtual 139, 3) := by decide +kernel
theorem dX6_clerk_8 : decode cX6_clerk 8 = .ok (.ifCond .ne 6, 3) := by decide +kernel
theorem dX6_clerk_11 : decode cX6_clerk 11 = .ok (.ldc 81, 2) := by decide +kernel
theorem dX6_clerk_13 : decode cX6_clerk 13 = .ok (.ireturn, 1) := by decide +kernel
theorem dX6_clerk_14 : decode cX6_clerk 14 = .ok (.iload_n 2, 1) := by decide +kernel
theorem dX6_clerk_15 : decode cX6_clerk 15 = .ok (.lookupswitch 45 #[(0, 25), (1, 35)], 25) := by decide +kernel
theorem dX6_clerk_40 : decode cX6_clerk 40 = .ok (.aload_n 0, 1) := by decide +kernel
theorem dX6_clerk_41 : decode cX6_clerk 41 = .ok (.getfield 32, 3) := by decide +kernel
theorem dX6_clerk_44 : decode cX6_clerk 44 = .ok (.getfield 197, 3) := by decide +kernel
theorem dX6_clerk_47 : decode cX6_clerk 47 = .ok (.iload_n 1, 1) := by decide +kernel
theorem dX6_clerk_48 : decode cX6_clerk 48 = .ok (.iaload, 1) := by decide +kernel
theorem dX6_clerk_49 : decode cX6_clerk 49 = .ok (.ireturn, 1) := by decide +kernel
theorem dX6_clerk_50 : decode cX6_clerk 50 = .ok (.aload_n 0, 1) := by decide +kernel
theorem dX6_clerk_51 : decode cX6_clerk 51 = .ok (.getfield 39, 3) := by decide +kernel
theorem dX6_clerk_54 : decode cX6_clerk 54 = .ok (.getfield 165, 3) := by decide +kernel
theorem dX6_clerk_57 : decode cX6_clerk 57 = .ok (.iload_n 1, 1) := by decide +kernel
theorem dX6_clerk_58 : decode cX6_clerk 58 = .ok (.iaload, 1) := by decide +kernel
theorem dX6_clerk_59 : decode cX6_clerk 59 = .ok (.ireturn, 1) := by decide +kernel
theorem dX6_clerk_60 : decode cX6_clerk 60 = .ok (.ldc 81, 2) := by decide +kernel
theorem dX6_clerk_62 : decode cX6_clerk 62 = .ok (.ireturn, 1) := by decide +kernel
theorem dX6_takes_0 : decode cX6_takes 0 = .ok (.aload_n 0, 1) := by decide +kernel
theorem dX6_takes_1 : decode cX6_takes 1 = .ok (.getfield 32, 3) := by decide +kernel
theorem dX6_takes_4 : decode cX6_takes 4 = .ok (.iload_n 1, 1) := by decide +kernel
theorem dX6_takes_5 : decode cX6_takes 5 = .ok (.invokevirtual 139, 3) := by decide +kernel
theorem dX6_takes_8 : decode cX6_takes 8 = .ok (.ifCond .eq 10, 3) := by decide +kernel
theorem dX6_takes_11 : decode cX6_takes 11 = .ok (.iload_n 2, 1) := by decide +kernel
theorem dX6_takes_12 : decode cX6_takes 12 = .ok (.invokestatic 143, 3) := by decide +kernel
theorem dX6_takes_15 : decode cX6_takes 15 = .ok (.ifCond .ne 6, 3) := by decide +kernel
theorem dX6_takes_18 : decode cX6_takes 18 = .ok (.ldc 81, 2) := by decide +kernel
theorem dX6_takes_20 : decode cX6_takes 20 = .ok (.ireturn, 1) := by decide +kernel
theorem dX6_takes_21 : decode cX6_takes 21 = .ok (.aload_n 0, 1) := by decide +kernel
theorem dX6_takes_22 : decode cX6_takes 22 = .ok (.getfield 32, 3) := by decide +kernel
theorem dX6_takes_25 : decode cX6_takes 25 = .ok (.iload_n 1, 1) := by decide +kernel
theorem dX6_takes_26 : decode cX6_takes 26 = .ok (.iload_n 2, 1) := by decide +kernel
theorem dX6_takes_27 : decode cX6_takes 27 = .ok (.aload_n 0, 1) := by decide +kernel
theorem dX6_takes_28 : decode cX6_takes 28 = .ok (.getfield 39, 3) := by decide +kernel
theorem dX6_takes_31 : decode cX6_takes 31 = .ok (.getfield 149, 3) := by decide +kernel
theorem dX6_takes_34 : decode cX6_takes 34 = .ok (.invokevirtual 152, 3) := by decide +kernel
theorem dX6_takes_37 : decode cX6_takes 37 = .ok (.ireturn, 1) := by decide +kernel
theorem dX6_stand_0 : decode cX6_stand 0 = .ok (.aload_n 0, 1) := by decide +kernel
theorem dX6_stand_1 : decode cX6_stand 1 = .ok (.invokevirtual 180, 3) := by decide +kernel
theorem dX6_stand_4 : decode cX6_stand 4 = .ok (.ifCond .ne 6, 3) := by decide +kernel
theorem dX6_stand_7 : decode cX6_stand 7 = .ok (.ldc 134, 2) := by decide +kernel
theorem dX6_stand_9 : decode cX6_stand 9 = .ok (.ireturn, 1) := by decide +kernel
theorem dX6_stand_10 : decode cX6_stand 10 = .ok (.iload_n 1, 1) := by decide +kernel
theorem dX6_stand_11 : decode cX6_stand 11 = .ok (.tableswitch 77 0 4 #[33, 38, 53, 61, 69], 33) := by decide +kernel
theorem dX6_stand_44 : decode cX6_stand 44 = .ok (.aload_n 0, 1) := by decide +kernel
theorem dX6_stand_45 : decode cX6_stand 45 = .ok (.invokevirtual 187, 3) := by decide +kernel
theorem dX6_stand_48 : decode cX6_stand 48 = .ok (.ireturn, 1) := by decide +kernel
theorem dX6_stand_49 : decode cX6_stand 49 = .ok (.aload_n 0, 1) := by decide +kernel
theorem dX6_stand_50 : decode cX6_stand 50 = .ok (.getfield 39, 3) := by decide +kernel
theorem dX6_stand_53 : decode cX6_stand 53 = .ok (.invokevirtual 200, 3) := by decide +kernel
theorem dX6_stand_56 : decode cX6_stand 56 = .ok (.aload_n 0, 1) := by decide +kernel
theorem dX6_stand_57 : decode cX6_stand 57 = .ok (.invokevirtual 187, 3) := by decide +kernel
theorem dX6_stand_60 : decode cX6_stand 60 = .ok (.iconst (-1), 1) := by decide +kernel
theorem dX6_stand_61 : decode cX6_stand 61 = .ok (.ixor, 1) := by decide +kernel
theorem dX6_stand_62 : decode cX6_stand 62 = .ok (.iand, 1) := by decide +kernel
theorem dX6_stand_63 : decode cX6_stand 63 = .ok (.ireturn, 1) := by decide +kernel
theorem dX6_stand_64 : decode cX6_stand 64 = .ok (.aload_n 0, 1) := by decide +kernel
theorem dX6_stand_65 : decode cX6_stand 65 = .ok (.getfield 39, 3) := by decide +kernel
theorem dX6_stand_68 : decode cX6_stand 68 = .ok (.invokevirtual 203, 3) := by decide +kernel
theorem dX6_stand_71 : decode cX6_stand 71 = .ok (.ireturn, 1) := by decide +kernel
theorem dX6_stand_72 : decode cX6_stand 72 = .ok (.aload_n 0, 1) := by decide +kernel
theorem dX6_stand_73 : decode cX6_stand 73 = .ok (.getfield 39, 3) := by decide +kernel
theorem dX6_stand_76 : decode cX6_stand 76 = .ok (.getfield 168, 3) := by decide +kernel
theorem dX6_stand_79 : decode cX6_stand 79 = .ok (.ireturn, 1) := by decide +kernel
theorem dX6_stand_80 : decode cX6_stand 80 = .ok (.aload_n 0, 1) := by decide +kernel
theorem dX6_stand_81 : decode cX6_stand 81 = .ok (.getfield 39, 3) := by decide +kernel
theorem dX6_stand_84 : decode cX6_stand 84 = .ok (.invokevirtual 206, 3) := by decide +kernel
theorem dX6_stand_87 : decode cX6_stand 87 = .ok (.ireturn, 1) := by decide +kernel
theorem dX6_stand_88 : decode cX6_stand 88 = .ok (.ldc 81, 2) := by decide +kernel
theorem dX6_stand_90 : decode cX6_stand 90 = .ok (.ireturn, 1) := by decide +kernel
theorem dX6_wouldFall_0 : decode cX6_wouldFall 0 = .ok (.aload_n 0, 1) := by decide +kernel
theorem dX6_wouldFall_1 : decode cX6_wouldFall 1 = .ok (.invokevirtual 180, 3) := by decide +kernel
theorem dX6_wouldFall_4 : decode cX6_wouldFall 4 = .ok (.ifCond .ne 6, 3) := by decide +kernel
theorem dX6_wouldFall_7 : decode cX6_wouldFall 7 = .ok (.ldc 134, 2) := by decide +kernel
theorem dX6_wouldFall_9 : decode cX6_wouldFall 9 = .ok (.ireturn, 1) := by decide +kernel
theorem dX6_wouldFall_10 : decode cX6_wouldFall 10 = .ok (.aload_n 0, 1) := by decide +kernel
theorem dX6_wouldFall_11 : decode cX6_wouldFall 11 = .ok (.getfield 32, 3) := by decide +kernel
theorem dX6_wouldFall_14 : decode cX6_wouldFall 14 = .ok (.iload_n 1, 1) := by decide +kernel
theorem dX6_wouldFall_15 : decode cX6_wouldFall 15 = .ok (.invokevirtual 209, 3) := by decide +kernel
theorem dX6_wouldFall_18 : decode cX6_wouldFall 18 = .ok (.ifCond .ne 6, 3) := by decide +kernel
theorem dX6_wouldFall_21 : decode cX6_wouldFall 21 = .ok (.ldc 81, 2) := by decide +kernel
theorem dX6_wouldFall_23 : decode cX6_wouldFall 23 = .ok (.ireturn, 1) := by decide +kernel
theorem dX6_wouldFall_24 : decode cX6_wouldFall 24 = .ok (.aload_n 0, 1) := by decide +kernel
theorem dX6_wouldFall_25 : decode cX6_wouldFall 25 = .ok (.iload_n 1, 1) := by decide +kernel
theorem dX6_wouldFall_26 : decode cX6_wouldFall 26 = .ok (.invokevirtual 212, 3) := by decide +kernel
theorem dX6_wouldFall_29 : decode cX6_wouldFall 29 = .ok (.ireturn, 1) := by decide +kernel
theorem dX6_left_0 : decode cX6_left 0 = .ok (.aload_n 0, 1) := by decide +kernel
theorem dX6_left_1 : decode cX6_left 1 = .ok (.getfield 32, 3) := by decide +kernel
theorem dX6_left_4 : decode cX6_left 4 = .ok (.iload_n 1, 1) := by decide +kernel
theorem dX6_left_5 : decode cX6_left 5 = .ok (.invokevirtual 139, 3) := by decide +kernel
theorem dX6_left_8 : decode cX6_left 8 = .ok (.ifCond .ne 6, 3) := by decide +kernel
theorem dX6_left_11 : decode cX6_left 11 = .ok (.ldc 81, 2) := by decide +kernel
theorem dX6_left_13 : decode cX6_left 13 = .ok (.ireturn, 1) := by decide +kernel
theorem dX6_left_14 : decode cX6_left 14 = .ok (.aload_n 0, 1) := by decide +kernel
theorem dX6_left_15 : decode cX6_left 15 = .ok (.getfield 32, 3) := by decide +kernel
theorem dX6_left_18 : decode cX6_left 18 = .ok (.iload_n 1, 1) := by decide +kernel
theorem dX6_left_19 : decode cX6_left 19 = .ok (.iconst 1, 1) := by decide +kernel
theorem dX6_left_20 : decode cX6_left 20 = .ok (.aload_n 0, 1) := by decide +kernel
theorem dX6_left_21 : decode cX6_left 21 = .ok (.getfield 39, 3) := by decide +kernel
theorem dX6_left_24 : decode cX6_left 24 = .ok (.getfield 149, 3) := by decide +kernel
theorem dX6_left_27 : decode cX6_left 27 = .ok (.invokevirtual 152, 3) := by decide +kernel
theorem dX6_left_30 : decode cX6_left 30 = .ok (.istore_n 2, 1) := by decide +kernel
theorem dX6_left_31 : decode cX6_left 31 = .ok (.iload_n 2, 1) := by decide +kernel
theorem dX6_left_32 : decode cX6_left 32 = .ok (.iconst 1, 1) := by decide +kernel
theorem dX6_left_33 : decode cX6_left 33 = .ok (.if_icmp .ge 5, 3) := by decide +kernel
theorem dX6_left_36 : decode cX6_left 36 = .ok (.iconst 0, 1) := by decide +kernel
theorem dX6_left_37 : decode cX6_left 37 = .ok (.ireturn, 1) := by decide +kernel
theorem dX6_left_38 : decode cX6_left 38 = .ok (.iconst 0, 1) := by decide +kernel
theorem dX6_left_39 : decode cX6_left 39 = .ok (.istore_n 3, 1) := by decide +kernel
theorem dX6_left_40 : decode cX6_left 40 = .ok (.iconst 0, 1) := by decide +kernel
theorem dX6_left_41 : decode cX6_left 41 = .ok (.istore 4, 2) := by decide +kernel
theorem dX6_left_43 : decode cX6_left 43 = .ok (.iload 4, 2) := by decide +kernel
theorem dX6_left_45 : decode cX6_left 45 = .ok (.aload_n 0, 1) := by decide +kernel
theorem dX6_left_46 : decode cX6_left 46 = .ok (.getfield 32, 3) := by decide +kernel
theorem dX6_left_49 : decode cX6_left 49 = .ok (.getfield 131, 3) := by decide +kernel
theorem dX6_left_52 : decode cX6_left 52 = .ok (.if_icmp .ge 24, 3) := by decide +kernel
theorem dX6_left_55 : decode cX6_left 55 = .ok (.iload_n 3, 1) := by decide +kernel
theorem dX6_left_56 : decode cX6_left 56 = .ok (.aload_n 0, 1) := by decide +kernel
theorem dX6_left_57 : decode cX6_left 57 = .ok (.getfield 39, 3) := by decide +kernel
theorem dX6_left_60 : decode cX6_left 60 = .ok (.getfield 156, 3) := by decide +kernel
theorem dX6_left_63 : decode cX6_left 63 = .ok (.iload 4, 2) := by decide +kernel
theorem dX6_left_65 : decode cX6_left 65 = .ok (.iaload, 1) := by decide +kernel
theorem dX6_left_66 : decode cX6_left 66 = .ok (.iload_n 2, 1) := by decide +kernel
theorem dX6_left_67 : decode cX6_left 67 = .ok (.idiv, 1) := by decide +kernel
theorem dX6_left_68 : decode cX6_left 68 = .ok (.iadd, 1) := by decide +kernel
theorem dX6_left_69 : decode cX6_left 69 = .ok (.istore_n 3, 1) := by decide +kernel
theorem dX6_left_70 : decode cX6_left 70 = .ok (.iinc 4 1, 3) := by decide +kernel
theorem dX6_left_73 : decode cX6_left 73 = .ok (.goto (-30), 3) := by decide +kernel
theorem dX6_left_76 : decode cX6_left 76 = .ok (.iload_n 3, 1) := by decide +kernel
theorem dX6_left_77 : decode cX6_left 77 = .ok (.ireturn, 1) := by decide +kernel
theorem dX6_leastFallen_0 : decode cX6_leastFallen 0 = .ok (.aload_n 0, 1) := by decide +kernel
theorem dX6_leastFallen_1 : decode cX6_leastFallen 1 = .ok (.invokevirtual 180, 3) := by decide +kernel
theorem dX6_leastFallen_4 : decode cX6_leastFallen 4 = .ok (.ifCond .ne 6, 3) := by decide +kernel
theorem dX6_leastFallen_7 : decode cX6_leastFallen 7 = .ok (.ldc 134, 2) := by decide +kernel
theorem dX6_leastFallen_9 : decode cX6_leastFallen 9 = .ok (.ireturn, 1) := by decide +kernel
theorem dX6_leastFallen_10 : decode cX6_leastFallen 10 = .ok (.iload_n 1, 1) := by decide +kernel
theorem dX6_leastFallen_11 : decode cX6_leastFallen 11 = .ok (.ifCond .lt 29, 3) := by decide +kernel
theorem dX6_leastFallen_14 : decode cX6_leastFallen 14 = .ok (.iload_n 1, 1) := by decide +kernel
theorem dX6_leastFallen_15 : decode cX6_leastFallen 15 = .ok (.sipush 240, 3) := by decide +kernel
theorem dX6_leastFallen_18 : decode cX6_leastFallen 18 = .ok (.if_icmp .gt 22, 3) := by decide +kernel
theorem dX6_leastFallen_21 : decode cX6_leastFallen 21 = .ok (.aload_n 0, 1) := by decide +kernel
theorem dX6_leastFallen_22 : decode cX6_leastFallen 22 = .ok (.getfield 32, 3) := by decide +kernel
theorem dX6_leastFallen_25 : decode cX6_leastFallen 25 = .ok (.iload_n 2, 1) := by decide +kernel
theorem dX6_leastFallen_26 : decode cX6_leastFallen 26 = .ok (.invokevirtual 209, 3) := by decide +kernel
theorem dX6_leastFallen_29 : decode cX6_leastFallen 29 = .ok (.ifCond .eq 11, 3) := by decide +kernel
theorem dX6_leastFallen_32 : decode cX6_leastFallen 32 = .ok (.iload_n 3, 1) := by decide +kernel
theorem dX6_leastFallen_33 : decode cX6_leastFallen 33 = .ok (.iconst 2, 1) := by decide +kernel
theorem dX6_leastFallen_34 : decode cX6_leastFallen 34 = .ok (.invokestatic 77, 3) := by decide +kernel
theorem dX6_leastFallen_37 : decode cX6_leastFallen 37 = .ok (.ifCond .ne 6, 3) := by decide +kernel
theorem dX6_leastFallen_40 : decode cX6_leastFallen 40 = .ok (.ldc 81, 2) := by decide +kernel
theorem dX6_leastFallen_42 : decode cX6_leastFallen 42 = .ok (.ireturn, 1) := by decide +kernel
theorem dX6_leastFallen_43 : decode cX6_leastFallen 43 = .ok (.aload_n 0, 1) := by decide +kernel
theorem dX6_leastFallen_44 : decode cX6_leastFallen 44 = .ok (.getfield 39, 3) := by decide +kernel
theorem dX6_leastFallen_47 : decode cX6_leastFallen 47 = .ok (.invokevirtual 200, 3) := by decide +kernel
theorem dX6_leastFallen_50 : decode cX6_leastFallen 50 = .ok (.istore 4, 2) := by decide +kernel
theorem dX6_leastFallen_52 : decode cX6_leastFallen 52 = .ok (.aload_n 0, 1) := by decide +kernel
theorem dX6_leastFallen_53 : decode cX6_leastFallen 53 = .ok (.getfield 32, 3) := by decide +kernel
theorem dX6_leastFallen_56 : decode cX6_leastFallen 56 = .ok (.iload 4, 2) := by decide +kernel
theorem dX6_leastFallen_58 : decode cX6_leastFallen 58 = .ok (.invokevirtual 215, 3) := by decide +kernel
theorem dX6_leastFallen_61 : decode cX6_leastFallen 61 = .ok (.istore 5, 2) := by decide +kernel
theorem dX6_leastFallen_63 : decode cX6_leastFallen 63 = .ok (.aload_n 0, 1) := by decide +kernel
theorem dX6_leastFallen_64 : decode cX6_leastFallen 64 = .ok (.getfield 39, 3) := by decide +kernel
theorem dX6_leastFallen_67 : decode cX6_leastFallen 67 = .ok (.invokevirtual 203, 3) := by decide +kernel
theorem dX6_leastFallen_70 : decode cX6_leastFallen 70 = .ok (.istore 6, 2) := by decide +kernel
theorem dX6_leastFallen_72 : decode cX6_leastFallen 72 = .ok (.bipush 9, 2) := by decide +kernel
theorem dX6_leastFallen_74 : decode cX6_leastFallen 74 = .ok (.istore 7, 2) := by decide +kernel
theorem dX6_leastFallen_76 : decode cX6_leastFallen 76 = .ok (.ldc 218, 2) := by decide +kernel
theorem dX6_leastFallen_78 : decode cX6_leastFallen 78 = .ok (.istore 8, 2) := by decide +kernel
theorem dX6_leastFallen_80 : decode cX6_leastFallen 80 = .ok (.iconst 0, 1) := by decide +kernel
theorem dX6_leastFallen_81 : decode cX6_leastFallen 81 = .ok (.istore 9, 2) := by decide +kernel
theorem dX6_leastFallen_83 : decode cX6_leastFallen 83 = .ok (.iload 9, 2) := by decide +kernel
theorem dX6_leastFallen_85 : decode cX6_leastFallen 85 = .ok (.iload 5, 2) := by decide +kernel
theorem dX6_leastFallen_87 : decode cX6_leastFallen 87 = .ok (.if_icmp .gt 93, 3) := by decide +kernel
theorem dX6_leastFallen_90 : decode cX6_leastFallen 90 = .ok (.iload 9, 2) := by decide +kernel
theorem dX6_leastFallen_92 : decode cX6_leastFallen 92 = .ok (.iload 5, 2) := by decide +kernel
theorem dX6_leastFallen_94 : decode cX6_leastFallen 94 = .ok (.iconst (-1), 1) := by decide +kernel
theorem dX6_leastFallen_95 : decode cX6_leastFallen 95 = .ok (.ixor, 1) := by decide +kernel
theorem dX6_leastFallen_96 : decode cX6_leastFallen 96 = .ok (.iand, 1) := by decide +kernel
theorem dX6_leastFallen_97 : decode cX6_leastFallen 97 = .ok (.ifCond .eq 6, 3) := by decide +kernel
theorem dX6_leastFallen_100 : decode cX6_leastFallen 100 = .ok (.goto 74, 3) := by decide +kernel
theorem dX6_leastFallen_103 : decode cX6_leastFallen 103 = .ok (.iload 5, 2) := by decide +kernel
theorem dX6_leastFallen_105 : decode cX6_leastFallen 105 = .ok (.aload_n 0, 1) := by decide +kernel
theorem dX6_leastFallen_106 : decode cX6_leastFallen 106 = .ok (.getfield 32, 3) := by decide +kernel
theorem dX6_leastFallen_109 : decode cX6_leastFallen 109 = .ok (.iload 4, 2) := by decide +kernel
theorem dX6_leastFallen_111 : decode cX6_leastFallen 111 = .ok (.iload 9, 2) := by decide +kernel
theorem dX6_leastFallen_113 : decode cX6_leastFallen 113 = .ok (.iconst (-1), 1) := by decide +kernel
theorem dX6_leastFallen_114 : decode cX6_leastFallen 114 = .ok (.ixor, 1) := by decide +kernel
theorem dX6_leastFallen_115 : decode cX6_leastFallen 115 = .ok (.iand, 1) := by decide +kernel
theorem dX6_leastFallen_116 : decode cX6_leastFallen 116 = .ok (.invokevirtual 215, 3) := by decide +kernel
theorem dX6_leastFallen_119 : decode cX6_leastFallen 119 = .ok (.iconst (-1), 1) := by decide +kernel
theorem dX6_leastFallen_120 : decode cX6_leastFallen 120 = .ok (.ixor, 1) := by decide +kernel
theorem dX6_leastFallen_121 : decode cX6_leastFallen 121 = .ok (.iand, 1) := by decide +kernel
theorem dX6_leastFallen_122 : decode cX6_leastFallen 122 = .ok (.istore 10, 2) := by decide +kernel
theorem dX6_leastFallen_124 : decode cX6_leastFallen 124 = .ok (.iload 10, 2) := by decide +kernel
theorem dX6_leastFallen_126 : decode cX6_leastFallen 126 = .ok (.invokestatic 219, 3) := by decide +kernel
theorem dX6_leastFallen_129 : decode cX6_leastFallen 129 = .ok (.istore 11, 2) := by decide +kernel
theorem dX6_leastFallen_131 : decode cX6_leastFallen 131 = .ok (.iload 6, 2) := by decide +kernel
theorem dX6_leastFallen_133 : decode cX6_leastFallen 133 = .ok (.iload 5, 2) := by decide +kernel
theorem dX6_leastFallen_135 : decode cX6_leastFallen 135 = .ok (.iload 10, 2) := by decide +kernel
theorem dX6_leastFallen_137 : decode cX6_leastFallen 137 = .ok (.iconst (-1), 1) := by decide +kernel
theorem dX6_leastFallen_138 : decode cX6_leastFallen 138 = .ok (.ixor, 1) := by decide +kernel
theorem dX6_leastFallen_139 : decode cX6_leastFallen 139 = .ok (.iand, 1) := by decide +kernel
theorem dX6_leastFallen_140 : decode cX6_leastFallen 140 = .ok (.invokestatic 219, 3) := by decide +kernel
theorem dX6_leastFallen_143 : decode cX6_leastFallen 143 = .ok (.isub, 1) := by decide +kernel
theorem dX6_leastFallen_144 : decode cX6_leastFallen 144 = .ok (.istore 12, 2) := by decide +kernel
theorem dX6_leastFallen_146 : decode cX6_leastFallen 146 = .ok (.iload 10, 2) := by decide +kernel
theorem dX6_leastFallen_148 : decode cX6_leastFallen 148 = .ok (.iload_n 2, 1) := by decide +kernel
theorem dX6_leastFallen_149 : decode cX6_leastFallen 149 = .ok (.iand, 1) := by decide +kernel
theorem dX6_leastFallen_150 : decode cX6_leastFallen 150 = .ok (.ifCond .ne 24, 3) := by decide +kernel
theorem dX6_leastFallen_153 : decode cX6_leastFallen 153 = .ok (.iload 12, 2) := by decide +kernel
theorem dX6_leastFallen_155 : decode cX6_leastFallen 155 = .ok (.iload_n 1, 1) := by decide +kernel
theorem dX6_leastFallen_156 : decode cX6_leastFallen 156 = .ok (.if_icmp .lt 18, 3) := by decide +kernel
theorem dX6_leastFallen_159 : decode cX6_leastFallen 159 = .ok (.iload 11, 2) := by decide +kernel
theorem dX6_leastFallen_161 : decode cX6_leastFallen 161 = .ok (.iload 7, 2) := by decide +kernel
theorem dX6_leastFallen_163 : decode cX6_leastFallen 163 = .ok (.if_icmp .ge 11, 3) := by decide +kernel
theorem dX6_leastFallen_166 : decode cX6_leastFallen 166 = .ok (.iload 11, 2) := by decide +kernel
theorem dX6_leastFallen_168 : decode cX6_leastFallen 168 = .ok (.istore 7, 2) := by decide +kernel
theorem dX6_leastFallen_170 : decode cX6_leastFallen 170 = .ok (.iload 9, 2) := by decide +kernel
theorem dX6_leastFallen_172 : decode cX6_leastFallen 172 = .ok (.istore 8, 2) := by decide +kernel
theorem dX6_leastFallen_174 : decode cX6_leastFallen 174 = .ok (.iinc 9 1, 3) := by decide +kernel
theorem dX6_leastFallen_177 : decode cX6_leastFallen 177 = .ok (.goto (-94), 3) := by decide +kernel
theorem dX6_leastFallen_180 : decode cX6_leastFallen 180 = .ok (.iload_n 3, 1) := by decide +kernel
theorem dX6_leastFallen_181 : decode cX6_leastFallen 181 = .ok (.iconst 1, 1) := by decide +kernel
theorem dX6_leastFallen_182 : decode cX6_leastFallen 182 = .ok (.if_icmp .eq 10, 3) := by decide +kernel
theorem dX6_leastFallen_185 : decode cX6_leastFallen 185 = .ok (.iload 8, 2) := by decide +kernel
theorem dX6_leastFallen_187 : decode cX6_leastFallen 187 = .ok (.ldc 218, 2) := by decide +kernel
theorem dX6_leastFallen_189 : decode cX6_leastFallen 189 = .ok (.if_icmp .ne 8, 3) := by decide +kernel
theorem dX6_leastFallen_192 : decode cX6_leastFallen 192 = .ok (.iload 8, 2) := by decide +kernel
theorem dX6_leastFallen_194 : decode cX6_leastFallen 194 = .ok (.goto 5, 3) := by decide +kernel
theorem dX6_leastFallen_197 : decode cX6_leastFallen 197 = .ok (.iload 7, 2) := by decide +kernel
theorem dX6_leastFallen_199 : decode cX6_leastFallen 199 = .ok (.ireturn, 1) := by decide +kernel
theorem dX6_must_0 : decode cX6_must 0 = .ok (.aload_n 0, 1) := by decide +kernel
theorem dX6_must_1 : decode cX6_must 1 = .ok (.invokevirtual 180, 3) := by decide +kernel
theorem dX6_must_4 : decode cX6_must 4 = .ok (.ifCond .ne 6, 3) := by decide +kernel
theorem dX6_must_7 : decode cX6_must 7 = .ok (.ldc 134, 2) := by decide +kernel
theorem dX6_must_9 : decode cX6_must 9 = .ok (.ireturn, 1) := by decide +kernel
theorem dX6_must_10 : decode cX6_must 10 = .ok (.aload_n 0, 1) := by decide +kernel
theorem dX6_must_11 : decode cX6_must 11 = .ok (.invokevirtual 187, 3) := by decide +kernel
theorem dX6_must_14 : decode cX6_must 14 = .ok (.istore_n 1, 1) := by decide +kernel
theorem dX6_must_15 : decode cX6_must 15 = .ok (.iload_n 1, 1) := by decide +kernel
theorem dX6_must_16 : decode cX6_must 16 = .ok (.invokestatic 219, 3) := by decide +kernel
theorem dX6_must_19 : decode cX6_must 19 = .ok (.istore_n 2, 1) := by decide +kernel
theorem dX6_must_20 : decode cX6_must 20 = .ok (.iconst 0, 1) := by decide +kernel
theorem dX6_must_21 : decode cX6_must 21 = .ok (.istore_n 3, 1) := by decide +kernel
theorem dX6_must_22 : decode cX6_must 22 = .ok (.iconst 0, 1) := by decide +kernel
theorem dX6_must_23 : decode cX6_must 23 = .ok (.istore 4, 2) := by decide +kernel
theorem dX6_must_25 : decode cX6_must 25 = .ok (.iload 4, 2) := by decide +kernel
theorem dX6_must_27 : decode cX6_must 27 = .ok (.aload_n 0, 1) := by decide +kernel
theorem dX6_must_28 : decode cX6_must 28 = .ok (.getfield 32, 3) := by decide +kernel
theorem dX6_must_31 : decode cX6_must 31 = .ok (.getfield 131, 3) := by decide +kernel
theorem dX6_must_34 : decode cX6_must 34 = .ok (.if_icmp .ge 33, 3) := by decide +kernel
theorem dX6_must_37 : decode cX6_must 37 = .ok (.iconst 2, 1) := by decide +kernel
theorem dX6_must_38 : decode cX6_must 38 = .ok (.aload_n 0, 1) := by decide +kernel
theorem dX6_must_39 : decode cX6_must 39 = .ok (.iconst 1, 1) := by decide +kernel
theorem dX6_must_40 : decode cX6_must 40 = .ok (.iload 4, 2) := by decide +kernel
theorem dX6_must_42 : decode cX6_must 42 = .ok (.ishl, 1) := by decide +kernel
theorem dX6_must_43 : decode cX6_must 43 = .ok (.invokevirtual 212, 3) := by decide +kernel
theorem dX6_must_46 : decode cX6_must 46 = .ok (.invokestatic 219, 3) := by decide +kernel
theorem dX6_must_49 : decode cX6_must 49 = .ok (.imul, 1) := by decide +kernel
theorem dX6_must_50 : decode cX6_must 50 = .ok (.iload_n 2, 1) := by decide +kernel
theorem dX6_must_51 : decode cX6_must 51 = .ok (.if_icmp .le 10, 3) := by decide +kernel
theorem dX6_must_54 : decode cX6_must 54 = .ok (.iload_n 3, 1) := by decide +kernel
theorem dX6_must_55 : decode cX6_must 55 = .ok (.iconst 1, 1) := by decide +kernel
theorem dX6_must_56 : decode cX6_must 56 = .ok (.iload 4, 2) := by decide +kernel
theorem dX6_must_58 : decode cX6_must 58 = .ok (.ishl, 1) := by decide +kernel
theorem dX6_must_59 : decode cX6_must 59 = .ok (.ior, 1) := by decide +kernel
theorem dX6_must_60 : decode cX6_must 60 = .ok (.istore_n 3, 1) := by decide +kernel
theorem dX6_must_61 : decode cX6_must 61 = .ok (.iinc 4 1, 3) := by decide +kernel
theorem dX6_must_64 : decode cX6_must 64 = .ok (.goto (-39), 3) := by decide +kernel
theorem dX6_must_67 : decode cX6_must 67 = .ok (.iload_n 3, 1) := by decide +kernel
theorem dX6_must_68 : decode cX6_must 68 = .ok (.iload_n 1, 1) := by decide +kernel
theorem dX6_must_69 : decode cX6_must 69 = .ok (.iand, 1) := by decide +kernel
theorem dX6_must_70 : decode cX6_must 70 = .ok (.ireturn, 1) := by decide +kernel
theorem dX6_writings_0 : decode cX6_writings 0 = .ok (.aload_n 0, 1) := by decide +kernel
theorem dX6_writings_1 : decode cX6_writings 1 = .ok (.invokevirtual 180, 3) := by decide +kernel
theorem dX6_writings_4 : decode cX6_writings 4 = .ok (.ifCond .ne 6, 3) := by decide +kernel
theorem dX6_writings_7 : decode cX6_writings 7 = .ok (.ldc 134, 2) := by decide +kernel
theorem dX6_writings_9 : decode cX6_writings 9 = .ok (.ireturn, 1) := by decide +kernel
theorem dX6_writings_10 : decode cX6_writings 10 = .ok (.iload_n 1, 1) := by decide +kernel
theorem dX6_writings_11 : decode cX6_writings 11 = .ok (.bipush 8, 2) := by decide +kernel
theorem dX6_writings_13 : decode cX6_writings 13 = .ok (.invokestatic 77, 3) := by decide +kernel
theorem dX6_writings_16 : decode cX6_writings 16 = .ok (.ifCond .eq 19, 3) := by decide +kernel
theorem dX6_writings_19 : decode cX6_writings 19 = .ok (.iload_n 3, 1) := by decide +kernel
theorem dX6_writings_20 : decode cX6_writings 20 = .ok (.iconst 1, 1) := by decide +kernel
theorem dX6_writings_21 : decode cX6_writings 21 = .ok (.if_icmp .lt 14, 3) := by decide +kernel
theorem dX6_writings_24 : decode cX6_writings 24 = .ok (.iload_n 3, 1) := by decide +kernel
theorem dX6_writings_25 : decode cX6_writings 25 = .ok (.iconst 4, 1) := by decide +kernel
theorem dX6_writings_26 : decode cX6_writings 26 = .ok (.if_icmp .gt 9, 3) := by decide +kernel
theorem dX6_writings_29 : decode cX6_writings 29 = .ok (.iload 4, 2) := by decide +kernel
theorem dX6_writings_31 : decode cX6_writings 31 = .ok (.iconst (-1), 1) := by decide +kernel
theorem dX6_writings_32 : decode cX6_writings 32 = .ok (.if_icmp .ge 6, 3) := by decide +kernel
theorem dX6_writings_35 : decode cX6_writings 35 = .ok (.ldc 81, 2) := by decide +kernel
theorem dX6_writings_37 : decode cX6_writings 37 = .ok (.ireturn, 1) := by decide +kernel
theorem dX6_writings_38 : decode cX6_writings 38 = .ok (.aload_n 0, 1) := by decide +kernel
theorem dX6_writings_39 : decode cX6_writings 39 = .ok (.getfield 11, 3) := by decide +kernel
theorem dX6_writings_42 : decode cX6_writings 42 = .ok (.iload_n 1, 1) := by decide +kernel
theorem dX6_writings_43 : decode cX6_writings 43 = .ok (.aaload, 1) := by decide +kernel
theorem dX6_writings_44 : decode cX6_writings 44 = .ok (.astore 5, 2) := by decide +kernel
theorem dX6_writings_46 : decode cX6_writings 46 = .ok (.aload 5, 2) := by decide +kernel
theorem dX6_writings_48 : decode cX6_writings 48 = .ok (.ifnonnull 9, 3) := by decide +kernel
theorem dX6_writings_51 : decode cX6_writings 51 = .ok (.aload_n 0, 1) := by decide +kernel
theorem dX6_writings_52 : decode cX6_writings 52 = .ok (.iconst 1, 1) := by decide +kernel
theorem dX6_writings_53 : decode cX6_writings 53 = .ok (.invokevirtual 82, 3) := by decide +kernel
theorem dX6_writings_56 : decode cX6_writings 56 = .ok (.ireturn, 1) := by decide +kernel
theorem dX6_writings_57 : decode cX6_writings 57 = .ok (.aload 5, 2) := by decide +kernel
theorem dX6_writings_59 : decode cX6_writings 59 = .ok (.iload_n 2, 1) := by decide +kernel
theorem dX6_writings_60 : decode cX6_writings 60 = .ok (.iconst 2, 1) := by decide +kernel
theorem dX6_writings_61 : decode cX6_writings 61 = .ok (.iload_n 3, 1) := by decide +kernel
theorem dX6_writings_62 : decode cX6_writings 62 = .ok (.imul, 1) := by decide +kernel
theorem dX6_writings_63 : decode cX6_writings 63 = .ok (.invokevirtual 92, 3) := by decide +kernel
theorem dX6_writings_66 : decode cX6_writings 66 = .ok (.ifCond .ne 9, 3) := by decide +kernel
theorem dX6_writings_69 : decode cX6_writings 69 = .ok (.aload_n 0, 1) := by decide +kernel
theorem dX6_writings_70 : decode cX6_writings 70 = .ok (.iconst 2, 1) := by decide +kernel
theorem dX6_writings_71 : decode cX6_writings 71 = .ok (.invokevirtual 82, 3) := by decide +kernel
theorem dX6_writings_74 : decode cX6_writings 74 = .ok (.ireturn, 1) := by decide +kernel
theorem dX6_writings_75 : decode cX6_writings 75 = .ok (.aload_n 0, 1) := by decide +kernel
theorem dX6_writings_76 : decode cX6_writings 76 = .ok (.aload 5, 2) := by decide +kernel
theorem dX6_writings_78 : decode cX6_writings 78 = .ok (.getfield 95, 3) := by decide +kernel
theorem dX6_writings_81 : decode cX6_writings 81 = .ok (.iload_n 2, 1) := by decide +kernel
theorem dX6_writings_82 : decode cX6_writings 82 = .ok (.iload_n 3, 1) := by decide +kernel
theorem dX6_writings_83 : decode cX6_writings 83 = .ok (.invokevirtual 224, 3) := by decide +kernel
theorem dX6_writings_86 : decode cX6_writings 86 = .ok (.ifCond .ne 6, 3) := by decide +kernel
theorem dX6_writings_89 : decode cX6_writings 89 = .ok (.ldc 81, 2) := by decide +kernel
theorem dX6_writings_91 : decode cX6_writings 91 = .ok (.ireturn, 1) := by decide +kernel
theorem dX6_writings_92 : decode cX6_writings 92 = .ok (.aload_n 0, 1) := by decide +kernel
theorem dX6_writings_93 : decode cX6_writings 93 = .ok (.getfield 66, 3) := by decide +kernel
theorem dX6_writings_96 : decode cX6_writings 96 = .ok (.aload_n 0, 1) := by decide +kernel
theorem dX6_writings_97 : decode cX6_writings 97 = .ok (.getfield 32, 3) := by decide +kernel
theorem dX6_writings_100 : decode cX6_writings 100 = .ok (.aload_n 0, 1) := by decide +kernel
theorem dX6_writings_101 : decode cX6_writings 101 = .ok (.getfield 39, 3) := by decide +kernel
theorem dX6_writings_104 : decode cX6_writings 104 = .ok (.iload_n 3, 1) := by decide +kernel
theorem dX6_writings_105 : decode cX6_writings 105 = .ok (.invokevirtual 228, 3) := by decide +kernel
theorem dX6_writings_108 : decode cX6_writings 108 = .ok (.iconst 0, 1) := by decide +kernel
theorem dX6_writings_109 : decode cX6_writings 109 = .ok (.istore 6, 2) := by decide +kernel
theorem dX6_writings_111 : decode cX6_writings 111 = .ok (.iload 6, 2) := by decide +kernel
theorem dX6_writings_113 : decode cX6_writings 113 = .ok (.iload_n 3, 1) := by decide +kernel
theorem dX6_writings_114 : decode cX6_writings 114 = .ok (.if_icmp .ge 59, 3) := by decide +kernel
theorem dX6_writings_117 : decode cX6_writings 117 = .ok (.aload_n 0, 1) := by decide +kernel
theorem dX6_writings_118 : decode cX6_writings 118 = .ok (.getfield 66, 3) := by decide +kernel
theorem dX6_writings_121 : decode cX6_writings 121 = .ok (.getfield 231, 3) := by decide +kernel
theorem dX6_writings_124 : decode cX6_writings 124 = .ok (.iload 6, 2) := by decide +kernel
theorem dX6_writings_126 : decode cX6_writings 126 = .ok (.aload_n 0, 1) := by decide +kernel
theorem dX6_writings_127 : decode cX6_writings 127 = .ok (.getfield 32, 3) := by decide +kernel
theorem dX6_writings_130 : decode cX6_writings 130 = .ok (.aload 5, 2) := by decide +kernel
theorem dX6_writings_132 : decode cX6_writings 132 = .ok (.getfield 95, 3) := by decide +kernel
theorem dX6_writings_135 : decode cX6_writings 135 = .ok (.iload_n 2, 1) := by decide +kernel
theorem dX6_writings_136 : decode cX6_writings 136 = .ok (.iconst 2, 1) := by decide +kernel
theorem dX6_writings_137 : decode cX6_writings 137 = .ok (.iload 6, 2) := by decide +kernel
theorem dX6_writings_139 : decode cX6_writings 139 = .ok (.imul, 1) := by decide +kernel
theorem dX6_writings_140 : decode cX6_writings 140 = .ok (.iadd, 1) := by decide +kernel
theorem dX6_writings_141 : decode cX6_writings 141 = .ok (.iaload, 1) := by decide +kernel
theorem dX6_writings_142 : decode cX6_writings 142 = .ok (.aload 5, 2) := by decide +kernel
theorem dX6_writings_144 : decode cX6_writings 144 = .ok (.getfield 95, 3) := by decide +kernel
theorem dX6_writings_147 : decode cX6_writings 147 = .ok (.iload_n 2, 1) := by decide +kernel
theorem dX6_writings_148 : decode cX6_writings 148 = .ok (.iconst 2, 1) := by decide +kernel
theorem dX6_writings_149 : decode cX6_writings 149 = .ok (.iload 6, 2) := by decide +kernel
theorem dX6_writings_151 : decode cX6_writings 151 = .ok (.imul, 1) := by decide +kernel
theorem dX6_writings_152 : decode cX6_writings 152 = .ok (.iadd, 1) := by decide +kernel
theorem dX6_writings_153 : decode cX6_writings 153 = .ok (.iconst 1, 1) := by decide +kernel
theorem dX6_writings_154 : decode cX6_writings 154 = .ok (.iadd, 1) := by decide +kernel
theorem dX6_writings_155 : decode cX6_writings 155 = .ok (.iaload, 1) := by decide +kernel
theorem dX6_writings_156 : decode cX6_writings 156 = .ok (.aload_n 0, 1) := by decide +kernel
theorem dX6_writings_157 : decode cX6_writings 157 = .ok (.getfield 39, 3) := by decide +kernel
theorem dX6_writings_160 : decode cX6_writings 160 = .ok (.getfield 149, 3) := by decide +kernel
theorem dX6_writings_163 : decode cX6_writings 163 = .ok (.invokevirtual 152, 3) := by decide +kernel
theorem dX6_writings_166 : decode cX6_writings 166 = .ok (.iastore, 1) := by decide +kernel
theorem dX6_writings_167 : decode cX6_writings 167 = .ok (.iinc 6 1, 3) := by decide +kernel
theorem dX6_writings_170 : decode cX6_writings 170 = .ok (.goto (-59), 3) := by decide +kernel
theorem dX6_writings_173 : decode cX6_writings 173 = .ok (.aload_n 0, 1) := by decide +kernel
theorem dX6_writings_174 : decode cX6_writings 174 = .ok (.getfield 66, 3) := by decide +kernel
theorem dX6_writings_177 : decode cX6_writings 177 = .ok (.iconst 0, 1) := by decide +kernel
theorem dX6_writings_178 : decode cX6_writings 178 = .ok (.invokestatic 234, 3) := by decide +kernel
theorem dX6_writings_181 : decode cX6_writings 181 = .ok (.aload_n 0, 1) := by decide +kernel
theorem dX6_writings_182 : decode cX6_writings 182 = .ok (.getfield 66, 3) := by decide +kernel
theorem dX6_writings_185 : decode cX6_writings 185 = .ok (.getfield 238, 3) := by decide +kernel
theorem dX6_writings_188 : decode cX6_writings 188 = .ok (.ifCond .lt 9, 3) := by decide +kernel
theorem dX6_writings_191 : decode cX6_writings 191 = .ok (.iload 4, 2) := by decide +kernel
theorem dX6_writings_193 : decode cX6_writings 193 = .ok (.iload_n 3, 1) := by decide +kernel
theorem dX6_writings_194 : decode cX6_writings 194 = .ok (.if_icmp .lt 10, 3) := by decide +kernel
theorem dX6_writings_197 : decode cX6_writings 197 = .ok (.aload_n 0, 1) := by decide +kernel
theorem dX6_writings_198 : decode cX6_writings 198 = .ok (.ldc 218, 2) := by decide +kernel
theorem dX6_writings_200 : decode cX6_writings 200 = .ok (.invokevirtual 89, 3) := by decide +kernel
theorem dX6_writings_203 : decode cX6_writings 203 = .ok (.ireturn, 1) := by decide +kernel
theorem dX6_writings_204 : decode cX6_writings 204 = .ok (.aload_n 0, 1) := by decide +kernel
theorem dX6_writings_205 : decode cX6_writings 205 = .ok (.iload 4, 2) := by decide +kernel
theorem dX6_writings_207 : decode cX6_writings 207 = .ok (.ifCond .ge 13, 3) := by decide +kernel
theorem dX6_writings_210 : decode cX6_writings 210 = .ok (.aload_n 0, 1) := by decide +kernel
theorem dX6_writings_211 : decode cX6_writings 211 = .ok (.getfield 66, 3) := by decide +kernel
theorem dX6_writings_214 : decode cX6_writings 214 = .ok (.getfield 238, 3) := by decide +kernel
theorem dX6_writings_217 : decode cX6_writings 217 = .ok (.goto 13, 3) := by decide +kernel
theorem dX6_writings_220 : decode cX6_writings 220 = .ok (.aload_n 0, 1) := by decide +kernel
theorem dX6_writings_221 : decode cX6_writings 221 = .ok (.getfield 66, 3) := by decide +kernel
theorem dX6_writings_224 : decode cX6_writings 224 = .ok (.getfield 241, 3) := by decide +kernel
theorem dX6_writings_227 : decode cX6_writings 227 = .ok (.iload 4, 2) := by decide +kernel
theorem dX6_writings_229 : decode cX6_writings 229 = .ok (.iaload, 1) := by decide +kernel
theorem dX6_writings_230 : decode cX6_writings 230 = .ok (.invokevirtual 89, 3) := by decide +kernel
theorem dX6_writings_233 : decode cX6_writings 233 = .ok (.ireturn, 1) := by decide +kernel
theorem dX6_from_0 : decode cX6_from 0 = .ok (.aload_n 0, 1) := by decide +kernel
theorem dX6_from_1 : decode cX6_from 1 = .ok (.invokevirtual 180, 3) := by decide +kernel
theorem dX6_from_4 : decode cX6_from 4 = .ok (.ifCond .ne 6, 3) := by decide +kernel
theorem dX6_from_7 : decode cX6_from 7 = .ok (.ldc 134, 2) := by decide +kernel
theorem dX6_from_9 : decode cX6_from 9 = .ok (.ireturn, 1) := by decide +kernel
theorem dX6_from_10 : decode cX6_from 10 = .ok (.iload_n 1, 1) := by decide +kernel
theorem dX6_from_11 : decode cX6_from 11 = .ok (.bipush 8, 2) := by decide +kernel
theorem dX6_from_13 : decode cX6_from 13 = .ok (.invokestatic 77, 3) := by decide +kernel
theorem dX6_from_16 : decode cX6_from 16 = .ok (.ifCond .eq 11, 3) := by decide +kernel
theorem dX6_from_19 : decode cX6_from 19 = .ok (.iload_n 3, 1) := by decide +kernel
theorem dX6_from_20 : decode cX6_from 20 = .ok (.iconst 2, 1) := by decide +kernel
theorem dX6_from_21 : decode cX6_from 21 = .ok (.invokestatic 77, 3) := by decide +kernel
theorem dX6_from_24 : decode cX6_from 24 = .ok (.ifCond .ne 6, 3) := by decide +kernel
theorem dX6_from_27 : decode cX6_from 27 = .ok (.ldc 81, 2) := by decide +kernel
theorem dX6_from_29 : decode cX6_from 29 = .ok (.ireturn, 1) := by decide +kernel
theorem dX6_from_30 : decode cX6_from 30 = .ok (.aload_n 0, 1) := by decide +kernel
theorem dX6_from_31 : decode cX6_from 31 = .ok (.getfield 11, 3) := by decide +kernel
theorem dX6_from_34 : decode cX6_from 34 = .ok (.iload_n 1, 1) := by decide +kernel
theorem dX6_from_35 : decode cX6_from 35 = .ok (.aaload, 1) := by decide +kernel
theorem dX6_from_36 : decode cX6_from 36 = .ok (.astore 4, 2) := by decide +kernel
theorem dX6_from_38 : decode cX6_from 38 = .ok (.aload 4, 2) := by decide +kernel
theorem dX6_from_40 : decode cX6_from 40 = .ok (.ifnonnull 9, 3) := by decide +kernel
theorem dX6_from_43 : decode cX6_from 43 = .ok (.aload_n 0, 1) := by decide +kernel
theorem dX6_from_44 : decode cX6_from 44 = .ok (.iconst 1, 1) := by decide +kernel
theorem dX6_from_45 : decode cX6_from 45 = .ok (.invokevirtual 82, 3) := by decide +kernel
theorem dX6_from_48 : decode cX6_from 48 = .ok (.ireturn, 1) := by decide +kernel
theorem dX6_from_49 : decode cX6_from 49 = .ok (.aload 4, 2) := by decide +kernel
theorem dX6_from_51 : decode cX6_from 51 = .ok (.iload_n 2, 1) := by decide +kernel
theorem dX6_from_52 : decode cX6_from 52 = .ok (.aload_n 0, 1) := by decide +kernel
theorem dX6_from_53 : decode cX6_from 53 = .ok (.getfield 32, 3) := by decide +kernel
theorem dX6_from_56 : decode cX6_from 56 = .ok (.getfield 131, 3) := by decide +kernel
theorem dX6_from_59 : decode cX6_from 59 = .ok (.invokevirtual 92, 3) := by decide +kernel
theorem dX6_from_62 : decode cX6_from 62 = .ok (.ifCond .ne 9, 3) := by decide +kernel
theorem dX6_from_65 : decode cX6_from 65 = .ok (.aload_n 0, 1) := by decide +kernel
theorem dX6_from_66 : decode cX6_from 66 = .ok (.iconst 2, 1) := by decide +kernel
theorem dX6_from_67 : decode cX6_from 67 = .ok (.invokevirtual 82, 3) := by decide +kernel
theorem dX6_from_70 : decode cX6_from 70 = .ok (.ireturn, 1) := by decide +kernel
theorem dX6_from_71 : decode cX6_from 71 = .ok (.aload_n 0, 1) := by decide +kernel
theorem dX6_from_72 : decode cX6_from 72 = .ok (.aload 4, 2) := by decide +kernel
theorem dX6_from_74 : decode cX6_from 74 = .ok (.getfield 95, 3) := by decide +kernel
theorem dX6_from_77 : decode cX6_from 77 = .ok (.iload_n 2, 1) := by decide +kernel
theorem dX6_from_78 : decode cX6_from 78 = .ok (.invokevirtual 244, 3) := by decide +kernel
theorem dX6_from_81 : decode cX6_from 81 = .ok (.istore 5, 2) := by decide +kernel
theorem dX6_from_83 : decode cX6_from 83 = .ok (.iload 5, 2) := by decide +kernel
theorem dX6_from_85 : decode cX6_from 85 = .ok (.ifCond .ge 7, 3) := by decide +kernel
theorem dX6_from_88 : decode cX6_from 88 = .ok (.iconst 0, 1) := by decide +kernel
theorem dX6_from_89 : decode cX6_from 89 = .ok (.goto 24, 3) := by decide +kernel
theorem dX6_from_92 : decode cX6_from 92 = .ok (.aload_n 0, 1) := by decide +kernel
theorem dX6_from_93 : decode cX6_from 93 = .ok (.getfield 39, 3) := by decide +kernel
theorem dX6_from_96 : decode cX6_from 96 = .ok (.getfield 156, 3) := by decide +kernel
theorem dX6_from_99 : decode cX6_from 99 = .ok (.iload 5, 2) := by decide +kernel
theorem dX6_from_101 : decode cX6_from 101 = .ok (.iaload, 1) := by decide +kernel
theorem dX6_from_102 : decode cX6_from 102 = .ok (.aload 4, 2) := by decide +kernel
theorem dX6_from_104 : decode cX6_from 104 = .ok (.getfield 95, 3) := by decide +kernel
theorem dX6_from_107 : decode cX6_from 107 = .ok (.iload_n 2, 1) := by decide +kernel
theorem dX6_from_108 : decode cX6_from 108 = .ok (.iload 5, 2) := by decide +kernel
theorem dX6_from_110 : decode cX6_from 110 = .ok (.iadd, 1) := by decide +kernel
theorem dX6_from_111 : decode cX6_from 111 = .ok (.iaload, 1) := by decide +kernel
theorem dX6_from_112 : decode cX6_from 112 = .ok (.isub, 1) := by decide +kernel
theorem dX6_from_113 : decode cX6_from 113 = .ok (.istore 6, 2) := by decide +kernel
theorem dX6_from_115 : decode cX6_from 115 = .ok (.iconst 0, 1) := by decide +kernel
theorem dX6_from_116 : decode cX6_from 116 = .ok (.istore 7, 2) := by decide +kernel
theorem dX6_from_118 : decode cX6_from 118 = .ok (.ldc 218, 2) := by decide +kernel
theorem dX6_from_120 : decode cX6_from 120 = .ok (.istore 8, 2) := by decide +kernel
theorem dX6_from_122 : decode cX6_from 122 = .ok (.iconst 0, 1) := by decide +kernel
theorem dX6_from_123 : decode cX6_from 123 = .ok (.istore 9, 2) := by decide +kernel
theorem dX6_from_125 : decode cX6_from 125 = .ok (.iload 9, 2) := by decide +kernel
theorem dX6_from_127 : decode cX6_from 127 = .ok (.aload_n 0, 1) := by decide +kernel
theorem dX6_from_128 : decode cX6_from 128 = .ok (.getfield 32, 3) := by decide +kernel
theorem dX6_from_131 : decode cX6_from 131 = .ok (.getfield 248, 3) := by decide +kernel
theorem dX6_from_134 : decode cX6_from 134 = .ok (.if_icmp .ge 76, 3) := by decide +kernel
theorem dX6_from_137 : decode cX6_from 137 = .ok (.iload 5, 2) := by decide +kernel
theorem dX6_from_139 : decode cX6_from 139 = .ok (.ifCond .lt 71, 3) := by decide +kernel
theorem dX6_from_142 : decode cX6_from 142 = .ok (.iconst 1, 1) := by decide +kernel
theorem dX6_from_143 : decode cX6_from 143 = .ok (.istore 10, 2) := by decide +kernel
theorem dX6_from_145 : decode cX6_from 145 = .ok (.iload 10, 2) := by decide +kernel
theorem dX6_from_147 : decode cX6_from 147 = .ok (.bipush 30, 2) := by decide +kernel
theorem dX6_from_149 : decode cX6_from 149 = .ok (.if_icmp .gt 55, 3) := by decide +kernel
theorem dX6_from_152 : decode cX6_from 152 = .ok (.aload_n 0, 1) := by decide +kernel
theorem dX6_from_153 : decode cX6_from 153 = .ok (.getfield 32, 3) := by decide +kernel
theorem dX6_from_156 : decode cX6_from 156 = .ok (.iload 9, 2) := by decide +kernel
theorem dX6_from_158 : decode cX6_from 158 = .ok (.iload 10, 2) := by decide +kernel
theorem dX6_from_160 : decode cX6_from 160 = .ok (.aload_n 0, 1) := by decide +kernel
theorem dX6_from_161 : decode cX6_from 161 = .ok (.getfield 39, 3) := by decide +kernel
theorem dX6_from_164 : decode cX6_from 164 = .ok (.getfield 149, 3) := by decide +kernel
theorem dX6_from_167 : decode cX6_from 167 = .ok (.invokevirtual 152, 3) := by decide +kernel
theorem dX6_from_170 : decode cX6_from 170 = .ok (.iload 6, 2) := by decide +kernel
theorem dX6_from_172 : decode cX6_from 172 = .ok (.if_icmp .ne 26, 3) := by decide +kernel
theorem dX6_from_175 : decode cX6_from 175 = .ok (.iload 7, 2) := by decide +kernel
theorem dX6_from_177 : decode cX6_from 177 = .ok (.ifCond .ne 14, 3) := by decide +kernel
theorem dX6_from_180 : decode cX6_from 180 = .ok (.bipush 10, 2) := by decide +kernel
theorem dX6_from_182 : decode cX6_from 182 = .ok (.iload 9, 2) := by decide +kernel
theorem dX6_from_184 : decode cX6_from 184 = .ok (.imul, 1) := by decide +kernel
theorem dX6_from_185 : decode cX6_from 185 = .ok (.iload 5, 2) := by decide +kernel
theorem dX6_from_187 : decode cX6_from 187 = .ok (.iadd, 1) := by decide +kernel
theorem dX6_from_188 : decode cX6_from 188 = .ok (.goto 5, 3) := by decide +kernel
theorem dX6_from_191 : decode cX6_from 191 = .ok (.iload 8, 2) := by decide +kernel
theorem dX6_from_193 : decode cX6_from 193 = .ok (.istore 8, 2) := by decide +kernel
theorem dX6_from_195 : decode cX6_from 195 = .ok (.iinc 7 1, 3) := by decide +kernel
theorem dX6_from_198 : decode cX6_from 198 = .ok (.iinc 10 1, 3) := by decide +kernel
theorem dX6_from_201 : decode cX6_from 201 = .ok (.goto (-56), 3) := by decide +kernel
theorem dX6_from_204 : decode cX6_from 204 = .ok (.iinc 9 1, 3) := by decide +kernel
theorem dX6_from_207 : decode cX6_from 207 = .ok (.goto (-82), 3) := by decide +kernel
theorem dX6_from_210 : decode cX6_from 210 = .ok (.aload_n 0, 1) := by decide +kernel
theorem dX6_from_211 : decode cX6_from 211 = .ok (.iload_n 3, 1) := by decide +kernel
theorem dX6_from_212 : decode cX6_from 212 = .ok (.ifCond .ne 8, 3) := by decide +kernel
theorem dX6_from_215 : decode cX6_from 215 = .ok (.iload 7, 2) := by decide +kernel
theorem dX6_from_217 : decode cX6_from 217 = .ok (.goto 5, 3) := by decide +kernel
theorem dX6_from_220 : decode cX6_from 220 = .ok (.iload 8, 2) := by decide +kernel
theorem dX6_from_222 : decode cX6_from 222 = .ok (.invokevirtual 89, 3) := by decide +kernel
theorem dX6_from_225 : decode cX6_from 225 = .ok (.ireturn, 1) := by decide +kernel
theorem dX6_who_0 : decode cX6_who 0 = .ok (.aload_n 0, 1) := by decide +kernel
theorem dX6_who_1 : decode cX6_who 1 = .ok (.getfield 32, 3) := by decide +kernel
theorem dX6_who_4 : decode cX6_who 4 = .ok (.iload_n 1, 1) := by decide +kernel
theorem dX6_who_5 : decode cX6_who 5 = .ok (.invokevirtual 139, 3) := by decide +kernel
theorem dX6_who_8 : decode cX6_who 8 = .ok (.ifCond .eq 25, 3) := by decide +kernel
theorem dX6_who_11 : decode cX6_who 11 = .ok (.iload_n 2, 1) := by decide +kernel
theorem dX6_who_12 : decode cX6_who 12 = .ok (.bipush 8, 2) := by decide +kernel
theorem dX6_who_14 : decode cX6_who 14 = .ok (.invokestatic 77, 3) := by decide +kernel
theorem dX6_who_17 : decode cX6_who 17 = .ok (.ifCond .eq 16, 3) := by decide +kernel
theorem dX6_who_20 : decode cX6_who 20 = .ok (.iload 4, 2) := by decide +kernel
theorem dX6_who_22 : decode cX6_who 22 = .ok (.iconst 1, 1) := by decide +kernel
theorem dX6_who_23 : decode cX6_who 23 = .ok (.if_icmp .lt 10, 3) := by decide +kernel
theorem dX6_who_26 : decode cX6_who 26 = .ok (.iload 4, 2) := by decide +kernel
theorem dX6_who_28 : decode cX6_who 28 = .ok (.bipush 8, 2) := by decide +kernel
theorem dX6_who_30 : decode cX6_who 30 = .ok (.if_icmp .le 6, 3) := by decide +kernel
theorem dX6_who_33 : decode cX6_who 33 = .ok (.ldc 81, 2) := by decide +kernel
theorem dX6_who_35 : decode cX6_who 35 = .ok (.ireturn, 1) := by decide +kernel
theorem dX6_who_36 : decode cX6_who 36 = .ok (.aload_n 0, 1) := by decide +kernel
theorem dX6_who_37 : decode cX6_who 37 = .ok (.getfield 11, 3) := by decide +kernel
theorem dX6_who_40 : decode cX6_who 40 = .ok (.iload_n 2, 1) := by decide +kernel
theorem dX6_who_41 : decode cX6_who 41 = .ok (.aaload, 1) := by decide +kernel
theorem dX6_who_42 : decode cX6_who 42 = .ok (.astore 5, 2) := by decide +kernel
theorem dX6_who_44 : decode cX6_who 44 = .ok (.aload 5, 2) := by decide +kernel
theorem dX6_who_46 : decode cX6_who 46 = .ok (.ifnonnull 9, 3) := by decide +kernel
theorem dX6_who_49 : decode cX6_who 49 = .ok (.aload_n 0, 1) := by decide +kernel
theorem dX6_who_50 : decode cX6_who 50 = .ok (.iconst 1, 1) := by decide +kernel
theorem dX6_who_51 : decode cX6_who 51 = .ok (.invokevirtual 82, 3) := by decide +kernel
theorem dX6_who_54 : decode cX6_who 54 = .ok (.ireturn, 1) := by decide +kernel
theorem dX6_who_55 : decode cX6_who 55 = .ok (.aload 5, 2) := by decide +kernel
theorem dX6_who_57 : decode cX6_who 57 = .ok (.iload_n 3, 1) := by decide +kernel
theorem dX6_who_58 : decode cX6_who 58 = .ok (.iconst 2, 1) := by decide +kernel
theorem dX6_who_59 : decode cX6_who 59 = .ok (.iload 4, 2) := by decide +kernel
theorem dX6_who_61 : decode cX6_who 61 = .ok (.imul, 1) := by decide +kernel
theorem dX6_who_62 : decode cX6_who 62 = .ok (.invokevirtual 92, 3) := by decide +kernel
theorem dX6_who_65 : decode cX6_who 65 = .ok (.ifCond .ne 9, 3) := by decide +kernel
theorem dX6_who_68 : decode cX6_who 68 = .ok (.aload_n 0, 1) := by decide +kernel
theorem dX6_who_69 : decode cX6_who 69 = .ok (.iconst 2, 1) := by decide +kernel
theorem dX6_who_70 : decode cX6_who 70 = .ok (.invokevirtual 82, 3) := by decide +kernel
theorem dX6_who_73 : decode cX6_who 73 = .ok (.ireturn, 1) := by decide +kernel
theorem dX6_who_74 : decode cX6_who 74 = .ok (.iconst 0, 1) := by decide +kernel
theorem dX6_who_75 : decode cX6_who 75 = .ok (.istore 6, 2) := by decide +kernel
theorem dX6_who_77 : decode cX6_who 77 = .ok (.iload 6, 2) := by decide +kernel
theorem dX6_who_79 : decode cX6_who 79 = .ok (.iload 4, 2) := by decide +kernel
theorem dX6_who_81 : decode cX6_who 81 = .ok (.if_icmp .ge 30, 3) := by decide +kernel
theorem dX6_who_84 : decode cX6_who 84 = .ok (.aload 5, 2) := by decide +kernel
theorem dX6_who_86 : decode cX6_who 86 = .ok (.getfield 95, 3) := by decide +kernel
theorem dX6_who_89 : decode cX6_who 89 = .ok (.iload_n 3, 1) := by decide +kernel
theorem dX6_who_90 : decode cX6_who 90 = .ok (.iconst 2, 1) := by decide +kernel
theorem dX6_who_91 : decode cX6_who 91 = .ok (.iload 6, 2) := by decide +kernel
theorem dX6_who_93 : decode cX6_who 93 = .ok (.imul, 1) := by decide +kernel
theorem dX6_who_94 : decode cX6_who 94 = .ok (.iadd, 1) := by decide +kernel
theorem dX6_who_95 : decode cX6_who 95 = .ok (.iaload, 1) := by decide +kernel
theorem dX6_who_96 : decode cX6_who 96 = .ok (.invokestatic 143, 3) := by decide +kernel
theorem dX6_who_99 : decode cX6_who 99 = .ok (.ifCond .ne 6, 3) := by decide +kernel
theorem dX6_who_102 : decode cX6_who 102 = .ok (.ldc 81, 2) := by decide +kernel
theorem dX6_who_104 : decode cX6_who 104 = .ok (.ireturn, 1) := by decide +kernel
theorem dX6_who_105 : decode cX6_who 105 = .ok (.iinc 6 1, 3) := by decide +kernel
theorem dX6_who_108 : decode cX6_who 108 = .ok (.goto (-31), 3) := by decide +kernel
theorem dX6_who_111 : decode cX6_who 111 = .ok (.iconst 0, 1) := by decide +kernel
theorem dX6_who_112 : decode cX6_who 112 = .ok (.istore 6, 2) := by decide +kernel
theorem dX6_who_114 : decode cX6_who 114 = .ok (.iconst 1, 1) := by decide +kernel
theorem dX6_who_115 : decode cX6_who 115 = .ok (.istore 7, 2) := by decide +kernel
theorem dX6_who_117 : decode cX6_who 117 = .ok (.iload 7, 2) := by decide +kernel
theorem dX6_who_119 : decode cX6_who 119 = .ok (.bipush 6, 2) := by decide +kernel
theorem dX6_who_121 : decode cX6_who 121 = .ok (.if_icmp .ge 44, 3) := by decide +kernel
theorem dX6_who_124 : decode cX6_who 124 = .ok (.aload_n 0, 1) := by decide +kernel
theorem dX6_who_125 : decode cX6_who 125 = .ok (.iload 7, 2) := by decide +kernel
theorem dX6_who_127 : decode cX6_who 127 = .ok (.aload_n 0, 1) := by decide +kernel
theorem dX6_who_128 : decode cX6_who 128 = .ok (.getfield 32, 3) := by decide +kernel
theorem dX6_who_131 : decode cX6_who 131 = .ok (.getfield 197, 3) := by decide +kernel
theorem dX6_who_134 : decode cX6_who 134 = .ok (.iload_n 1, 1) := by decide +kernel
theorem dX6_who_135 : decode cX6_who 135 = .ok (.iaload, 1) := by decide +kernel
theorem dX6_who_136 : decode cX6_who 136 = .ok (.aload 5, 2) := by decide +kernel
theorem dX6_who_138 : decode cX6_who 138 = .ok (.getfield 95, 3) := by decide +kernel
theorem dX6_who_141 : decode cX6_who 141 = .ok (.iload_n 3, 1) := by decide +kernel
theorem dX6_who_142 : decode cX6_who 142 = .ok (.iload 4, 2) := by decide +kernel
theorem dX6_who_144 : decode cX6_who 144 = .ok (.invokevirtual 251, 3) := by decide +kernel
theorem dX6_who_147 : decode cX6_who 147 = .ok (.ifCond .eq 12, 3) := by decide +kernel
theorem dX6_who_150 : decode cX6_who 150 = .ok (.iload 6, 2) := by decide +kernel
theorem dX6_who_152 : decode cX6_who 152 = .ok (.iconst 1, 1) := by decide +kernel
theorem dX6_who_153 : decode cX6_who 153 = .ok (.iload 7, 2) := by decide +kernel
theorem dX6_who_155 : decode cX6_who 155 = .ok (.ishl, 1) := by decide +kernel
theorem dX6_who_156 : decode cX6_who 156 = .ok (.ior, 1) := by decide +kernel
theorem dX6_who_157 : decode cX6_who 157 = .ok (.istore 6, 2) := by decide +kernel
theorem dX6_who_159 : decode cX6_who 159 = .ok (.iinc 7 1, 3) := by decide +kernel
theorem dX6_who_162 : decode cX6_who 162 = .ok (.goto (-45), 3) := by decide +kernel
theorem dX6_who_165 : decode cX6_who 165 = .ok (.aload_n 0, 1) := by decide +kernel
theorem dX6_who_166 : decode cX6_who 166 = .ok (.iload 6, 2) := by decide +kernel
theorem dX6_who_168 : decode cX6_who 168 = .ok (.invokevirtual 89, 3) := by decide +kernel
theorem dX6_who_171 : decode cX6_who 171 = .ok (.ireturn, 1) := by decide +kernel
theorem dX6_layer_0 : decode cX6_layer 0 = .ok (.aload_n 0, 1) := by decide +kernel
theorem dX6_layer_1 : decode cX6_layer 1 = .ok (.getfield 32, 3) := by decide +kernel
theorem dX6_layer_4 : decode cX6_layer 4 = .ok (.iload_n 1, 1) := by decide +kernel
theorem dX6_layer_5 : decode cX6_layer 5 = .ok (.invokevirtual 146, 3) := by decide +kernel
theorem dX6_layer_8 : decode cX6_layer 8 = .ok (.ifCond .eq 14, 3) := by decide +kernel
theorem dX6_layer_11 : decode cX6_layer 11 = .ok (.aload_n 0, 1) := by decide +kernel
theorem dX6_layer_12 : decode cX6_layer 12 = .ok (.getfield 32, 3) := by decide +kernel
theorem dX6_layer_15 : decode cX6_layer 15 = .ok (.iload_n 1, 1) := by decide +kernel
theorem dX6_layer_16 : decode cX6_layer 16 = .ok (.invokevirtual 255, 3) := by decide +kernel
theorem dX6_layer_19 : decode cX6_layer 19 = .ok (.goto 5, 3) := by decide +kernel
theorem dX6_layer_22 : decode cX6_layer 22 = .ok (.ldc 81, 2) := by decide +kernel
theorem dX6_layer_24 : decode cX6_layer 24 = .ok (.ireturn, 1) := by decide +kernel
theorem dX6_longest_0 : decode cX6_longest 0 = .ok (.aload_n 0, 1) := by decide +kernel
theorem dX6_longest_1 : decode cX6_longest 1 = .ok (.getfield 32, 3) := by decide +kernel
theorem dX6_longest_4 : decode cX6_longest 4 = .ok (.iload_n 1, 1) := by decide +kernel
theorem dX6_longest_5 : decode cX6_longest 5 = .ok (.invokevirtual 139, 3) := by decide +kernel
theorem dX6_longest_8 : decode cX6_longest 8 = .ok (.ifCond .eq 11, 3) := by decide +kernel
theorem dX6_longest_11 : decode cX6_longest 11 = .ok (.iload_n 2, 1) := by decide +kernel
theorem dX6_longest_12 : decode cX6_longest 12 = .ok (.iconst 2, 1) := by decide +kernel
theorem dX6_longest_13 : decode cX6_longest 13 = .ok (.invokestatic 77, 3) := by decide +kernel
theorem dX6_longest_16 : decode cX6_longest 16 = .ok (.ifCond .ne 6, 3) := by decide +kernel
theorem dX6_longest_19 : decode cX6_longest 19 = .ok (.ldc 81, 2) := by decide +kernel
theorem dX6_longest_21 : decode cX6_longest 21 = .ok (.ireturn, 1) := by decide +kernel
theorem dX6_longest_22 : decode cX6_longest 22 = .ok (.iconst 0, 1) := by decide +kernel
theorem dX6_longest_23 : decode cX6_longest 23 = .ok (.istore_n 3, 1) := by decide +kernel
theorem dX6_longest_24 : decode cX6_longest 24 = .ok (.iconst 0, 1) := by decide +kernel
theorem dX6_longest_25 : decode cX6_longest 25 = .ok (.istore 4, 2) := by decide +kernel
theorem dX6_longest_27 : decode cX6_longest 27 = .ok (.iconst 0, 1) := by decide +kernel
theorem dX6_longest_28 : decode cX6_longest 28 = .ok (.istore 5, 2) := by decide +kernel
theorem dX6_longest_30 : decode cX6_longest 30 = .ok (.iload 5, 2) := by decide +kernel
theorem dX6_longest_32 : decode cX6_longest 32 = .ok (.aload_n 0, 1) := by decide +kernel
theorem dX6_longest_33 : decode cX6_longest 33 = .ok (.getfield 32, 3) := by decide +kernel
theorem dX6_longest_36 : decode cX6_longest 36 = .ok (.getfield 131, 3) := by decide +kernel
theorem dX6_longest_39 : decode cX6_longest 39 = .ok (.if_icmp .ge 39, 3) := by decide +kernel
theorem dX6_longest_42 : decode cX6_longest 42 = .ok (.aload_n 0, 1) := by decide +kernel
theorem dX6_longest_43 : decode cX6_longest 43 = .ok (.iload_n 1, 1) := by decide +kernel
theorem dX6_longest_44 : decode cX6_longest 44 = .ok (.aload_n 0, 1) := by decide +kernel
theorem dX6_longest_45 : decode cX6_longest 45 = .ok (.getfield 39, 3) := by decide +kernel
theorem dX6_longest_48 : decode cX6_longest 48 = .ok (.getfield 156, 3) := by decide +kernel
theorem dX6_longest_51 : decode cX6_longest 51 = .ok (.iload 5, 2) := by decide +kernel
theorem dX6_longest_53 : decode cX6_longest 53 = .ok (.iaload, 1) := by decide +kernel
theorem dX6_longest_54 : decode cX6_longest 54 = .ok (.invokevirtual 258, 3) := by decide +kernel
theorem dX6_longest_57 : decode cX6_longest 57 = .ok (.istore 6, 2) := by decide +kernel
theorem dX6_longest_59 : decode cX6_longest 59 = .ok (.iload 6, 2) := by decide +kernel
theorem dX6_longest_61 : decode cX6_longest 61 = .ok (.iload_n 3, 1) := by decide +kernel
theorem dX6_longest_62 : decode cX6_longest 62 = .ok (.if_icmp .le 10, 3) := by decide +kernel
theorem dX6_longest_65 : decode cX6_longest 65 = .ok (.iload 6, 2) := by decide +kernel
theorem dX6_longest_67 : decode cX6_longest 67 = .ok (.istore_n 3, 1) := by decide +kernel
theorem dX6_longest_68 : decode cX6_longest 68 = .ok (.iload 5, 2) := by decide +kernel
theorem dX6_longest_70 : decode cX6_longest 70 = .ok (.istore 4, 2) := by decide +kernel
theorem dX6_longest_72 : decode cX6_longest 72 = .ok (.iinc 5 1, 3) := by decide +kernel
theorem dX6_longest_75 : decode cX6_longest 75 = .ok (.goto (-45), 3) := by decide +kernel
theorem dX6_longest_78 : decode cX6_longest 78 = .ok (.iload_n 2, 1) := by decide +kernel
theorem dX6_longest_79 : decode cX6_longest 79 = .ok (.ifCond .ne 7, 3) := by decide +kernel
theorem dX6_longest_82 : decode cX6_longest 82 = .ok (.iload_n 3, 1) := by decide +kernel
theorem dX6_longest_83 : decode cX6_longest 83 = .ok (.goto 5, 3) := by decide +kernel
theorem dX6_longest_86 : decode cX6_longest 86 = .ok (.iload 4, 2) := by decide +kernel
theorem dX6_longest_88 : decode cX6_longest 88 = .ok (.ireturn, 1) := by decide +kernel
theorem dX6_rains_0 : decode cX6_rains 0 = .ok (.aload_n 0, 1) := by decide +kernel
theorem dX6_rains_1 : decode cX6_rains 1 = .ok (.getfield 32, 3) := by decide +kernel
theorem dX6_rains_4 : decode cX6_rains 4 = .ok (.iload_n 1, 1) := by decide +kernel
theorem dX6_rains_5 : decode cX6_rains 5 = .ok (.invokevirtual 146, 3) := by decide +kernel
theorem dX6_rains_8 : decode cX6_rains 8 = .ok (.ifCond .eq 21, 3) := by decide +kernel
theorem dX6_rains_11 : decode cX6_rains 11 = .ok (.iload_n 2, 1) := by decide +kernel
theorem dX6_rains_12 : decode cX6_rains 12 = .ok (.ifCond .lt 17, 3) := by decide +kernel
theorem dX6_rains_15 : decode cX6_rains 15 = .ok (.iload_n 2, 1) := by decide +kernel
theorem dX6_rains_16 : decode cX6_rains 16 = .ok (.bipush 10, 2) := by decide +kernel
theorem dX6_rains_18 : decode cX6_rains 18 = .ok (.if_icmp .gt 11, 3) := by decide +kernel
theorem dX6_rains_21 : decode cX6_rains 21 = .ok (.iload_n 3, 1) := by decide +kernel
theorem dX6_rains_22 : decode cX6_rains 22 = .ok (.iconst 2, 1) := by decide +kernel
theorem dX6_rains_23 : decode cX6_rains 23 = .ok (.invokestatic 77, 3) := by decide +kernel
theorem dX6_rains_26 : decode cX6_rains 26 = .ok (.ifCond .ne 7, 3) := by decide +kernel
theorem dX6_rains_29 : decode cX6_rains 29 = .ok (.ldc2_w 261, 3) := by decide +kernel
theorem dX6_rains_32 : decode cX6_rains 32 = .ok (.lreturn, 1) := by decide +kernel
theorem dX6_rains_33 : decode cX6_rains 33 = .ok (.aload_n 0, 1) := by decide +kernel
theorem dX6_rains_34 : decode cX6_rains 34 = .ok (.getfield 39, 3) := by decide +kernel
theorem dX6_rains_37 : decode cX6_rains 37 = .ok (.invokevirtual 200, 3) := by decide +kernel
theorem dX6_rains_40 : decode cX6_rains 40 = .ok (.istore 4, 2) := by decide +kernel
theorem dX6_rains_42 : decode cX6_rains 42 = .ok (.lconst 0, 1) := by decide +kernel
theorem dX6_rains_43 : decode cX6_rains 43 = .ok (.lstore 5, 2) := by decide +kernel
theorem dX6_rains_45 : decode cX6_rains 45 = .ok (.iconst 0, 1) := by decide +kernel
theorem dX6_rains_46 : decode cX6_rains 46 = .ok (.istore 7, 2) := by decide +kernel
theorem dX6_rains_48 : decode cX6_rains 48 = .ok (.iload 7, 2) := by decide +kernel
theorem dX6_rains_50 : decode cX6_rains 50 = .ok (.iconst 1, 1) := by decide +kernel
theorem dX6_rains_51 : decode cX6_rains 51 = .ok (.aload_n 0, 1) := by decide +kernel
theorem dX6_rains_52 : decode cX6_rains 52 = .ok (.getfield 32, 3) := by decide +kernel
theorem dX6_rains_55 : decode cX6_rains 55 = .ok (.getfield 131, 3) := by decide +kernel
theorem dX6_rains_58 : decode cX6_rains 58 = .ok (.ishl, 1) := by decide +kernel
theorem dX6_rains_59 : decode cX6_rains 59 = .ok (.if_icmp .ge 69, 3) := by decide +kernel
theorem dX6_rains_62 : decode cX6_rains 62 = .ok (.aload_n 0, 1) := by decide +kernel
theorem dX6_rains_63 : decode cX6_rains 63 = .ok (.getfield 32, 3) := by decide +kernel
theorem dX6_rains_66 : decode cX6_rains 66 = .ok (.iload 4, 2) := by decide +kernel
theorem dX6_rains_68 : decode cX6_rains 68 = .ok (.iload 7, 2) := by decide +kernel
theorem dX6_rains_70 : decode cX6_rains 70 = .ok (.iconst (-1), 1) := by decide +kernel
theorem dX6_rains_71 : decode cX6_rains 71 = .ok (.ixor, 1) := by decide +kernel
theorem dX6_rains_72 : decode cX6_rains 72 = .ok (.iand, 1) := by decide +kernel
theorem dX6_rains_73 : decode cX6_rains 73 = .ok (.invokevirtual 215, 3) := by decide +kernel
theorem dX6_rains_76 : decode cX6_rains 76 = .ok (.iload_n 1, 1) := by decide +kernel
theorem dX6_rains_77 : decode cX6_rains 77 = .ok (.ishr, 1) := by decide +kernel
theorem dX6_rains_78 : decode cX6_rains 78 = .ok (.iconst 1, 1) := by decide +kernel
theorem dX6_rains_79 : decode cX6_rains 79 = .ok (.iand, 1) := by decide +kernel
theorem dX6_rains_80 : decode cX6_rains 80 = .ok (.iconst 1, 1) := by decide +kernel
theorem dX6_rains_81 : decode cX6_rains 81 = .ok (.if_icmp .ne 41, 3) := by decide +kernel
theorem dX6_rains_84 : decode cX6_rains 84 = .ok (.iload 7, 2) := by decide +kernel
theorem dX6_rains_86 : decode cX6_rains 86 = .ok (.invokestatic 219, 3) := by decide +kernel
theorem dX6_rains_89 : decode cX6_rains 89 = .ok (.istore 8, 2) := by decide +kernel
theorem dX6_rains_91 : decode cX6_rains 91 = .ok (.lload 5, 2) := by decide +kernel
theorem dX6_rains_93 : decode cX6_rains 93 = .ok (.iload_n 2, 1) := by decide +kernel
theorem dX6_rains_94 : decode cX6_rains 94 = .ok (.i2l, 1) := by decide +kernel
theorem dX6_rains_95 : decode cX6_rains 95 = .ok (.iload 8, 2) := by decide +kernel
theorem dX6_rains_97 : decode cX6_rains 97 = .ok (.invokestatic 263, 3) := by decide +kernel
theorem dX6_rains_100 : decode cX6_rains 100 = .ok (.bipush 10, 2) := by decide +kernel
theorem dX6_rains_102 : decode cX6_rains 102 = .ok (.iload_n 2, 1) := by decide +kernel
theorem dX6_rains_103 : decode cX6_rains 103 = .ok (.isub, 1) := by decide +kernel
theorem dX6_rains_104 : decode cX6_rains 104 = .ok (.i2l, 1) := by decide +kernel
theorem dX6_rains_105 : decode cX6_rains 105 = .ok (.aload_n 0, 1) := by decide +kernel
theorem dX6_rains_106 : decode cX6_rains 106 = .ok (.getfield 32, 3) := by decide +kernel
theorem dX6_rains_109 : decode cX6_rains 109 = .ok (.getfield 131, 3) := by decide +kernel
theorem dX6_rains_112 : decode cX6_rains 112 = .ok (.iload 8, 2) := by decide +kernel
theorem dX6_rains_114 : decode cX6_rains 114 = .ok (.isub, 1) := by decide +kernel
theorem dX6_rains_115 : decode cX6_rains 115 = .ok (.invokestatic 263, 3) := by decide +kernel
theorem dX6_rains_118 : decode cX6_rains 118 = .ok (.lmul, 1) := by decide +kernel
theorem dX6_rains_119 : decode cX6_rains 119 = .ok (.ladd, 1) := by decide +kernel
theorem dX6_rains_120 : decode cX6_rains 120 = .ok (.lstore 5, 2) := by decide +kernel
theorem dX6_rains_122 : decode cX6_rains 122 = .ok (.iinc 7 1, 3) := by decide +kernel
theorem dX6_rains_125 : decode cX6_rains 125 = .ok (.goto (-77), 3) := by decide +kernel
theorem dX6_rains_128 : decode cX6_rains 128 = .ok (.lload 5, 2) := by decide +kernel
theorem dX6_rains_130 : decode cX6_rains 130 = .ok (.ldc2_w 267, 3) := by decide +kernel
theorem dX6_rains_133 : decode cX6_rains 133 = .ok (.aload_n 0, 1) := by decide +kernel
theorem dX6_rains_134 : decode cX6_rains 134 = .ok (.getfield 32, 3) := by decide +kernel
theorem dX6_rains_137 : decode cX6_rains 137 = .ok (.getfield 131, 3) := by decide +kernel
theorem dX6_rains_140 : decode cX6_rains 140 = .ok (.invokestatic 263, 3) := by decide +kernel
theorem dX6_rains_143 : decode cX6_rains 143 = .ok (.iload_n 3, 1) := by decide +kernel
theorem dX6_rains_144 : decode cX6_rains 144 = .ok (.invokestatic 269, 3) := by decide +kernel
theorem dX6_rains_147 : decode cX6_rains 147 = .ok (.lreturn, 1) := by decide +kernel
theorem dX6_share_0 : decode cX6_share 0 = .ok (.aload_n 0, 1) := by decide +kernel
theorem dX6_share_1 : decode cX6_share 1 = .ok (.getfield 32, 3) := by decide +kernel
theorem dX6_share_4 : decode cX6_share 4 = .ok (.iload_n 1, 1) := by decide +kernel
theorem dX6_share_5 : decode cX6_share 5 = .ok (.invokevirtual 139, 3) := by decide +kernel
theorem dX6_share_8 : decode cX6_share 8 = .ok (.ifCond .eq 11, 3) := by decide +kernel
theorem dX6_share_11 : decode cX6_share 11 = .ok (.iload_n 2, 1) := by decide +kernel
theorem dX6_share_12 : decode cX6_share 12 = .ok (.iconst 2, 1) := by decide +kernel
theorem dX6_share_13 : decode cX6_share 13 = .ok (.invokestatic 77, 3) := by decide +kernel
theorem dX6_share_16 : decode cX6_share 16 = .ok (.ifCond .ne 6, 3) := by decide +kernel
theorem dX6_share_19 : decode cX6_share 19 = .ok (.ldc 81, 2) := by decide +kernel
theorem dX6_share_21 : decode cX6_share 21 = .ok (.ireturn, 1) := by decide +kernel
theorem dX6_share_22 : decode cX6_share 22 = .ok (.aload_n 0, 1) := by decide +kernel
theorem dX6_share_23 : decode cX6_share 23 = .ok (.getfield 39, 3) := by decide +kernel
theorem dX6_share_26 : decode cX6_share 26 = .ok (.getfield 165, 3) := by decide +kernel
theorem dX6_share_29 : decode cX6_share 29 = .ok (.iload_n 1, 1) := by decide +kernel
theorem dX6_share_30 : decode cX6_share 30 = .ok (.iaload, 1) := by decide +kernel
theorem dX6_share_31 : decode cX6_share 31 = .ok (.i2l, 1) := by decide +kernel
theorem dX6_share_32 : decode cX6_share 32 = .ok (.aload_n 0, 1) := by decide +kernel
theorem dX6_share_33 : decode cX6_share 33 = .ok (.getfield 39, 3) := by decide +kernel
theorem dX6_share_36 : decode cX6_share 36 = .ok (.invokevirtual 206, 3) := by decide +kernel
theorem dX6_share_39 : decode cX6_share 39 = .ok (.i2l, 1) := by decide +kernel
theorem dX6_share_40 : decode cX6_share 40 = .ok (.iload_n 2, 1) := by decide +kernel
theorem dX6_share_41 : decode cX6_share 41 = .ok (.invokestatic 269, 3) := by decide +kernel
theorem dX6_share_44 : decode cX6_share 44 = .ok (.l2i, 1) := by decide +kernel
theorem dX6_share_45 : decode cX6_share 45 = .ok (.ireturn, 1) := by decide +kernel
theorem dX6_drawn_0 : decode cX6_drawn 0 = .ok (.aload_n 0, 1) := by decide +kernel
theorem dX6_drawn_1 : decode cX6_drawn 1 = .ok (.invokevirtual 180, 3) := by decide +kernel
theorem dX6_drawn_4 : decode cX6_drawn 4 = .ok (.ifCond .ne 6, 3) := by decide +kernel
theorem dX6_drawn_7 : decode cX6_drawn 7 = .ok (.ldc 134, 2) := by decide +kernel
theorem dX6_drawn_9 : decode cX6_drawn 9 = .ok (.ireturn, 1) := by decide +kernel
theorem dX6_drawn_10 : decode cX6_drawn 10 = .ok (.iload_n 1, 1) := by decide +kernel
theorem dX6_drawn_11 : decode cX6_drawn 11 = .ok (.ifCond .lt 29, 3) := by decide +kernel
theorem dX6_drawn_14 : decode cX6_drawn 14 = .ok (.iload_n 1, 1) := by decide +kernel
theorem dX6_drawn_15 : decode cX6_drawn 15 = .ok (.bipush 60, 2) := by decide +kernel
theorem dX6_drawn_17 : decode cX6_drawn 17 = .ok (.if_icmp .gt 23, 3) := by decide +kernel
theorem dX6_drawn_20 : decode cX6_drawn 20 = .ok (.iload_n 2, 1) := by decide +kernel
theorem dX6_drawn_21 : decode cX6_drawn 21 = .ok (.iconst 1, 1) := by decide +kernel
theorem dX6_drawn_22 : decode cX6_drawn 22 = .ok (.if_icmp .lt 18, 3) := by decide +kernel
theorem dX6_drawn_25 : decode cX6_drawn 25 = .ok (.iload_n 2, 1) := by decide +kernel
theorem dX6_drawn_26 : decode cX6_drawn 26 = .ok (.ldc_w 273, 3) := by decide +kernel
theorem dX6_drawn_29 : decode cX6_drawn 29 = .ok (.if_icmp .gt 11, 3) := by decide +kernel
theorem dX6_drawn_32 : decode cX6_drawn 32 = .ok (.iload_n 3, 1) := by decide +kernel
theorem dX6_drawn_33 : decode cX6_drawn 33 = .ok (.iconst 2, 1) := by decide +kernel
theorem dX6_drawn_34 : decode cX6_drawn 34 = .ok (.invokestatic 77, 3) := by decide +kernel
theorem dX6_drawn_37 : decode cX6_drawn 37 = .ok (.ifCond .ne 6, 3) := by decide +kernel
theorem dX6_drawn_40 : decode cX6_drawn 40 = .ok (.ldc 81, 2) := by decide +kernel
theorem dX6_drawn_42 : decode cX6_drawn 42 = .ok (.ireturn, 1) := by decide +kernel
theorem dX6_drawn_43 : decode cX6_drawn 43 = .ok (.aload_n 0, 1) := by decide +kernel
theorem dX6_drawn_44 : decode cX6_drawn 44 = .ok (.getfield 60, 3) := by decide +kernel
theorem dX6_drawn_47 : decode cX6_drawn 47 = .ok (.aload_n 0, 1) := by decide +kernel
theorem dX6_drawn_48 : decode cX6_drawn 48 = .ok (.getfield 39, 3) := by decide +kernel
theorem dX6_drawn_51 : decode cX6_drawn 51 = .ok (.invokevirtual 135, 3) := by decide +kernel
theorem dX6_drawn_54 : decode cX6_drawn 54 = .ok (.aload_n 0, 1) := by decide +kernel
theorem dX6_drawn_55 : decode cX6_drawn 55 = .ok (.getfield 60, 3) := by decide +kernel
theorem dX6_drawn_58 : decode cX6_drawn 58 = .ok (.iconst 0, 1) := by decide +kernel
theorem dX6_drawn_59 : decode cX6_drawn 59 = .ok (.putfield 168, 3) := by decide +kernel
theorem dX6_drawn_62 : decode cX6_drawn 62 = .ok (.iload_n 2, 1) := by decide +kernel
theorem dX6_drawn_63 : decode cX6_drawn 63 = .ok (.i2l, 1) := by decide +kernel
theorem dX6_drawn_64 : decode cX6_drawn 64 = .ok (.lstore 4, 2) := by decide +kernel
theorem dX6_drawn_66 : decode cX6_drawn 66 = .ok (.iconst 0, 1) := by decide +kernel
theorem dX6_drawn_67 : decode cX6_drawn 67 = .ok (.istore 6, 2) := by decide +kernel
theorem dX6_drawn_69 : decode cX6_drawn 69 = .ok (.iload 6, 2) := by decide +kernel
theorem dX6_drawn_71 : decode cX6_drawn 71 = .ok (.iload_n 1, 1) := by decide +kernel
theorem dX6_drawn_72 : decode cX6_drawn 72 = .ok (.if_icmp .ge 62, 3) := by decide +kernel
theorem dX6_drawn_75 : decode cX6_drawn 75 = .ok (.lload 4, 2) := by decide +kernel
theorem dX6_drawn_77 : decode cX6_drawn 77 = .ok (.ldc2_w 274, 3) := by decide +kernel
theorem dX6_drawn_80 : decode cX6_drawn 80 = .ok (.lmul, 1) := by decide +kernel
theorem dX6_drawn_81 : decode cX6_drawn 81 = .ok (.ldc2_w 276, 3) := by decide +kernel
theorem dX6_drawn_84 : decode cX6_drawn 84 = .ok (.lrem, 1) := by decide +kernel
theorem dX6_drawn_85 : decode cX6_drawn 85 = .ok (.lstore 4, 2) := by decide +kernel
theorem dX6_drawn_87 : decode cX6_drawn 87 = .ok (.aload_n 0, 1) := by decide +kernel
theorem dX6_drawn_88 : decode cX6_drawn 88 = .ok (.lload 4, 2) := by decide +kernel
theorem dX6_drawn_90 : decode cX6_drawn 90 = .ok (.invokevirtual 278, 3) := by decide +kernel
theorem dX6_drawn_93 : decode cX6_drawn 93 = .ok (.lload 4, 2) := by decide +kernel
theorem dX6_drawn_95 : decode cX6_drawn 95 = .ok (.ldc2_w 282, 3) := by decide +kernel
theorem dX6_drawn_98 : decode cX6_drawn 98 = .ok (.lrem, 1) := by decide +kernel
theorem dX6_drawn_99 : decode cX6_drawn 99 = .ok (.lconst 0, 1) := by decide +kernel
theorem dX6_drawn_100 : decode cX6_drawn 100 = .ok (.lcmp, 1) := by decide +kernel
theorem dX6_drawn_101 : decode cX6_drawn 101 = .ok (.ifCond .ne 14, 3) := by decide +kernel
theorem dX6_drawn_104 : decode cX6_drawn 104 = .ok (.aload_n 0, 1) := by decide +kernel
theorem dX6_drawn_105 : decode cX6_drawn 105 = .ok (.getfield 32, 3) := by decide +kernel
theorem dX6_drawn_108 : decode cX6_drawn 108 = .ok (.aload_n 0, 1) := by decide +kernel
theorem dX6_drawn_109 : decode cX6_drawn 109 = .ok (.getfield 60, 3) := by decide +kernel
theorem dX6_drawn_112 : decode cX6_drawn 112 = .ok (.invokevirtual 184, 3) := by decide +kernel
theorem dX6_drawn_115 : decode cX6_drawn 115 = .ok (.aload_n 0, 1) := by decide +kernel
theorem dX6_drawn_116 : decode cX6_drawn 116 = .ok (.getfield 60, 3) := by decide +kernel
theorem dX6_drawn_119 : decode cX6_drawn 119 = .ok (.dup, 1) := by decide +kernel
theorem dX6_drawn_120 : decode cX6_drawn 120 = .ok (.getfield 149, 3) := by decide +kernel
theorem dX6_drawn_123 : decode cX6_drawn 123 = .ok (.iconst 1, 1) := by decide +kernel
theorem dX6_drawn_124 : decode cX6_drawn 124 = .ok (.iadd, 1) := by decide +kernel
theorem dX6_drawn_125 : decode cX6_drawn 125 = .ok (.putfield 149, 3) := by decide +kernel
theorem dX6_drawn_128 : decode cX6_drawn 128 = .ok (.iinc 6 1, 3) := by decide +kernel
theorem dX6_drawn_131 : decode cX6_drawn 131 = .ok (.goto (-62), 3) := by decide +kernel
theorem dX6_drawn_134 : decode cX6_drawn 134 = .ok (.iload_n 3, 1) := by decide +kernel
theorem dX6_drawn_135 : decode cX6_drawn 135 = .ok (.ifCond .ne 20, 3) := by decide +kernel
theorem dX6_drawn_138 : decode cX6_drawn 138 = .ok (.aload_n 0, 1) := by decide +kernel
theorem dX6_drawn_139 : decode cX6_drawn 139 = .ok (.getfield 32, 3) := by decide +kernel
theorem dX6_drawn_142 : decode cX6_drawn 142 = .ok (.aload_n 0, 1) := by decide +kernel
theorem dX6_drawn_143 : decode cX6_drawn 143 = .ok (.getfield 60, 3) := by decide +kernel
theorem dX6_drawn_146 : decode cX6_drawn 146 = .ok (.invokevirtual 200, 3) := by decide +kernel
theorem dX6_drawn_149 : decode cX6_drawn 149 = .ok (.invokevirtual 215, 3) := by decide +kernel
theorem dX6_drawn_152 : decode cX6_drawn 152 = .ok (.goto 10, 3) := by decide +kernel
theorem dX6_drawn_155 : decode cX6_drawn 155 = .ok (.aload_n 0, 1) := by decide +kernel
theorem dX6_drawn_156 : decode cX6_drawn 156 = .ok (.getfield 60, 3) := by decide +kernel
theorem dX6_drawn_159 : decode cX6_drawn 159 = .ok (.getfield 168, 3) := by decide +kernel
theorem dX6_drawn_162 : decode cX6_drawn 162 = .ok (.ireturn, 1) := by decide +kernel
theorem dX6_image_0 : decode cX6_image 0 = .ok (.iload_n 1, 1) := by decide +kernel
theorem dX6_image_1 : decode cX6_image 1 = .ok (.iconst 2, 1) := by decide +kernel
theorem dX6_image_2 : decode cX6_image 2 = .ok (.invokestatic 77, 3) := by decide +kernel
theorem dX6_image_5 : decode cX6_image 5 = .ok (.ifCond .ne 6, 3) := by decide +kernel
theorem dX6_image_8 : decode cX6_image 8 = .ok (.ldc 81, 2) := by decide +kernel
theorem dX6_image_10 : decode cX6_image 10 = .ok (.ireturn, 1) := by decide +kernel
theorem dX6_image_11 : decode cX6_image 11 = .ok (.aload_n 0, 1) := by decide +kernel
theorem dX6_image_12 : decode cX6_image 12 = .ok (.invokevirtual 180, 3) := by decide +kernel
theorem dX6_image_15 : decode cX6_image 15 = .ok (.ifCond .ne 6, 3) := by decide +kernel
theorem dX6_image_18 : decode cX6_image 18 = .ok (.ldc 134, 2) := by decide +kernel
theorem dX6_image_20 : decode cX6_image 20 = .ok (.ireturn, 1) := by decide +kernel
theorem dX6_image_21 : decode cX6_image 21 = .ok (.aload_n 0, 1) := by decide +kernel
theorem dX6_image_22 : decode cX6_image 22 = .ok (.getfield 53, 3) := by decide +kernel
theorem dX6_image_25 : decode cX6_image 25 = .ok (.iload_n 1, 1) := by decide +kernel
theorem dX6_image_26 : decode cX6_image 26 = .ok (.aload_n 0, 1) := by decide +kernel
theorem dX6_image_27 : decode cX6_image 27 = .ok (.getfield 32, 3) := by decide +kernel
theorem dX6_image_30 : decode cX6_image 30 = .ok (.aastore, 1) := by decide +kernel
theorem dX6_image_31 : decode cX6_image 31 = .ok (.aload_n 0, 1) := by decide +kernel
theorem dX6_image_32 : decode cX6_image 32 = .ok (.getfield 57, 3) := by decide +kernel
theorem dX6_image_35 : decode cX6_image 35 = .ok (.iload_n 1, 1) := by decide +kernel
theorem dX6_image_36 : decode cX6_image 36 = .ok (.aaload, 1) := by decide +kernel
theorem dX6_image_37 : decode cX6_image 37 = .ok (.aload_n 0, 1) := by decide +kernel
theorem dX6_image_38 : decode cX6_image 38 = .ok (.getfield 39, 3) := by decide +kernel
theorem dX6_image_41 : decode cX6_image 41 = .ok (.invokevirtual 135, 3) := by decide +kernel
theorem dX6_image_44 : decode cX6_image 44 = .ok (.iconst 1, 1) := by decide +kernel
theorem dX6_image_45 : decode cX6_image 45 = .ok (.ireturn, 1) := by decide +kernel
theorem dX6_restore_0 : decode cX6_restore 0 = .ok (.iload_n 1, 1) := by decide +kernel
theorem dX6_restore_1 : decode cX6_restore 1 = .ok (.iconst 2, 1) := by decide +kernel
theorem dX6_restore_2 : decode cX6_restore 2 = .ok (.invokestatic 77, 3) := by decide +kernel
theorem dX6_restore_5 : decode cX6_restore 5 = .ok (.ifCond .ne 6, 3) := by decide +kernel
theorem dX6_restore_8 : decode cX6_restore 8 = .ok (.ldc 81, 2) := by decide +kernel
theorem dX6_restore_10 : decode cX6_restore 10 = .ok (.ireturn, 1) := by decide +kernel
theorem dX6_restore_11 : decode cX6_restore 11 = .ok (.aload_n 0, 1) := by decide +kernel
theorem dX6_restore_12 : decode cX6_restore 12 = .ok (.getfield 53, 3) := by decide +kernel
theorem dX6_restore_15 : decode cX6_restore 15 = .ok (.iload_n 1, 1) := by decide +kernel
theorem dX6_restore_16 : decode cX6_restore 16 = .ok (.aaload, 1) := by decide +kernel
theorem dX6_restore_17 : decode cX6_restore 17 = .ok (.astore_n 2, 1) := by decide +kernel
theorem dX6_restore_18 : decode cX6_restore 18 = .ok (.aload_n 2, 1) := by decide +kernel
theorem dX6_restore_19 : decode cX6_restore 19 = .ok (.ifnonnull 6, 3) := by decide +kernel
theorem dX6_restore_22 : decode cX6_restore 22 = .ok (.ldc 134, 2) := by decide +kernel
theorem dX6_restore_24 : decode cX6_restore 24 = .ok (.ireturn, 1) := by decide +kernel
theorem dX6_restore_25 : decode cX6_restore 25 = .ok (.aload_n 0, 1) := by decide +kernel
theorem dX6_restore_26 : decode cX6_restore 26 = .ok (.aload_n 2, 1) := by decide +kernel
theorem dX6_restore_27 : decode cX6_restore 27 = .ok (.putfield 32, 3) := by decide +kernel
theorem dX6_restore_30 : decode cX6_restore 30 = .ok (.aload_n 0, 1) := by decide +kernel
theorem dX6_restore_31 : decode cX6_restore 31 = .ok (.getfield 39, 3) := by decide +kernel
theorem dX6_restore_34 : decode cX6_restore 34 = .ok (.aload_n 0, 1) := by decide +kernel
theorem dX6_restore_35 : decode cX6_restore 35 = .ok (.getfield 57, 3) := by decide +kernel
theorem dX6_restore_38 : decode cX6_restore 38 = .ok (.iload_n 1, 1) := by decide +kernel
theorem dX6_restore_39 : decode cX6_restore 39 = .ok (.aaload, 1) := by decide +kernel
theorem dX6_restore_40 : decode cX6_restore 40 = .ok (.invokevirtual 135, 3) := by decide +kernel
theorem dX6_restore_43 : decode cX6_restore 43 = .ok (.aload_n 0, 1) := by decide +kernel
theorem dX6_restore_44 : decode cX6_restore 44 = .ok (.iconst 0, 1) := by decide +kernel
theorem dX6_restore_45 : decode cX6_restore 45 = .ok (.putfield 50, 3) := by decide +kernel
theorem dX6_restore_48 : decode cX6_restore 48 = .ok (.iconst 1, 1) := by decide +kernel
theorem dX6_restore_49 : decode cX6_restore 49 = .ok (.ireturn, 1) := by decide +kernel
theorem dX6_kind_0 : decode cX6_kind 0 = .ok (.aload_n 0, 1) := by decide +kernel
theorem dX6_kind_1 : decode cX6_kind 1 = .ok (.getfield 32, 3) := by decide +kernel
theorem dX6_kind_4 : decode cX6_kind 4 = .ok (.iload_n 1, 1) := by decide +kernel
theorem dX6_kind_5 : decode cX6_kind 5 = .ok (.invokevirtual 139, 3) := by decide +kernel
theorem dX6_kind_8 : decode cX6_kind 8 = .ok (.ifCond .eq 15, 3) := by decide +kernel
theorem dX6_kind_11 : decode cX6_kind 11 = .ok (.aload_n 0, 1) := by decide +kernel
theorem dX6_kind_12 : decode cX6_kind 12 = .ok (.getfield 32, 3) := by decide +kernel
theorem dX6_kind_15 : decode cX6_kind 15 = .ok (.getfield 284, 3) := by decide +kernel
theorem dX6_kind_18 : decode cX6_kind 18 = .ok (.iload_n 1, 1) := by decide +kernel
theorem dX6_kind_19 : decode cX6_kind 19 = .ok (.iaload, 1) := by decide +kernel
theorem dX6_kind_20 : decode cX6_kind 20 = .ok (.goto 5, 3) := by decide +kernel
theorem dX6_kind_23 : decode cX6_kind 23 = .ok (.ldc 81, 2) := by decide +kernel
theorem dX6_kind_25 : decode cX6_kind 25 = .ok (.ireturn, 1) := by decide +kernel
theorem dX6_as_0 : decode cX6_as 0 = .ok (.aload_n 0, 1) := by decide +kernel
theorem dX6_as_1 : decode cX6_as 1 = .ok (.getfield 32, 3) := by decide +kernel
theorem dX6_as_4 : decode cX6_as 4 = .ok (.iload_n 1, 1) := by decide +kernel
theorem dX6_as_5 : decode cX6_as 5 = .ok (.invokevirtual 139, 3) := by decide +kernel
theorem dX6_as_8 : decode cX6_as 8 = .ok (.ifCond .eq 12, 3) := by decide +kernel
theorem dX6_as_11 : decode cX6_as 11 = .ok (.iload_n 2, 1) := by decide +kernel
theorem dX6_as_12 : decode cX6_as 12 = .ok (.bipush 6, 2) := by decide +kernel
theorem dX6_as_14 : decode cX6_as 14 = .ok (.invokestatic 77, 3) := by decide +kernel
theorem dX6_as_17 : decode cX6_as 17 = .ok (.ifCond .ne 6, 3) := by decide +kernel
theorem dX6_as_20 : decode cX6_as 20 = .ok (.ldc 81, 2) := by decide +kernel
theorem dX6_as_22 : decode cX6_as 22 = .ok (.ireturn, 1) := by decide +kernel
theorem dX6_as_23 : decode cX6_as 23 = .ok (.getstatic 287, 3) := by decide +kernel
theorem dX6_as_26 : decode cX6_as 26 = .ok (.aload_n 0, 1) := by decide +kernel
theorem dX6_as_27 : decode cX6_as 27 = .ok (.getfield 32, 3) := by decide +kernel
theorem dX6_as_30 : decode cX6_as 30 = .ok (.getfield 284, 3) := by decide +kernel
theorem dX6_as_33 : decode cX6_as 33 = .ok (.iload_n 1, 1) := by decide +kernel
theorem dX6_as_34 : decode cX6_as 34 = .ok (.iaload, 1) := by decide +kernel
theorem dX6_as_35 : decode cX6_as 35 = .ok (.iaload, 1) := by decide +kernel
theorem dX6_as_36 : decode cX6_as 36 = .ok (.iload_n 2, 1) := by decide +kernel
theorem dX6_as_37 : decode cX6_as 37 = .ok (.ishr, 1) := by decide +kernel
theorem dX6_as_38 : decode cX6_as 38 = .ok (.iconst 1, 1) := by decide +kernel
theorem dX6_as_39 : decode cX6_as 39 = .ok (.iand, 1) := by decide +kernel
theorem dX6_as_40 : decode cX6_as 40 = .ok (.ifCond .ne 9, 3) := by decide +kernel
theorem dX6_as_43 : decode cX6_as 43 = .ok (.aload_n 0, 1) := by decide +kernel
theorem dX6_as_44 : decode cX6_as 44 = .ok (.iconst 3, 1) := by decide +kernel
theorem dX6_as_45 : decode cX6_as 45 = .ok (.invokevirtual 82, 3) := by decide +kernel
theorem dX6_as_48 : decode cX6_as 48 = .ok (.ireturn, 1) := by decide +kernel
theorem dX6_as_49 : decode cX6_as 49 = .ok (.aload_n 0, 1) := by decide +kernel
theorem dX6_as_50 : decode cX6_as 50 = .ok (.iload_n 1, 1) := by decide +kernel
theorem dX6_as_51 : decode cX6_as 51 = .ok (.invokevirtual 89, 3) := by decide +kernel
theorem dX6_as_54 : decode cX6_as 54 = .ok (.ireturn, 1) := by decide +kernel
theorem dX6_ask_0 : decode cX6_ask 0 = .ok (.aload_n 0, 1) := by decide +kernel
theorem dX6_ask_1 : decode cX6_ask 1 = .ok (.getfield 32, 3) := by decide +kernel
theorem dX6_ask_4 : decode cX6_ask 4 = .ok (.iload_n 1, 1) := by decide +kernel
theorem dX6_ask_5 : decode cX6_ask 5 = .ok (.invokevirtual 139, 3) := by decide +kernel
theorem dX6_ask_8 : decode cX6_ask 8 = .ok (.ifCond .eq 11, 3) := by decide +kernel
theorem dX6_ask_11 : decode cX6_ask 11 = .ok (.iload_n 2, 1) := by decide +kernel
theorem dX6_ask_12 : decode cX6_ask 12 = .ok (.iconst 2, 1) := by decide +kernel
theorem dX6_ask_13 : decode cX6_ask 13 = .ok (.invokestatic 77, 3) := by decide +kernel
theorem dX6_ask_16 : decode cX6_ask 16 = .ok (.ifCond .ne 6, 3) := by decide +kernel
theorem dX6_ask_19 : decode cX6_ask 19 = .ok (.ldc 81, 2) := by decide +kernel
theorem dX6_ask_21 : decode cX6_ask 21 = .ok (.ireturn, 1) := by decide +kernel
theorem dX6_ask_22 : decode cX6_ask 22 = .ok (.aload_n 0, 1) := by decide +kernel
theorem dX6_ask_23 : decode cX6_ask 23 = .ok (.getfield 73, 3) := by decide +kernel
theorem dX6_ask_26 : decode cX6_ask 26 = .ok (.iload_n 1, 1) := by decide +kernel
theorem dX6_ask_27 : decode cX6_ask 27 = .ok (.aload_n 0, 1) := by decide +kernel
theorem dX6_ask_28 : decode cX6_ask 28 = .ok (.getfield 32, 3) := by decide +kernel
theorem dX6_ask_31 : decode cX6_ask 31 = .ok (.getfield 284, 3) := by decide +kernel
theorem dX6_ask_34 : decode cX6_ask 34 = .ok (.iload_n 1, 1) := by decide +kernel
theorem dX6_ask_35 : decode cX6_ask 35 = .ok (.iaload, 1) := by decide +kernel
theorem dX6_ask_36 : decode cX6_ask 36 = .ok (.aload_n 0, 1) := by decide +kernel
theorem dX6_ask_37 : decode cX6_ask 37 = .ok (.getfield 32, 3) := by decide +kernel
theorem dX6_ask_40 : decode cX6_ask 40 = .ok (.getfield 197, 3) := by decide +kernel
theorem dX6_ask_43 : decode cX6_ask 43 = .ok (.iload_n 1, 1) := by decide +kernel
theorem dX6_ask_44 : decode cX6_ask 44 = .ok (.iaload, 1) := by decide +kernel
theorem dX6_ask_45 : decode cX6_ask 45 = .ok (.aload_n 0, 1) := by decide +kernel
theorem dX6_ask_46 : decode cX6_ask 46 = .ok (.getfield 39, 3) := by decide +kernel
theorem dX6_ask_49 : decode cX6_ask 49 = .ok (.getfield 165, 3) := by decide +kernel
theorem dX6_ask_52 : decode cX6_ask 52 = .ok (.iload_n 1, 1) := by decide +kernel
theorem dX6_ask_53 : decode cX6_ask 53 = .ok (.iaload, 1) := by decide +kernel
theorem dX6_ask_54 : decode cX6_ask 54 = .ok (.invokevirtual 290, 3) := by decide +kernel
theorem dX6_ask_57 : decode cX6_ask 57 = .ok (.aload_n 0, 1) := by decide +kernel
theorem dX6_ask_58 : decode cX6_ask 58 = .ok (.getfield 73, 3) := by decide +kernel
theorem dX6_ask_61 : decode cX6_ask 61 = .ok (.iload_n 2, 1) := by decide +kernel
theorem dX6_ask_62 : decode cX6_ask 62 = .ok (.iconst 0, 1) := by decide +kernel
theorem dX6_ask_63 : decode cX6_ask 63 = .ok (.invokestatic 293, 3) := by decide +kernel
theorem dX6_ask_66 : decode cX6_ask 66 = .ok (.ireturn, 1) := by decide +kernel
theorem dX6_trace_0 : decode cX6_trace 0 = .ok (.iload_n 1, 1) := by decide +kernel
theorem dX6_trace_1 : decode cX6_trace 1 = .ok (.aload_n 0, 1) := by decide +kernel
theorem dX6_trace_2 : decode cX6_trace 2 = .ok (.getfield 73, 3) := by decide +kernel
theorem dX6_trace_5 : decode cX6_trace 5 = .ok (.getfield 297, 3) := by decide +kernel
theorem dX6_trace_8 : decode cX6_trace 8 = .ok (.invokestatic 77, 3) := by decide +kernel
theorem dX6_trace_11 : decode cX6_trace 11 = .ok (.ifCond .eq 15, 3) := by decide +kernel
theorem dX6_trace_14 : decode cX6_trace 14 = .ok (.aload_n 0, 1) := by decide +kernel
theorem dX6_trace_15 : decode cX6_trace 15 = .ok (.getfield 73, 3) := by decide +kernel
theorem dX6_trace_18 : decode cX6_trace 18 = .ok (.getfield 300, 3) := by decide +kernel
theorem dX6_trace_21 : decode cX6_trace 21 = .ok (.iload_n 1, 1) := by decide +kernel
theorem dX6_trace_22 : decode cX6_trace 22 = .ok (.iaload, 1) := by decide +kernel
theorem dX6_trace_23 : decode cX6_trace 23 = .ok (.goto 5, 3) := by decide +kernel
theorem dX6_trace_26 : decode cX6_trace 26 = .ok (.ldc 218, 2) := by decide +kernel
theorem dX6_trace_28 : decode cX6_trace 28 = .ok (.ireturn, 1) := by decide +kernel
theorem dX6_count_0 : decode cX6_count 0 = .ok (.iload_n 1, 1) := by decide +kernel
theorem dX6_count_1 : decode cX6_count 1 = .ok (.tableswitch 102 0 7 #[47, 52, 60, 68, 76, 84, 92, 97], 47) := by decide +kernel
theorem dX6_count_48 : decode cX6_count 48 = .ok (.aload_n 0, 1) := by decide +kernel
theorem dX6_count_49 : decode cX6_count 49 = .ok (.invokevirtual 303, 3) := by decide +kernel
theorem dX6_count_52 : decode cX6_count 52 = .ok (.ireturn, 1) := by decide +kernel
theorem dX6_count_53 : decode cX6_count 53 = .ok (.aload_n 0, 1) := by decide +kernel
theorem dX6_count_54 : decode cX6_count 54 = .ok (.getfield 32, 3) := by decide +kernel
theorem dX6_count_57 : decode cX6_count 57 = .ok (.getfield 131, 3) := by decide +kernel
theorem dX6_count_60 : decode cX6_count 60 = .ok (.ireturn, 1) := by decide +kernel
theorem dX6_count_61 : decode cX6_count 61 = .ok (.aload_n 0, 1) := by decide +kernel
theorem dX6_count_62 : decode cX6_count 62 = .ok (.getfield 32, 3) := by decide +kernel
theorem dX6_count_65 : decode cX6_count 65 = .ok (.getfield 306, 3) := by decide +kernel
theorem dX6_count_68 : decode cX6_count 68 = .ok (.ireturn, 1) := by decide +kernel
theorem dX6_count_69 : decode cX6_count 69 = .ok (.aload_n 0, 1) := by decide +kernel
theorem dX6_count_70 : decode cX6_count 70 = .ok (.getfield 32, 3) := by decide +kernel
theorem dX6_count_73 : decode cX6_count 73 = .ok (.getfield 248, 3) := by decide +kernel
end
section
theorem dX6_count_76 : decode cX6_count 76 = .ok (.ireturn, 1) := by decide +kernel
theorem dX6_count_77 : decode cX6_count 77 = .ok (.aload_n 0, 1) := by decide +kernel
theorem dX6_count_78 : decode cX6_count 78 = .ok (.getfield 39, 3) := by decide +kernel
theorem dX6_count_81 : decode cX6_count 81 = .ok (.getfield 149, 3) := by decide +kernel
theorem dX6_count_84 : decode cX6_count 84 = .ok (.ireturn, 1) := by decide +kernel
theorem dX6_count_85 : decode cX6_count 85 = .ok (.aload_n 0, 1) := by decide +kernel
theorem dX6_count_86 : decode cX6_count 86 = .ok (.getfield 39, 3) := by decide +kernel
theorem dX6_count_89 : decode cX6_count 89 = .ok (.invokevirtual 206, 3) := by decide +kernel
theorem dX6_count_92 : decode cX6_count 92 = .ok (.ireturn, 1) := by decide +kernel
theorem dX6_count_93 : decode cX6_count 93 = .ok (.aload_n 0, 1) := by decide +kernel
theorem dX6_count_94 : decode cX6_count 94 = .ok (.getfield 50, 3) := by decide +kernel
theorem dX6_count_97 : decode cX6_count 97 = .ok (.ireturn, 1) := by decide +kernel
theorem dX6_count_98 : decode cX6_count 98 = .ok (.aload_n 0, 1) := by decide +kernel
theorem dX6_count_99 : decode cX6_count 99 = .ok (.getfield 19, 3) := by decide +kernel
theorem dX6_count_102 : decode cX6_count 102 = .ok (.ireturn, 1) := by decide +kernel
theorem dX6_count_103 : decode cX6_count 103 = .ok (.ldc 81, 2) := by decide +kernel
theorem dX6_count_105 : decode cX6_count 105 = .ok (.ireturn, 1) := by decide +kernel
theorem dX6_status_0 : decode cX6_status 0 = .ok (.aload_n 0, 1) := by decide +kernel
theorem dX6_status_1 : decode cX6_status 1 = .ok (.getfield 26, 3) := by decide +kernel
theorem dX6_status_4 : decode cX6_status 4 = .ok (.ireturn, 1) := by decide +kernel
theorem dX6_isBelow_0 : decode cX6_isBelow 0 = .ok (.iload_n 0, 1) := by decide +kernel
theorem dX6_isBelow_1 : decode cX6_isBelow 1 = .ok (.ifCond .lt 12, 3) := by decide +kernel
theorem dX6_isBelow_4 : decode cX6_isBelow 4 = .ok (.iload_n 0, 1) := by decide +kernel
theorem dX6_isBelow_5 : decode cX6_isBelow 5 = .ok (.iload_n 1, 1) := by decide +kernel
theorem dX6_isBelow_6 : decode cX6_isBelow 6 = .ok (.if_icmp .ge 7, 3) := by decide +kernel
theorem dX6_isBelow_9 : decode cX6_isBelow 9 = .ok (.iconst 1, 1) := by decide +kernel
theorem dX6_isBelow_10 : decode cX6_isBelow 10 = .ok (.goto 4, 3) := by decide +kernel
theorem dX6_isBelow_13 : decode cX6_isBelow 13 = .ok (.iconst 0, 1) := by decide +kernel
theorem dX6_isBelow_14 : decode cX6_isBelow 14 = .ok (.ireturn, 1) := by decide +kernel
theorem dX6_isLines_0 : decode cX6_isLines 0 = .ok (.iload_n 0, 1) := by decide +kernel
theorem dX6_isLines_1 : decode cX6_isLines 1 = .ok (.iconst 1, 1) := by decide +kernel
theorem dX6_isLines_2 : decode cX6_isLines 2 = .ok (.if_icmp .lt 13, 3) := by decide +kernel
theorem dX6_isLines_5 : decode cX6_isLines 5 = .ok (.iload_n 0, 1) := by decide +kernel
theorem dX6_isLines_6 : decode cX6_isLines 6 = .ok (.bipush 30, 2) := by decide +kernel
theorem dX6_isLines_8 : decode cX6_isLines 8 = .ok (.if_icmp .gt 7, 3) := by decide +kernel
theorem dX6_isLines_11 : decode cX6_isLines 11 = .ok (.iconst 1, 1) := by decide +kernel
theorem dX6_isLines_12 : decode cX6_isLines 12 = .ok (.goto 4, 3) := by decide +kernel
theorem dX6_isLines_15 : decode cX6_isLines 15 = .ok (.iconst 0, 1) := by decide +kernel
theorem dX6_isLines_16 : decode cX6_isLines 16 = .ok (.ireturn, 1) := by decide +kernel
theorem dX6_found_0 : decode cX6_found 0 = .ok (.aload_n 0, 1) := by decide +kernel
theorem dX6_found_1 : decode cX6_found 1 = .ok (.iload_n 1, 1) := by decide +kernel
theorem dX6_found_2 : decode cX6_found 2 = .ok (.putfield 26, 3) := by decide +kernel
theorem dX6_found_5 : decode cX6_found 5 = .ok (.ldc_w 309, 3) := by decide +kernel
theorem dX6_found_8 : decode cX6_found 8 = .ok (.iload_n 1, 1) := by decide +kernel
theorem dX6_found_9 : decode cX6_found 9 = .ok (.isub, 1) := by decide +kernel
theorem dX6_found_10 : decode cX6_found 10 = .ok (.ireturn, 1) := by decide +kernel
theorem dX6_foundNone_0 : decode cX6_foundNone 0 = .ok (.aload_n 0, 1) := by decide +kernel
theorem dX6_foundNone_1 : decode cX6_foundNone 1 = .ok (.iconst 0, 1) := by decide +kernel
theorem dX6_foundNone_2 : decode cX6_foundNone 2 = .ok (.putfield 26, 3) := by decide +kernel
theorem dX6_foundNone_5 : decode cX6_foundNone 5 = .ok (.iload_n 1, 1) := by decide +kernel
theorem dX6_foundNone_6 : decode cX6_foundNone 6 = .ok (.ireturn, 1) := by decide +kernel
theorem dX6_hasCastle_0 : decode cX6_hasCastle 0 = .ok (.aload_n 0, 1) := by decide +kernel
theorem dX6_hasCastle_1 : decode cX6_hasCastle 1 = .ok (.getfield 32, 3) := by decide +kernel
theorem dX6_hasCastle_4 : decode cX6_hasCastle 4 = .ok (.getfield 131, 3) := by decide +kernel
theorem dX6_hasCastle_7 : decode cX6_hasCastle 7 = .ok (.ifCond .le 7, 3) := by decide +kernel
theorem dX6_hasCastle_10 : decode cX6_hasCastle 10 = .ok (.iconst 1, 1) := by decide +kernel
theorem dX6_hasCastle_11 : decode cX6_hasCastle 11 = .ok (.goto 4, 3) := by decide +kernel
theorem dX6_hasCastle_14 : decode cX6_hasCastle 14 = .ok (.iconst 0, 1) := by decide +kernel
theorem dX6_hasCastle_15 : decode cX6_hasCastle 15 = .ok (.ireturn, 1) := by decide +kernel
theorem dX6_rowsThere_0 : decode cX6_rowsThere 0 = .ok (.iconst 0, 1) := by decide +kernel
theorem dX6_rowsThere_1 : decode cX6_rowsThere 1 = .ok (.istore_n 1, 1) := by decide +kernel
theorem dX6_rowsThere_2 : decode cX6_rowsThere 2 = .ok (.iconst 0, 1) := by decide +kernel
theorem dX6_rowsThere_3 : decode cX6_rowsThere 3 = .ok (.istore_n 2, 1) := by decide +kernel
theorem dX6_rowsThere_4 : decode cX6_rowsThere 4 = .ok (.iload_n 2, 1) := by decide +kernel
theorem dX6_rowsThere_5 : decode cX6_rowsThere 5 = .ok (.bipush 8, 2) := by decide +kernel
theorem dX6_rowsThere_7 : decode cX6_rowsThere 7 = .ok (.if_icmp .ge 21, 3) := by decide +kernel
theorem dX6_rowsThere_10 : decode cX6_rowsThere 10 = .ok (.aload_n 0, 1) := by decide +kernel
theorem dX6_rowsThere_11 : decode cX6_rowsThere 11 = .ok (.getfield 11, 3) := by decide +kernel
theorem dX6_rowsThere_14 : decode cX6_rowsThere 14 = .ok (.iload_n 2, 1) := by decide +kernel
theorem dX6_rowsThere_15 : decode cX6_rowsThere 15 = .ok (.aaload, 1) := by decide +kernel
theorem dX6_rowsThere_16 : decode cX6_rowsThere 16 = .ok (.ifnull 6, 3) := by decide +kernel
theorem dX6_rowsThere_19 : decode cX6_rowsThere 19 = .ok (.iinc 1 1, 3) := by decide +kernel
theorem dX6_rowsThere_22 : decode cX6_rowsThere 22 = .ok (.iinc 2 1, 3) := by decide +kernel
theorem dX6_rowsThere_25 : decode cX6_rowsThere 25 = .ok (.goto (-21), 3) := by decide +kernel
theorem dX6_rowsThere_28 : decode cX6_rowsThere 28 = .ok (.iload_n 1, 1) := by decide +kernel
theorem dX6_rowsThere_29 : decode cX6_rowsThere 29 = .ok (.ireturn, 1) := by decide +kernel
theorem dX6_beginAct_0 : decode cX6_beginAct 0 = .ok (.aload_n 0, 1) := by decide +kernel
theorem dX6_beginAct_1 : decode cX6_beginAct 1 = .ok (.getfield 43, 3) := by decide +kernel
theorem dX6_beginAct_4 : decode cX6_beginAct 4 = .ok (.aload_n 0, 1) := by decide +kernel
theorem dX6_beginAct_5 : decode cX6_beginAct 5 = .ok (.getfield 47, 3) := by decide +kernel
theorem dX6_beginAct_8 : decode cX6_beginAct 8 = .ok (.aaload, 1) := by decide +kernel
theorem dX6_beginAct_9 : decode cX6_beginAct 9 = .ok (.aload_n 0, 1) := by decide +kernel
theorem dX6_beginAct_10 : decode cX6_beginAct 10 = .ok (.getfield 39, 3) := by decide +kernel
theorem dX6_beginAct_13 : decode cX6_beginAct 13 = .ok (.invokevirtual 135, 3) := by decide +kernel
theorem dX6_beginAct_16 : decode cX6_beginAct 16 = .ok (.aload_n 0, 1) := by decide +kernel
theorem dX6_beginAct_17 : decode cX6_beginAct 17 = .ok (.aload_n 0, 1) := by decide +kernel
theorem dX6_beginAct_18 : decode cX6_beginAct 18 = .ok (.getfield 47, 3) := by decide +kernel
theorem dX6_beginAct_21 : decode cX6_beginAct 21 = .ok (.bipush 23, 2) := by decide +kernel
theorem dX6_beginAct_23 : decode cX6_beginAct 23 = .ok (.if_icmp .ne 7, 3) := by decide +kernel
theorem dX6_beginAct_26 : decode cX6_beginAct 26 = .ok (.iconst 0, 1) := by decide +kernel
theorem dX6_beginAct_27 : decode cX6_beginAct 27 = .ok (.goto 9, 3) := by decide +kernel
theorem dX6_beginAct_30 : decode cX6_beginAct 30 = .ok (.aload_n 0, 1) := by decide +kernel
theorem dX6_beginAct_31 : decode cX6_beginAct 31 = .ok (.getfield 47, 3) := by decide +kernel
theorem dX6_beginAct_34 : decode cX6_beginAct 34 = .ok (.iconst 1, 1) := by decide +kernel
theorem dX6_beginAct_35 : decode cX6_beginAct 35 = .ok (.iadd, 1) := by decide +kernel
theorem dX6_beginAct_36 : decode cX6_beginAct 36 = .ok (.putfield 47, 3) := by decide +kernel
theorem dX6_beginAct_39 : decode cX6_beginAct 39 = .ok (.aload_n 0, 1) := by decide +kernel
theorem dX6_beginAct_40 : decode cX6_beginAct 40 = .ok (.bipush 24, 2) := by decide +kernel
theorem dX6_beginAct_42 : decode cX6_beginAct 42 = .ok (.aload_n 0, 1) := by decide +kernel
theorem dX6_beginAct_43 : decode cX6_beginAct 43 = .ok (.getfield 50, 3) := by decide +kernel
theorem dX6_beginAct_46 : decode cX6_beginAct 46 = .ok (.iconst 1, 1) := by decide +kernel
theorem dX6_beginAct_47 : decode cX6_beginAct 47 = .ok (.iadd, 1) := by decide +kernel
theorem dX6_beginAct_48 : decode cX6_beginAct 48 = .ok (.invokestatic 174, 3) := by decide +kernel
theorem dX6_beginAct_51 : decode cX6_beginAct 51 = .ok (.putfield 50, 3) := by decide +kernel
theorem dX6_beginAct_54 : decode cX6_beginAct 54 = .ok (.return_, 1) := by decide +kernel
theorem dX6_standingNow_0 : decode cX6_standingNow 0 = .ok (.aload_n 0, 1) := by decide +kernel
theorem dX6_standingNow_1 : decode cX6_standingNow 1 = .ok (.getfield 32, 3) := by decide +kernel
theorem dX6_standingNow_4 : decode cX6_standingNow 4 = .ok (.aload_n 0, 1) := by decide +kernel
theorem dX6_standingNow_5 : decode cX6_standingNow 5 = .ok (.getfield 39, 3) := by decide +kernel
theorem dX6_standingNow_8 : decode cX6_standingNow 8 = .ok (.invokevirtual 200, 3) := by decide +kernel
theorem dX6_standingNow_11 : decode cX6_standingNow 11 = .ok (.invokevirtual 215, 3) := by decide +kernel
theorem dX6_standingNow_14 : decode cX6_standingNow 14 = .ok (.ireturn, 1) := by decide +kernel
theorem dX6_fallingWithout_0 : decode cX6_fallingWithout 0 = .ok (.aload_n 0, 1) := by decide +kernel
theorem dX6_fallingWithout_1 : decode cX6_fallingWithout 1 = .ok (.getfield 39, 3) := by decide +kernel
theorem dX6_fallingWithout_4 : decode cX6_fallingWithout 4 = .ok (.invokevirtual 200, 3) := by decide +kernel
theorem dX6_fallingWithout_7 : decode cX6_fallingWithout 7 = .ok (.istore_n 2, 1) := by decide +kernel
theorem dX6_fallingWithout_8 : decode cX6_fallingWithout 8 = .ok (.aload_n 0, 1) := by decide +kernel
theorem dX6_fallingWithout_9 : decode cX6_fallingWithout 9 = .ok (.getfield 32, 3) := by decide +kernel
theorem dX6_fallingWithout_12 : decode cX6_fallingWithout 12 = .ok (.iload_n 2, 1) := by decide +kernel
theorem dX6_fallingWithout_13 : decode cX6_fallingWithout 13 = .ok (.invokevirtual 215, 3) := by decide +kernel
theorem dX6_fallingWithout_16 : decode cX6_fallingWithout 16 = .ok (.aload_n 0, 1) := by decide +kernel
theorem dX6_fallingWithout_17 : decode cX6_fallingWithout 17 = .ok (.getfield 32, 3) := by decide +kernel
theorem dX6_fallingWithout_20 : decode cX6_fallingWithout 20 = .ok (.iload_n 2, 1) := by decide +kernel
theorem dX6_fallingWithout_21 : decode cX6_fallingWithout 21 = .ok (.iload_n 1, 1) := by decide +kernel
theorem dX6_fallingWithout_22 : decode cX6_fallingWithout 22 = .ok (.iconst (-1), 1) := by decide +kernel
theorem dX6_fallingWithout_23 : decode cX6_fallingWithout 23 = .ok (.ixor, 1) := by decide +kernel
theorem dX6_fallingWithout_24 : decode cX6_fallingWithout 24 = .ok (.iand, 1) := by decide +kernel
theorem dX6_fallingWithout_25 : decode cX6_fallingWithout 25 = .ok (.invokevirtual 215, 3) := by decide +kernel
theorem dX6_fallingWithout_28 : decode cX6_fallingWithout 28 = .ok (.iconst (-1), 1) := by decide +kernel
theorem dX6_fallingWithout_29 : decode cX6_fallingWithout 29 = .ok (.ixor, 1) := by decide +kernel
theorem dX6_fallingWithout_30 : decode cX6_fallingWithout 30 = .ok (.iand, 1) := by decide +kernel
theorem dX6_fallingWithout_31 : decode cX6_fallingWithout 31 = .ok (.ireturn, 1) := by decide +kernel
theorem dX6_tellsWritings_0 : decode cX6_tellsWritings 0 = .ok (.iconst 0, 1) := by decide +kernel
theorem dX6_tellsWritings_1 : decode cX6_tellsWritings 1 = .ok (.istore 4, 2) := by decide +kernel
theorem dX6_tellsWritings_3 : decode cX6_tellsWritings 3 = .ok (.iload 4, 2) := by decide +kernel
theorem dX6_tellsWritings_5 : decode cX6_tellsWritings 5 = .ok (.iload_n 3, 1) := by decide +kernel
theorem dX6_tellsWritings_6 : decode cX6_tellsWritings 6 = .ok (.if_icmp .ge 45, 3) := by decide +kernel
theorem dX6_tellsWritings_9 : decode cX6_tellsWritings 9 = .ok (.aload_n 0, 1) := by decide +kernel
theorem dX6_tellsWritings_10 : decode cX6_tellsWritings 10 = .ok (.getfield 32, 3) := by decide +kernel
theorem dX6_tellsWritings_13 : decode cX6_tellsWritings 13 = .ok (.aload_n 1, 1) := by decide +kernel
theorem dX6_tellsWritings_14 : decode cX6_tellsWritings 14 = .ok (.iload_n 2, 1) := by decide +kernel
theorem dX6_tellsWritings_15 : decode cX6_tellsWritings 15 = .ok (.iconst 2, 1) := by decide +kernel
theorem dX6_tellsWritings_16 : decode cX6_tellsWritings 16 = .ok (.iload 4, 2) := by decide +kernel
theorem dX6_tellsWritings_18 : decode cX6_tellsWritings 18 = .ok (.imul, 1) := by decide +kernel
theorem dX6_tellsWritings_19 : decode cX6_tellsWritings 19 = .ok (.iadd, 1) := by decide +kernel
theorem dX6_tellsWritings_20 : decode cX6_tellsWritings 20 = .ok (.iaload, 1) := by decide +kernel
theorem dX6_tellsWritings_21 : decode cX6_tellsWritings 21 = .ok (.invokevirtual 139, 3) := by decide +kernel
theorem dX6_tellsWritings_24 : decode cX6_tellsWritings 24 = .ok (.ifCond .eq 19, 3) := by decide +kernel
theorem dX6_tellsWritings_27 : decode cX6_tellsWritings 27 = .ok (.aload_n 1, 1) := by decide +kernel
theorem dX6_tellsWritings_28 : decode cX6_tellsWritings 28 = .ok (.iload_n 2, 1) := by decide +kernel
theorem dX6_tellsWritings_29 : decode cX6_tellsWritings 29 = .ok (.iconst 2, 1) := by decide +kernel
theorem dX6_tellsWritings_30 : decode cX6_tellsWritings 30 = .ok (.iload 4, 2) := by decide +kernel
theorem dX6_tellsWritings_32 : decode cX6_tellsWritings 32 = .ok (.imul, 1) := by decide +kernel
theorem dX6_tellsWritings_33 : decode cX6_tellsWritings 33 = .ok (.iadd, 1) := by decide +kernel
theorem dX6_tellsWritings_34 : decode cX6_tellsWritings 34 = .ok (.iconst 1, 1) := by decide +kernel
theorem dX6_tellsWritings_35 : decode cX6_tellsWritings 35 = .ok (.iadd, 1) := by decide +kernel
theorem dX6_tellsWritings_36 : decode cX6_tellsWritings 36 = .ok (.iaload, 1) := by decide +kernel
theorem dX6_tellsWritings_37 : decode cX6_tellsWritings 37 = .ok (.invokestatic 143, 3) := by decide +kernel
theorem dX6_tellsWritings_40 : decode cX6_tellsWritings 40 = .ok (.ifCond .ne 5, 3) := by decide +kernel
theorem dX6_tellsWritings_43 : decode cX6_tellsWritings 43 = .ok (.iconst 0, 1) := by decide +kernel
theorem dX6_tellsWritings_44 : decode cX6_tellsWritings 44 = .ok (.ireturn, 1) := by decide +kernel
theorem dX6_tellsWritings_45 : decode cX6_tellsWritings 45 = .ok (.iinc 4 1, 3) := by decide +kernel
theorem dX6_tellsWritings_48 : decode cX6_tellsWritings 48 = .ok (.goto (-45), 3) := by decide +kernel
theorem dX6_tellsWritings_51 : decode cX6_tellsWritings 51 = .ok (.iconst 1, 1) := by decide +kernel
theorem dX6_tellsWritings_52 : decode cX6_tellsWritings 52 = .ok (.ireturn, 1) := by decide +kernel
theorem dX6_tryBlocks_0 : decode cX6_tryBlocks 0 = .ok (.iload_n 1, 1) := by decide +kernel
theorem dX6_tryBlocks_1 : decode cX6_tryBlocks 1 = .ok (.aload_n 0, 1) := by decide +kernel
theorem dX6_tryBlocks_2 : decode cX6_tryBlocks 2 = .ok (.getfield 310, 3) := by decide +kernel
theorem dX6_tryBlocks_5 : decode cX6_tryBlocks 5 = .ok (.if_icmp .lt 8, 3) := by decide +kernel
theorem dX6_tryBlocks_8 : decode cX6_tryBlocks 8 = .ok (.aload_n 0, 1) := by decide +kernel
theorem dX6_tryBlocks_9 : decode cX6_tryBlocks 9 = .ok (.invokevirtual 313, 3) := by decide +kernel
theorem dX6_tryBlocks_12 : decode cX6_tryBlocks 12 = .ok (.return_, 1) := by decide +kernel
theorem dX6_tryBlocks_13 : decode cX6_tryBlocks 13 = .ok (.aload_n 0, 1) := by decide +kernel
theorem dX6_tryBlocks_14 : decode cX6_tryBlocks 14 = .ok (.getfield 231, 3) := by decide +kernel
theorem dX6_tryBlocks_17 : decode cX6_tryBlocks 17 = .ok (.iload_n 1, 1) := by decide +kernel
theorem dX6_tryBlocks_18 : decode cX6_tryBlocks 18 = .ok (.iaload, 1) := by decide +kernel
theorem dX6_tryBlocks_19 : decode cX6_tryBlocks 19 = .ok (.istore_n 2, 1) := by decide +kernel
theorem dX6_tryBlocks_20 : decode cX6_tryBlocks 20 = .ok (.aload_n 0, 1) := by decide +kernel
theorem dX6_tryBlocks_21 : decode cX6_tryBlocks 21 = .ok (.getfield 316, 3) := by decide +kernel
theorem dX6_tryBlocks_24 : decode cX6_tryBlocks 24 = .ok (.getfield 156, 3) := by decide +kernel
theorem dX6_tryBlocks_27 : decode cX6_tryBlocks 27 = .ok (.astore_n 3, 1) := by decide +kernel
theorem dX6_tryBlocks_28 : decode cX6_tryBlocks 28 = .ok (.iconst 0, 1) := by decide +kernel
theorem dX6_tryBlocks_29 : decode cX6_tryBlocks 29 = .ok (.istore 4, 2) := by decide +kernel
theorem dX6_tryBlocks_31 : decode cX6_tryBlocks 31 = .ok (.iload 4, 2) := by decide +kernel
theorem dX6_tryBlocks_33 : decode cX6_tryBlocks 33 = .ok (.aload_n 0, 1) := by decide +kernel
theorem dX6_tryBlocks_34 : decode cX6_tryBlocks 34 = .ok (.getfield 319, 3) := by decide +kernel
theorem dX6_tryBlocks_37 : decode cX6_tryBlocks 37 = .ok (.getfield 131, 3) := by decide +kernel
theorem dX6_tryBlocks_40 : decode cX6_tryBlocks 40 = .ok (.if_icmp .ge 59, 3) := by decide +kernel
theorem dX6_tryBlocks_43 : decode cX6_tryBlocks 43 = .ok (.aload_n 3, 1) := by decide +kernel
theorem dX6_tryBlocks_44 : decode cX6_tryBlocks 44 = .ok (.iload 4, 2) := by decide +kernel
theorem dX6_tryBlocks_46 : decode cX6_tryBlocks 46 = .ok (.iaload, 1) := by decide +kernel
theorem dX6_tryBlocks_47 : decode cX6_tryBlocks 47 = .ok (.iload_n 2, 1) := by decide +kernel
theorem dX6_tryBlocks_48 : decode cX6_tryBlocks 48 = .ok (.if_icmp .lt 45, 3) := by decide +kernel
theorem dX6_tryBlocks_51 : decode cX6_tryBlocks 51 = .ok (.aload_n 3, 1) := by decide +kernel
theorem dX6_tryBlocks_52 : decode cX6_tryBlocks 52 = .ok (.iload 4, 2) := by decide +kernel
theorem dX6_tryBlocks_54 : decode cX6_tryBlocks 54 = .ok (.dup2, 1) := by decide +kernel
theorem dX6_tryBlocks_55 : decode cX6_tryBlocks 55 = .ok (.iaload, 1) := by decide +kernel
theorem dX6_tryBlocks_56 : decode cX6_tryBlocks 56 = .ok (.iload_n 2, 1) := by decide +kernel
theorem dX6_tryBlocks_57 : decode cX6_tryBlocks 57 = .ok (.isub, 1) := by decide +kernel
theorem dX6_tryBlocks_58 : decode cX6_tryBlocks 58 = .ok (.iastore, 1) := by decide +kernel
theorem dX6_tryBlocks_59 : decode cX6_tryBlocks 59 = .ok (.aload_n 0, 1) := by decide +kernel
theorem dX6_tryBlocks_60 : decode cX6_tryBlocks 60 = .ok (.getfield 320, 3) := by decide +kernel
theorem dX6_tryBlocks_63 : decode cX6_tryBlocks 63 = .ok (.iload_n 1, 1) := by decide +kernel
theorem dX6_tryBlocks_64 : decode cX6_tryBlocks 64 = .ok (.iload 4, 2) := by decide +kernel
theorem dX6_tryBlocks_66 : decode cX6_tryBlocks 66 = .ok (.iastore, 1) := by decide +kernel
theorem dX6_tryBlocks_67 : decode cX6_tryBlocks 67 = .ok (.aload_n 0, 1) := by decide +kernel
theorem dX6_tryBlocks_68 : decode cX6_tryBlocks 68 = .ok (.invokevirtual 323, 3) := by decide +kernel
theorem dX6_tryBlocks_71 : decode cX6_tryBlocks 71 = .ok (.aload_n 0, 1) := by decide +kernel
theorem dX6_tryBlocks_72 : decode cX6_tryBlocks 72 = .ok (.getfield 238, 3) := by decide +kernel
theorem dX6_tryBlocks_75 : decode cX6_tryBlocks 75 = .ok (.if_icmp .le 10, 3) := by decide +kernel
theorem dX6_tryBlocks_78 : decode cX6_tryBlocks 78 = .ok (.aload_n 0, 1) := by decide +kernel
theorem dX6_tryBlocks_79 : decode cX6_tryBlocks 79 = .ok (.iload_n 1, 1) := by decide +kernel
theorem dX6_tryBlocks_80 : decode cX6_tryBlocks 80 = .ok (.iconst 1, 1) := by decide +kernel
theorem dX6_tryBlocks_81 : decode cX6_tryBlocks 81 = .ok (.iadd, 1) := by decide +kernel
theorem dX6_tryBlocks_82 : decode cX6_tryBlocks 82 = .ok (.invokestatic 234, 3) := by decide +kernel
theorem dX6_tryBlocks_85 : decode cX6_tryBlocks 85 = .ok (.aload_n 3, 1) := by decide +kernel
theorem dX6_tryBlocks_86 : decode cX6_tryBlocks 86 = .ok (.iload 4, 2) := by decide +kernel
theorem dX6_tryBlocks_88 : decode cX6_tryBlocks 88 = .ok (.dup2, 1) := by decide +kernel
theorem dX6_tryBlocks_89 : decode cX6_tryBlocks 89 = .ok (.iaload, 1) := by decide +kernel
theorem dX6_tryBlocks_90 : decode cX6_tryBlocks 90 = .ok (.iload_n 2, 1) := by decide +kernel
theorem dX6_tryBlocks_91 : decode cX6_tryBlocks 91 = .ok (.iadd, 1) := by decide +kernel
theorem dX6_tryBlocks_92 : decode cX6_tryBlocks 92 = .ok (.iastore, 1) := by decide +kernel
theorem dX6_tryBlocks_93 : decode cX6_tryBlocks 93 = .ok (.iinc 4 1, 3) := by decide +kernel
theorem dX6_tryBlocks_96 : decode cX6_tryBlocks 96 = .ok (.goto (-65), 3) := by decide +kernel
theorem dX6_tryBlocks_99 : decode cX6_tryBlocks 99 = .ok (.return_, 1) := by decide +kernel
theorem dX6_onlyLessened_0 : decode cX6_onlyLessened 0 = .ok (.iconst (-1), 1) := by decide +kernel
theorem dX6_onlyLessened_1 : decode cX6_onlyLessened 1 = .ok (.istore_n 3, 1) := by decide +kernel
theorem dX6_onlyLessened_2 : decode cX6_onlyLessened 2 = .ok (.iconst 0, 1) := by decide +kernel
theorem dX6_onlyLessened_3 : decode cX6_onlyLessened 3 = .ok (.istore 4, 2) := by decide +kernel
theorem dX6_onlyLessened_5 : decode cX6_onlyLessened 5 = .ok (.iload 4, 2) := by decide +kernel
theorem dX6_onlyLessened_7 : decode cX6_onlyLessened 7 = .ok (.aload_n 0, 1) := by decide +kernel
theorem dX6_onlyLessened_8 : decode cX6_onlyLessened 8 = .ok (.getfield 32, 3) := by decide +kernel
theorem dX6_onlyLessened_11 : decode cX6_onlyLessened 11 = .ok (.getfield 131, 3) := by decide +kernel
theorem dX6_onlyLessened_14 : decode cX6_onlyLessened 14 = .ok (.if_icmp .ge 64, 3) := by decide +kernel
theorem dX6_onlyLessened_17 : decode cX6_onlyLessened 17 = .ok (.aload_n 1, 1) := by decide +kernel
theorem dX6_onlyLessened_18 : decode cX6_onlyLessened 18 = .ok (.iload_n 2, 1) := by decide +kernel
theorem dX6_onlyLessened_19 : decode cX6_onlyLessened 19 = .ok (.iload 4, 2) := by decide +kernel
theorem dX6_onlyLessened_21 : decode cX6_onlyLessened 21 = .ok (.iadd, 1) := by decide +kernel
theorem dX6_onlyLessened_22 : decode cX6_onlyLessened 22 = .ok (.iaload, 1) := by decide +kernel
theorem dX6_onlyLessened_23 : decode cX6_onlyLessened 23 = .ok (.istore 5, 2) := by decide +kernel
theorem dX6_onlyLessened_25 : decode cX6_onlyLessened 25 = .ok (.iload 5, 2) := by decide +kernel
theorem dX6_onlyLessened_27 : decode cX6_onlyLessened 27 = .ok (.aload_n 0, 1) := by decide +kernel
theorem dX6_onlyLessened_28 : decode cX6_onlyLessened 28 = .ok (.getfield 39, 3) := by decide +kernel
theorem dX6_onlyLessened_31 : decode cX6_onlyLessened 31 = .ok (.getfield 156, 3) := by decide +kernel
theorem dX6_onlyLessened_34 : decode cX6_onlyLessened 34 = .ok (.iload 4, 2) := by decide +kernel
theorem dX6_onlyLessened_36 : decode cX6_onlyLessened 36 = .ok (.iaload, 1) := by decide +kernel
theorem dX6_onlyLessened_37 : decode cX6_onlyLessened 37 = .ok (.if_icmp .ne 6, 3) := by decide +kernel
theorem dX6_onlyLessened_40 : decode cX6_onlyLessened 40 = .ok (.goto 32, 3) := by decide +kernel
theorem dX6_onlyLessened_43 : decode cX6_onlyLessened 43 = .ok (.iload_n 3, 1) := by decide +kernel
theorem dX6_onlyLessened_44 : decode cX6_onlyLessened 44 = .ok (.ifCond .ge 23, 3) := by decide +kernel
theorem dX6_onlyLessened_47 : decode cX6_onlyLessened 47 = .ok (.iload 5, 2) := by decide +kernel
theorem dX6_onlyLessened_49 : decode cX6_onlyLessened 49 = .ok (.ifCond .lt 18, 3) := by decide +kernel
theorem dX6_onlyLessened_52 : decode cX6_onlyLessened 52 = .ok (.iload 5, 2) := by decide +kernel
theorem dX6_onlyLessened_54 : decode cX6_onlyLessened 54 = .ok (.aload_n 0, 1) := by decide +kernel
theorem dX6_onlyLessened_55 : decode cX6_onlyLessened 55 = .ok (.getfield 39, 3) := by decide +kernel
theorem dX6_onlyLessened_58 : decode cX6_onlyLessened 58 = .ok (.getfield 156, 3) := by decide +kernel
theorem dX6_onlyLessened_61 : decode cX6_onlyLessened 61 = .ok (.iload 4, 2) := by decide +kernel
theorem dX6_onlyLessened_63 : decode cX6_onlyLessened 63 = .ok (.iaload, 1) := by decide +kernel
theorem dX6_onlyLessened_64 : decode cX6_onlyLessened 64 = .ok (.if_icmp .le 5, 3) := by decide +kernel
theorem dX6_onlyLessened_67 : decode cX6_onlyLessened 67 = .ok (.iconst (-1), 1) := by decide +kernel
theorem dX6_onlyLessened_68 : decode cX6_onlyLessened 68 = .ok (.ireturn, 1) := by decide +kernel
theorem dX6_onlyLessened_69 : decode cX6_onlyLessened 69 = .ok (.iload 4, 2) := by decide +kernel
theorem dX6_onlyLessened_71 : decode cX6_onlyLessened 71 = .ok (.istore_n 3, 1) := by decide +kernel
theorem dX6_onlyLessened_72 : decode cX6_onlyLessened 72 = .ok (.iinc 4 1, 3) := by decide +kernel
theorem dX6_onlyLessened_75 : decode cX6_onlyLessened 75 = .ok (.goto (-70), 3) := by decide +kernel
theorem dX6_onlyLessened_78 : decode cX6_onlyLessened 78 = .ok (.iload_n 3, 1) := by decide +kernel
theorem dX6_onlyLessened_79 : decode cX6_onlyLessened 79 = .ok (.ireturn, 1) := by decide +kernel
theorem dX6_fitsKind_0 : decode cX6_fitsKind 0 = .ok (.iconst 0, 1) := by decide +kernel
theorem dX6_fitsKind_1 : decode cX6_fitsKind 1 = .ok (.istore 6, 2) := by decide +kernel
theorem dX6_fitsKind_3 : decode cX6_fitsKind 3 = .ok (.iload 6, 2) := by decide +kernel
theorem dX6_fitsKind_5 : decode cX6_fitsKind 5 = .ok (.iload 5, 2) := by decide +kernel
theorem dX6_fitsKind_7 : decode cX6_fitsKind 7 = .ok (.if_icmp .ge 46, 3) := by decide +kernel
theorem dX6_fitsKind_10 : decode cX6_fitsKind 10 = .ok (.iload_n 1, 1) := by decide +kernel
theorem dX6_fitsKind_11 : decode cX6_fitsKind 11 = .ok (.iload_n 2, 1) := by decide +kernel
theorem dX6_fitsKind_12 : decode cX6_fitsKind 12 = .ok (.aload_n 3, 1) := by decide +kernel
theorem dX6_fitsKind_13 : decode cX6_fitsKind 13 = .ok (.iload 4, 2) := by decide +kernel
theorem dX6_fitsKind_15 : decode cX6_fitsKind 15 = .ok (.iconst 2, 1) := by decide +kernel
theorem dX6_fitsKind_16 : decode cX6_fitsKind 16 = .ok (.iload 6, 2) := by decide +kernel
theorem dX6_fitsKind_18 : decode cX6_fitsKind 18 = .ok (.imul, 1) := by decide +kernel
theorem dX6_fitsKind_19 : decode cX6_fitsKind 19 = .ok (.iadd, 1) := by decide +kernel
theorem dX6_fitsKind_20 : decode cX6_fitsKind 20 = .ok (.iaload, 1) := by decide +kernel
theorem dX6_fitsKind_21 : decode cX6_fitsKind 21 = .ok (.aload_n 0, 1) := by decide +kernel
theorem dX6_fitsKind_22 : decode cX6_fitsKind 22 = .ok (.getfield 39, 3) := by decide +kernel
theorem dX6_fitsKind_25 : decode cX6_fitsKind 25 = .ok (.getfield 149, 3) := by decide +kernel
theorem dX6_fitsKind_28 : decode cX6_fitsKind 28 = .ok (.invokestatic 325, 3) := by decide +kernel
theorem dX6_fitsKind_31 : decode cX6_fitsKind 31 = .ok (.aload_n 3, 1) := by decide +kernel
theorem dX6_fitsKind_32 : decode cX6_fitsKind 32 = .ok (.iload 4, 2) := by decide +kernel
theorem dX6_fitsKind_34 : decode cX6_fitsKind 34 = .ok (.iconst 2, 1) := by decide +kernel
theorem dX6_fitsKind_35 : decode cX6_fitsKind 35 = .ok (.iload 6, 2) := by decide +kernel
theorem dX6_fitsKind_37 : decode cX6_fitsKind 37 = .ok (.imul, 1) := by decide +kernel
theorem dX6_fitsKind_38 : decode cX6_fitsKind 38 = .ok (.iadd, 1) := by decide +kernel
theorem dX6_fitsKind_39 : decode cX6_fitsKind 39 = .ok (.iconst 1, 1) := by decide +kernel
theorem dX6_fitsKind_40 : decode cX6_fitsKind 40 = .ok (.iadd, 1) := by decide +kernel
theorem dX6_fitsKind_41 : decode cX6_fitsKind 41 = .ok (.iaload, 1) := by decide +kernel
theorem dX6_fitsKind_42 : decode cX6_fitsKind 42 = .ok (.if_icmp .eq 5, 3) := by decide +kernel
theorem dX6_fitsKind_45 : decode cX6_fitsKind 45 = .ok (.iconst 0, 1) := by decide +kernel
theorem dX6_fitsKind_46 : decode cX6_fitsKind 46 = .ok (.ireturn, 1) := by decide +kernel
theorem dX6_fitsKind_47 : decode cX6_fitsKind 47 = .ok (.iinc 6 1, 3) := by decide +kernel
theorem dX6_fitsKind_50 : decode cX6_fitsKind 50 = .ok (.goto (-47), 3) := by decide +kernel
theorem dX6_fitsKind_53 : decode cX6_fitsKind 53 = .ok (.iconst 1, 1) := by decide +kernel
theorem dX6_fitsKind_54 : decode cX6_fitsKind 54 = .ok (.ireturn, 1) := by decide +kernel
theorem dX6_linesAtOnce_0 : decode cX6_linesAtOnce 0 = .ok (.iconst 0, 1) := by decide +kernel
theorem dX6_linesAtOnce_1 : decode cX6_linesAtOnce 1 = .ok (.istore_n 3, 1) := by decide +kernel
theorem dX6_linesAtOnce_2 : decode cX6_linesAtOnce 2 = .ok (.iconst 1, 1) := by decide +kernel
theorem dX6_linesAtOnce_3 : decode cX6_linesAtOnce 3 = .ok (.istore 4, 2) := by decide +kernel
theorem dX6_linesAtOnce_5 : decode cX6_linesAtOnce 5 = .ok (.iload 4, 2) := by decide +kernel
theorem dX6_linesAtOnce_7 : decode cX6_linesAtOnce 7 = .ok (.bipush 30, 2) := by decide +kernel
theorem dX6_linesAtOnce_9 : decode cX6_linesAtOnce 9 = .ok (.if_icmp .gt 33, 3) := by decide +kernel
theorem dX6_linesAtOnce_12 : decode cX6_linesAtOnce 12 = .ok (.aload_n 0, 1) := by decide +kernel
theorem dX6_linesAtOnce_13 : decode cX6_linesAtOnce 13 = .ok (.getfield 32, 3) := by decide +kernel
theorem dX6_linesAtOnce_16 : decode cX6_linesAtOnce 16 = .ok (.iload_n 1, 1) := by decide +kernel
theorem dX6_linesAtOnce_17 : decode cX6_linesAtOnce 17 = .ok (.iload 4, 2) := by decide +kernel
theorem dX6_linesAtOnce_19 : decode cX6_linesAtOnce 19 = .ok (.aload_n 0, 1) := by decide +kernel
theorem dX6_linesAtOnce_20 : decode cX6_linesAtOnce 20 = .ok (.getfield 39, 3) := by decide +kernel
theorem dX6_linesAtOnce_23 : decode cX6_linesAtOnce 23 = .ok (.getfield 149, 3) := by decide +kernel
theorem dX6_linesAtOnce_26 : decode cX6_linesAtOnce 26 = .ok (.invokevirtual 152, 3) := by decide +kernel
theorem dX6_linesAtOnce_29 : decode cX6_linesAtOnce 29 = .ok (.iload_n 2, 1) := by decide +kernel
theorem dX6_linesAtOnce_30 : decode cX6_linesAtOnce 30 = .ok (.if_icmp .gt 6, 3) := by decide +kernel
theorem dX6_linesAtOnce_33 : decode cX6_linesAtOnce 33 = .ok (.iload 4, 2) := by decide +kernel
theorem dX6_linesAtOnce_35 : decode cX6_linesAtOnce 35 = .ok (.istore_n 3, 1) := by decide +kernel
theorem dX6_linesAtOnce_36 : decode cX6_linesAtOnce 36 = .ok (.iinc 4 1, 3) := by decide +kernel
theorem dX6_linesAtOnce_39 : decode cX6_linesAtOnce 39 = .ok (.goto (-34), 3) := by decide +kernel
theorem dX6_linesAtOnce_42 : decode cX6_linesAtOnce 42 = .ok (.iload_n 3, 1) := by decide +kernel
theorem dX6_linesAtOnce_43 : decode cX6_linesAtOnce 43 = .ok (.ireturn, 1) := by decide +kernel
theorem dX6_drawWriting_0 : decode cX6_drawWriting 0 = .ok (.aload_n 0, 1) := by decide +kernel
theorem dX6_drawWriting_1 : decode cX6_drawWriting 1 = .ok (.getfield 32, 3) := by decide +kernel
theorem dX6_drawWriting_4 : decode cX6_drawWriting 4 = .ok (.getfield 248, 3) := by decide +kernel
theorem dX6_drawWriting_7 : decode cX6_drawWriting 7 = .ok (.iconst 1, 1) := by decide +kernel
theorem dX6_drawWriting_8 : decode cX6_drawWriting 8 = .ok (.if_icmp .lt 14, 3) := by decide +kernel
theorem dX6_drawWriting_11 : decode cX6_drawWriting 11 = .ok (.aload_n 0, 1) := by decide +kernel
theorem dX6_drawWriting_12 : decode cX6_drawWriting 12 = .ok (.getfield 32, 3) := by decide +kernel
theorem dX6_drawWriting_15 : decode cX6_drawWriting 15 = .ok (.getfield 131, 3) := by decide +kernel
theorem dX6_drawWriting_18 : decode cX6_drawWriting 18 = .ok (.iconst 1, 1) := by decide +kernel
theorem dX6_drawWriting_19 : decode cX6_drawWriting 19 = .ok (.if_icmp .ge 4, 3) := by decide +kernel
theorem dX6_drawWriting_22 : decode cX6_drawWriting 22 = .ok (.return_, 1) := by decide +kernel
theorem dX6_drawWriting_23 : decode cX6_drawWriting 23 = .ok (.lload_n 1, 1) := by decide +kernel
theorem dX6_drawWriting_24 : decode cX6_drawWriting 24 = .ok (.aload_n 0, 1) := by decide +kernel
theorem dX6_drawWriting_25 : decode cX6_drawWriting 25 = .ok (.getfield 32, 3) := by decide +kernel
theorem dX6_drawWriting_28 : decode cX6_drawWriting 28 = .ok (.getfield 248, 3) := by decide +kernel
theorem dX6_drawWriting_31 : decode cX6_drawWriting 31 = .ok (.i2l, 1) := by decide +kernel
theorem dX6_drawWriting_32 : decode cX6_drawWriting 32 = .ok (.lrem, 1) := by decide +kernel
theorem dX6_drawWriting_33 : decode cX6_drawWriting 33 = .ok (.l2i, 1) := by decide +kernel
theorem dX6_drawWriting_34 : decode cX6_drawWriting 34 = .ok (.istore_n 3, 1) := by decide +kernel
theorem dX6_drawWriting_35 : decode cX6_drawWriting 35 = .ok (.lload_n 1, 1) := by decide +kernel
theorem dX6_drawWriting_36 : decode cX6_drawWriting 36 = .ok (.aload_n 0, 1) := by decide +kernel
theorem dX6_drawWriting_37 : decode cX6_drawWriting 37 = .ok (.getfield 32, 3) := by decide +kernel
theorem dX6_drawWriting_40 : decode cX6_drawWriting 40 = .ok (.getfield 131, 3) := by decide +kernel
theorem dX6_drawWriting_43 : decode cX6_drawWriting 43 = .ok (.i2l, 1) := by decide +kernel
theorem dX6_drawWriting_44 : decode cX6_drawWriting 44 = .ok (.lrem, 1) := by decide +kernel
theorem dX6_drawWriting_45 : decode cX6_drawWriting 45 = .ok (.l2i, 1) := by decide +kernel
theorem dX6_drawWriting_46 : decode cX6_drawWriting 46 = .ok (.istore 4, 2) := by decide +kernel
theorem dX6_drawWriting_48 : decode cX6_drawWriting 48 = .ok (.aload_n 0, 1) := by decide +kernel
theorem dX6_drawWriting_49 : decode cX6_drawWriting 49 = .ok (.getfield 32, 3) := by decide +kernel
theorem dX6_drawWriting_52 : decode cX6_drawWriting 52 = .ok (.iload_n 3, 1) := by decide +kernel
theorem dX6_drawWriting_53 : decode cX6_drawWriting 53 = .ok (.lload_n 1, 1) := by decide +kernel
theorem dX6_drawWriting_54 : decode cX6_drawWriting 54 = .ok (.ldc2_w 329, 3) := by decide +kernel
theorem dX6_drawWriting_57 : decode cX6_drawWriting 57 = .ok (.lrem, 1) := by decide +kernel
theorem dX6_drawWriting_58 : decode cX6_drawWriting 58 = .ok (.l2i, 1) := by decide +kernel
theorem dX6_drawWriting_59 : decode cX6_drawWriting 59 = .ok (.iconst 1, 1) := by decide +kernel
theorem dX6_drawWriting_60 : decode cX6_drawWriting 60 = .ok (.iadd, 1) := by decide +kernel
theorem dX6_drawWriting_61 : decode cX6_drawWriting 61 = .ok (.aload_n 0, 1) := by decide +kernel
theorem dX6_drawWriting_62 : decode cX6_drawWriting 62 = .ok (.getfield 60, 3) := by decide +kernel
theorem dX6_drawWriting_65 : decode cX6_drawWriting 65 = .ok (.getfield 149, 3) := by decide +kernel
theorem dX6_drawWriting_68 : decode cX6_drawWriting 68 = .ok (.invokevirtual 152, 3) := by decide +kernel
theorem dX6_drawWriting_71 : decode cX6_drawWriting 71 = .ok (.istore 5, 2) := by decide +kernel
theorem dX6_drawWriting_73 : decode cX6_drawWriting 73 = .ok (.aload_n 0, 1) := by decide +kernel
theorem dX6_drawWriting_74 : decode cX6_drawWriting 74 = .ok (.getfield 60, 3) := by decide +kernel
theorem dX6_drawWriting_77 : decode cX6_drawWriting 77 = .ok (.getfield 156, 3) := by decide +kernel
theorem dX6_drawWriting_80 : decode cX6_drawWriting 80 = .ok (.iload 4, 2) := by decide +kernel
theorem dX6_drawWriting_82 : decode cX6_drawWriting 82 = .ok (.iaload, 1) := by decide +kernel
theorem dX6_drawWriting_83 : decode cX6_drawWriting 83 = .ok (.iload 5, 2) := by decide +kernel
theorem dX6_drawWriting_85 : decode cX6_drawWriting 85 = .ok (.if_icmp .lt 14, 3) := by decide +kernel
theorem dX6_drawWriting_88 : decode cX6_drawWriting 88 = .ok (.aload_n 0, 1) := by decide +kernel
theorem dX6_drawWriting_89 : decode cX6_drawWriting 89 = .ok (.getfield 60, 3) := by decide +kernel
theorem dX6_drawWriting_92 : decode cX6_drawWriting 92 = .ok (.iload 4, 2) := by decide +kernel
theorem dX6_drawWriting_94 : decode cX6_drawWriting 94 = .ok (.iload 5, 2) := by decide +kernel
theorem dX6_drawWriting_96 : decode cX6_drawWriting 96 = .ok (.invokevirtual 162, 3) := by decide +kernel
theorem dX6_drawWriting_99 : decode cX6_drawWriting 99 = .ok (.return_, 1) := by decide +kernel
theorem dX6_answerOf_0 : decode cX6_answerOf 0 = .ok (.iload_n 1, 1) := by decide +kernel
theorem dX6_answerOf_1 : decode cX6_answerOf 1 = .ok (.ifCond .ne 9, 3) := by decide +kernel
theorem dX6_answerOf_4 : decode cX6_answerOf 4 = .ok (.getstatic 331, 3) := by decide +kernel
theorem dX6_answerOf_7 : decode cX6_answerOf 7 = .ok (.goto 6, 3) := by decide +kernel
theorem dX6_answerOf_10 : decode cX6_answerOf 10 = .ok (.getstatic 334, 3) := by decide +kernel
theorem dX6_answerOf_13 : decode cX6_answerOf 13 = .ok (.astore_n 3, 1) := by decide +kernel
theorem dX6_answerOf_14 : decode cX6_answerOf 14 = .ok (.aload_n 0, 1) := by decide +kernel
theorem dX6_answerOf_15 : decode cX6_answerOf 15 = .ok (.getfield 337, 3) := by decide +kernel
theorem dX6_answerOf_18 : decode cX6_answerOf 18 = .ok (.bipush 6, 2) := by decide +kernel
theorem dX6_answerOf_20 : decode cX6_answerOf 20 = .ok (.invokestatic 77, 3) := by decide +kernel
theorem dX6_answerOf_23 : decode cX6_answerOf 23 = .ok (.ifCond .eq 17, 3) := by decide +kernel
theorem dX6_answerOf_26 : decode cX6_answerOf 26 = .ok (.aload_n 0, 1) := by decide +kernel
theorem dX6_answerOf_27 : decode cX6_answerOf 27 = .ok (.aload_n 3, 1) := by decide +kernel
theorem dX6_answerOf_28 : decode cX6_answerOf 28 = .ok (.aload_n 0, 1) := by decide +kernel
theorem dX6_answerOf_29 : decode cX6_answerOf 29 = .ok (.getfield 337, 3) := by decide +kernel
theorem dX6_answerOf_32 : decode cX6_answerOf 32 = .ok (.iaload, 1) := by decide +kernel
theorem dX6_answerOf_33 : decode cX6_answerOf 33 = .ok (.iload_n 2, 1) := by decide +kernel
theorem dX6_answerOf_34 : decode cX6_answerOf 34 = .ok (.invokestatic 340, 3) := by decide +kernel
theorem dX6_answerOf_37 : decode cX6_answerOf 37 = .ok (.goto 4, 3) := by decide +kernel
theorem dX6_answerOf_40 : decode cX6_answerOf 40 = .ok (.iconst 0, 1) := by decide +kernel
theorem dX6_answerOf_41 : decode cX6_answerOf 41 = .ok (.ireturn, 1) := by decide +kernel
theorem dX6_runBody_0 : decode cX6_runBody 0 = .ok (.iload_n 2, 1) := by decide +kernel
theorem dX6_runBody_1 : decode cX6_runBody 1 = .ok (.bipush 16, 2) := by decide +kernel
theorem dX6_runBody_3 : decode cX6_runBody 3 = .ok (.if_icmp .le 5, 3) := by decide +kernel
theorem dX6_runBody_6 : decode cX6_runBody 6 = .ok (.iconst 0, 1) := by decide +kernel
theorem dX6_runBody_7 : decode cX6_runBody 7 = .ok (.ireturn, 1) := by decide +kernel
theorem dX6_runBody_8 : decode cX6_runBody 8 = .ok (.aload_n 0, 1) := by decide +kernel
theorem dX6_runBody_9 : decode cX6_runBody 9 = .ok (.iload_n 1, 1) := by decide +kernel
theorem dX6_runBody_10 : decode cX6_runBody 10 = .ok (.invokevirtual 343, 3) := by decide +kernel
theorem dX6_runBody_13 : decode cX6_runBody 13 = .ok (.iload_n 2, 1) := by decide +kernel
theorem dX6_runBody_14 : decode cX6_runBody 14 = .ok (.iconst 1, 1) := by decide +kernel
theorem dX6_runBody_15 : decode cX6_runBody 15 = .ok (.iadd, 1) := by decide +kernel
theorem dX6_runBody_16 : decode cX6_runBody 16 = .ok (.istore_n 3, 1) := by decide +kernel
theorem dX6_runBody_17 : decode cX6_runBody 17 = .ok (.iload_n 1, 1) := by decide +kernel
theorem dX6_runBody_18 : decode cX6_runBody 18 = .ok (.tableswitch 179 10 24 #[74, 79, 94, 103, 114, 179, 179, 179, 179, 179, 124, 129, 142, 154, 169], 74) := by decide +kernel
theorem dX6_runBody_92 : decode cX6_runBody 92 = .ok (.aload_n 0, 1) := by decide +kernel
theorem dX6_runBody_93 : decode cX6_runBody 93 = .ok (.getfield 347, 3) := by decide +kernel
theorem dX6_runBody_96 : decode cX6_runBody 96 = .ok (.ireturn, 1) := by decide +kernel
theorem dX6_runBody_97 : decode cX6_runBody 97 = .ok (.aload_n 0, 1) := by decide +kernel
theorem dX6_runBody_98 : decode cX6_runBody 98 = .ok (.bipush 10, 2) := by decide +kernel
theorem dX6_runBody_100 : decode cX6_runBody 100 = .ok (.iload_n 3, 1) := by decide +kernel
theorem dX6_runBody_101 : decode cX6_runBody 101 = .ok (.invokestatic 340, 3) := by decide +kernel
theorem dX6_runBody_104 : decode cX6_runBody 104 = .ok (.aload_n 0, 1) := by decide +kernel
theorem dX6_runBody_105 : decode cX6_runBody 105 = .ok (.iconst 1, 1) := by decide +kernel
theorem dX6_runBody_106 : decode cX6_runBody 106 = .ok (.iload_n 3, 1) := by decide +kernel
theorem dX6_runBody_107 : decode cX6_runBody 107 = .ok (.invokestatic 293, 3) := by decide +kernel
theorem dX6_runBody_110 : decode cX6_runBody 110 = .ok (.iadd, 1) := by decide +kernel
theorem dX6_runBody_111 : decode cX6_runBody 111 = .ok (.ireturn, 1) := by decide +kernel
theorem dX6_runBody_112 : decode cX6_runBody 112 = .ok (.aload_n 0, 1) := by decide +kernel
theorem dX6_runBody_113 : decode cX6_runBody 113 = .ok (.bipush 11, 2) := by decide +kernel
theorem dX6_runBody_115 : decode cX6_runBody 115 = .ok (.iload_n 3, 1) := by decide +kernel
theorem dX6_runBody_116 : decode cX6_runBody 116 = .ok (.invokestatic 340, 3) := by decide +kernel
theorem dX6_runBody_119 : decode cX6_runBody 119 = .ok (.ineg, 1) := by decide +kernel
theorem dX6_runBody_120 : decode cX6_runBody 120 = .ok (.ireturn, 1) := by decide +kernel
theorem dX6_runBody_121 : decode cX6_runBody 121 = .ok (.aload_n 0, 1) := by decide +kernel
theorem dX6_runBody_122 : decode cX6_runBody 122 = .ok (.bipush 10, 2) := by decide +kernel
theorem dX6_runBody_124 : decode cX6_runBody 124 = .ok (.iload_n 3, 1) := by decide +kernel
theorem dX6_runBody_125 : decode cX6_runBody 125 = .ok (.invokestatic 340, 3) := by decide +kernel
theorem dX6_runBody_128 : decode cX6_runBody 128 = .ok (.bipush 100, 2) := by decide +kernel
theorem dX6_runBody_130 : decode cX6_runBody 130 = .ok (.isub, 1) := by decide +kernel
theorem dX6_runBody_131 : decode cX6_runBody 131 = .ok (.ireturn, 1) := by decide +kernel
theorem dX6_runBody_132 : decode cX6_runBody 132 = .ok (.iconst 2, 1) := by decide +kernel
theorem dX6_runBody_133 : decode cX6_runBody 133 = .ok (.aload_n 0, 1) := by decide +kernel
theorem dX6_runBody_134 : decode cX6_runBody 134 = .ok (.bipush 13, 2) := by decide +kernel
theorem dX6_runBody_136 : decode cX6_runBody 136 = .ok (.iload_n 3, 1) := by decide +kernel
theorem dX6_runBody_137 : decode cX6_runBody 137 = .ok (.invokestatic 340, 3) := by decide +kernel
theorem dX6_runBody_140 : decode cX6_runBody 140 = .ok (.imul, 1) := by decide +kernel
theorem dX6_runBody_141 : decode cX6_runBody 141 = .ok (.ireturn, 1) := by decide +kernel
theorem dX6_runBody_142 : decode cX6_runBody 142 = .ok (.aload_n 0, 1) := by decide +kernel
theorem dX6_runBody_143 : decode cX6_runBody 143 = .ok (.getfield 350, 3) := by decide +kernel
theorem dX6_runBody_146 : decode cX6_runBody 146 = .ok (.ireturn, 1) := by decide +kernel
theorem dX6_runBody_147 : decode cX6_runBody 147 = .ok (.aload_n 0, 1) := by decide +kernel
theorem dX6_runBody_148 : decode cX6_runBody 148 = .ok (.bipush 20, 2) := by decide +kernel
theorem dX6_runBody_150 : decode cX6_runBody 150 = .ok (.iload_n 3, 1) := by decide +kernel
theorem dX6_runBody_151 : decode cX6_runBody 151 = .ok (.invokestatic 340, 3) := by decide +kernel
theorem dX6_runBody_154 : decode cX6_runBody 154 = .ok (.aload_n 0, 1) := by decide +kernel
theorem dX6_runBody_155 : decode cX6_runBody 155 = .ok (.getfield 353, 3) := by decide +kernel
theorem dX6_runBody_158 : decode cX6_runBody 158 = .ok (.iadd, 1) := by decide +kernel
theorem dX6_runBody_159 : decode cX6_runBody 159 = .ok (.ireturn, 1) := by decide +kernel
theorem dX6_runBody_160 : decode cX6_runBody 160 = .ok (.aload_n 0, 1) := by decide +kernel
theorem dX6_runBody_161 : decode cX6_runBody 161 = .ok (.bipush 21, 2) := by decide +kernel
theorem dX6_runBody_163 : decode cX6_runBody 163 = .ok (.iload_n 3, 1) := by decide +kernel
theorem dX6_runBody_164 : decode cX6_runBody 164 = .ok (.invokestatic 340, 3) := by decide +kernel
theorem dX6_runBody_167 : decode cX6_runBody 167 = .ok (.sipush 1000, 3) := by decide +kernel
theorem dX6_runBody_170 : decode cX6_runBody 170 = .ok (.isub, 1) := by decide +kernel
theorem dX6_runBody_171 : decode cX6_runBody 171 = .ok (.ireturn, 1) := by decide +kernel
theorem dX6_runBody_172 : decode cX6_runBody 172 = .ok (.aload_n 0, 1) := by decide +kernel
theorem dX6_runBody_173 : decode cX6_runBody 173 = .ok (.bipush 20, 2) := by decide +kernel
theorem dX6_runBody_175 : decode cX6_runBody 175 = .ok (.iload_n 3, 1) := by decide +kernel
theorem dX6_runBody_176 : decode cX6_runBody 176 = .ok (.invokestatic 340, 3) := by decide +kernel
theorem dX6_runBody_179 : decode cX6_runBody 179 = .ok (.aload_n 0, 1) := by decide +kernel
theorem dX6_runBody_180 : decode cX6_runBody 180 = .ok (.iconst 0, 1) := by decide +kernel
theorem dX6_runBody_181 : decode cX6_runBody 181 = .ok (.iload_n 3, 1) := by decide +kernel
theorem dX6_runBody_182 : decode cX6_runBody 182 = .ok (.invokestatic 293, 3) := by decide +kernel
theorem dX6_runBody_185 : decode cX6_runBody 185 = .ok (.isub, 1) := by decide +kernel
theorem dX6_runBody_186 : decode cX6_runBody 186 = .ok (.ireturn, 1) := by decide +kernel
theorem dX6_runBody_187 : decode cX6_runBody 187 = .ok (.iconst 2, 1) := by decide +kernel
theorem dX6_runBody_188 : decode cX6_runBody 188 = .ok (.aload_n 0, 1) := by decide +kernel
theorem dX6_runBody_189 : decode cX6_runBody 189 = .ok (.bipush 21, 2) := by decide +kernel
theorem dX6_runBody_191 : decode cX6_runBody 191 = .ok (.iload_n 3, 1) := by decide +kernel
theorem dX6_runBody_192 : decode cX6_runBody 192 = .ok (.invokestatic 340, 3) := by decide +kernel
theorem dX6_runBody_195 : decode cX6_runBody 195 = .ok (.imul, 1) := by decide +kernel
theorem dX6_runBody_196 : decode cX6_runBody 196 = .ok (.ireturn, 1) := by decide +kernel
theorem dX6_runBody_197 : decode cX6_runBody 197 = .ok (.iconst 0, 1) := by decide +kernel
theorem dX6_runBody_198 : decode cX6_runBody 198 = .ok (.ireturn, 1) := by decide +kernel
theorem dX6_chalkByKind_0 : decode cX6_chalkByKind 0 = .ok (.iload_n 0, 1) := by decide +kernel
theorem dX6_chalkByKind_1 : decode cX6_chalkByKind 1 = .ok (.tableswitch 58 1 4 #[31, 35, 43, 49], 31) := by decide +kernel
theorem dX6_chalkByKind_32 : decode cX6_chalkByKind 32 = .ok (.iload_n 1, 1) := by decide +kernel
theorem dX6_chalkByKind_33 : decode cX6_chalkByKind 33 = .ok (.iload_n 2, 1) := by decide +kernel
theorem dX6_chalkByKind_34 : decode cX6_chalkByKind 34 = .ok (.imul, 1) := by decide +kernel
theorem dX6_chalkByKind_35 : decode cX6_chalkByKind 35 = .ok (.ireturn, 1) := by decide +kernel
theorem dX6_chalkByKind_36 : decode cX6_chalkByKind 36 = .ok (.iload_n 1, 1) := by decide +kernel
theorem dX6_chalkByKind_37 : decode cX6_chalkByKind 37 = .ok (.iload_n 2, 1) := by decide +kernel
theorem dX6_chalkByKind_38 : decode cX6_chalkByKind 38 = .ok (.imul, 1) := by decide +kernel
theorem dX6_chalkByKind_39 : decode cX6_chalkByKind 39 = .ok (.iconst 1, 1) := by decide +kernel
theorem dX6_chalkByKind_40 : decode cX6_chalkByKind 40 = .ok (.iadd, 1) := by decide +kernel
theorem dX6_chalkByKind_41 : decode cX6_chalkByKind 41 = .ok (.iconst 2, 1) := by decide +kernel
theorem dX6_chalkByKind_42 : decode cX6_chalkByKind 42 = .ok (.idiv, 1) := by decide +kernel
theorem dX6_chalkByKind_43 : decode cX6_chalkByKind 43 = .ok (.ireturn, 1) := by decide +kernel
theorem dX6_chalkByKind_44 : decode cX6_chalkByKind 44 = .ok (.iconst 2, 1) := by decide +kernel
theorem dX6_chalkByKind_45 : decode cX6_chalkByKind 45 = .ok (.iload_n 1, 1) := by decide +kernel
theorem dX6_chalkByKind_46 : decode cX6_chalkByKind 46 = .ok (.imul, 1) := by decide +kernel
theorem dX6_chalkByKind_47 : decode cX6_chalkByKind 47 = .ok (.iload_n 2, 1) := by decide +kernel
theorem dX6_chalkByKind_48 : decode cX6_chalkByKind 48 = .ok (.imul, 1) := by decide +kernel
theorem dX6_chalkByKind_49 : decode cX6_chalkByKind 49 = .ok (.ireturn, 1) := by decide +kernel
theorem dX6_chalkByKind_50 : decode cX6_chalkByKind 50 = .ok (.iload_n 2, 1) := by decide +kernel
theorem dX6_chalkByKind_51 : decode cX6_chalkByKind 51 = .ok (.iload_n 3, 1) := by decide +kernel
theorem dX6_chalkByKind_52 : decode cX6_chalkByKind 52 = .ok (.bipush 9, 2) := by decide +kernel
theorem dX6_chalkByKind_54 : decode cX6_chalkByKind 54 = .ok (.invokestatic 174, 3) := by decide +kernel
theorem dX6_chalkByKind_57 : decode cX6_chalkByKind 57 = .ok (.iadd, 1) := by decide +kernel
theorem dX6_chalkByKind_58 : decode cX6_chalkByKind 58 = .ok (.ireturn, 1) := by decide +kernel
theorem dX6_chalkByKind_59 : decode cX6_chalkByKind 59 = .ok (.iload_n 2, 1) := by decide +kernel
theorem dX6_chalkByKind_60 : decode cX6_chalkByKind 60 = .ok (.iload_n 3, 1) := by decide +kernel
theorem dX6_chalkByKind_61 : decode cX6_chalkByKind 61 = .ok (.bipush 9, 2) := by decide +kernel
theorem dX6_chalkByKind_63 : decode cX6_chalkByKind 63 = .ok (.invokestatic 174, 3) := by decide +kernel
theorem dX6_chalkByKind_66 : decode cX6_chalkByKind 66 = .ok (.iadd, 1) := by decide +kernel
theorem dX6_chalkByKind_67 : decode cX6_chalkByKind 67 = .ok (.iload_n 1, 1) := by decide +kernel
theorem dX6_chalkByKind_68 : decode cX6_chalkByKind 68 = .ok (.iadd, 1) := by decide +kernel
theorem dX6_chalkByKind_69 : decode cX6_chalkByKind 69 = .ok (.ireturn, 1) := by decide +kernel
theorem dX6_power_0 : decode cX6_power 0 = .ok (.lconst 1, 1) := by decide +kernel
theorem dX6_power_1 : decode cX6_power 1 = .ok (.lstore_n 3, 1) := by decide +kernel
theorem dX6_power_2 : decode cX6_power 2 = .ok (.iconst 0, 1) := by decide +kernel
theorem dX6_power_3 : decode cX6_power 3 = .ok (.istore 5, 2) := by decide +kernel
theorem dX6_power_5 : decode cX6_power 5 = .ok (.iload 5, 2) := by decide +kernel
theorem dX6_power_7 : decode cX6_power 7 = .ok (.iload_n 2, 1) := by decide +kernel
theorem dX6_power_8 : decode cX6_power 8 = .ok (.if_icmp .ge 13, 3) := by decide +kernel
theorem dX6_power_11 : decode cX6_power 11 = .ok (.lload_n 3, 1) := by decide +kernel
theorem dX6_power_12 : decode cX6_power 12 = .ok (.lload_n 0, 1) := by decide +kernel
theorem dX6_power_13 : decode cX6_power 13 = .ok (.lmul, 1) := by decide +kernel
theorem dX6_power_14 : decode cX6_power 14 = .ok (.lstore_n 3, 1) := by decide +kernel
theorem dX6_power_15 : decode cX6_power 15 = .ok (.iinc 5 1, 3) := by decide +kernel
theorem dX6_power_18 : decode cX6_power 18 = .ok (.goto (-13), 3) := by decide +kernel
theorem dX6_power_21 : decode cX6_power 21 = .ok (.lload_n 3, 1) := by decide +kernel
theorem dX6_power_22 : decode cX6_power 22 = .ok (.lreturn, 1) := by decide +kernel
theorem dX6_lowestTerms_0 : decode cX6_lowestTerms 0 = .ok (.lload_n 0, 1) := by decide +kernel
theorem dX6_lowestTerms_1 : decode cX6_lowestTerms 1 = .ok (.lconst 0, 1) := by decide +kernel
theorem dX6_lowestTerms_2 : decode cX6_lowestTerms 2 = .ok (.lcmp, 1) := by decide +kernel
theorem dX6_lowestTerms_3 : decode cX6_lowestTerms 3 = .ok (.ifCond .ne 7, 3) := by decide +kernel
theorem dX6_lowestTerms_6 : decode cX6_lowestTerms 6 = .ok (.iload 4, 2) := by decide +kernel
theorem dX6_lowestTerms_8 : decode cX6_lowestTerms 8 = .ok (.i2l, 1) := by decide +kernel
theorem dX6_lowestTerms_9 : decode cX6_lowestTerms 9 = .ok (.lreturn, 1) := by decide +kernel
theorem dX6_lowestTerms_10 : decode cX6_lowestTerms 10 = .ok (.lload_n 0, 1) := by decide +kernel
theorem dX6_lowestTerms_11 : decode cX6_lowestTerms 11 = .ok (.lstore 5, 2) := by decide +kernel
theorem dX6_lowestTerms_13 : decode cX6_lowestTerms 13 = .ok (.lload_n 2, 1) := by decide +kernel
theorem dX6_lowestTerms_14 : decode cX6_lowestTerms 14 = .ok (.lstore 7, 2) := by decide +kernel
theorem dX6_lowestTerms_16 : decode cX6_lowestTerms 16 = .ok (.iconst 0, 1) := by decide +kernel
theorem dX6_lowestTerms_17 : decode cX6_lowestTerms 17 = .ok (.istore 9, 2) := by decide +kernel
theorem dX6_lowestTerms_19 : decode cX6_lowestTerms 19 = .ok (.iload 9, 2) := by decide +kernel
theorem dX6_lowestTerms_21 : decode cX6_lowestTerms 21 = .ok (.bipush 100, 2) := by decide +kernel
theorem dX6_lowestTerms_23 : decode cX6_lowestTerms 23 = .ok (.if_icmp .ge 31, 3) := by decide +kernel
theorem dX6_lowestTerms_26 : decode cX6_lowestTerms 26 = .ok (.lload 7, 2) := by decide +kernel
theorem dX6_lowestTerms_28 : decode cX6_lowestTerms 28 = .ok (.lconst 0, 1) := by decide +kernel
theorem dX6_lowestTerms_29 : decode cX6_lowestTerms 29 = .ok (.lcmp, 1) := by decide +kernel
theorem dX6_lowestTerms_30 : decode cX6_lowestTerms 30 = .ok (.ifCond .eq 24, 3) := by decide +kernel
theorem dX6_lowestTerms_33 : decode cX6_lowestTerms 33 = .ok (.lload 5, 2) := by decide +kernel
theorem dX6_lowestTerms_35 : decode cX6_lowestTerms 35 = .ok (.lload 7, 2) := by decide +kernel
theorem dX6_lowestTerms_37 : decode cX6_lowestTerms 37 = .ok (.lrem, 1) := by decide +kernel
theorem dX6_lowestTerms_38 : decode cX6_lowestTerms 38 = .ok (.lstore 10, 2) := by decide +kernel
theorem dX6_lowestTerms_40 : decode cX6_lowestTerms 40 = .ok (.lload 7, 2) := by decide +kernel
theorem dX6_lowestTerms_42 : decode cX6_lowestTerms 42 = .ok (.lstore 5, 2) := by decide +kernel
theorem dX6_lowestTerms_44 : decode cX6_lowestTerms 44 = .ok (.lload 10, 2) := by decide +kernel
theorem dX6_lowestTerms_46 : decode cX6_lowestTerms 46 = .ok (.lstore 7, 2) := by decide +kernel
theorem dX6_lowestTerms_48 : decode cX6_lowestTerms 48 = .ok (.iinc 9 1, 3) := by decide +kernel
theorem dX6_lowestTerms_51 : decode cX6_lowestTerms 51 = .ok (.goto (-32), 3) := by decide +kernel
theorem dX6_lowestTerms_54 : decode cX6_lowestTerms 54 = .ok (.lload 5, 2) := by decide +kernel
theorem dX6_lowestTerms_56 : decode cX6_lowestTerms 56 = .ok (.lconst 0, 1) := by decide +kernel
theorem dX6_lowestTerms_57 : decode cX6_lowestTerms 57 = .ok (.lcmp, 1) := by decide +kernel
theorem dX6_lowestTerms_58 : decode cX6_lowestTerms 58 = .ok (.ifCond .ne 7, 3) := by decide +kernel
theorem dX6_lowestTerms_61 : decode cX6_lowestTerms 61 = .ok (.iload 4, 2) := by decide +kernel
theorem dX6_lowestTerms_63 : decode cX6_lowestTerms 63 = .ok (.i2l, 1) := by decide +kernel
theorem dX6_lowestTerms_64 : decode cX6_lowestTerms 64 = .ok (.lreturn, 1) := by decide +kernel
theorem dX6_lowestTerms_65 : decode cX6_lowestTerms 65 = .ok (.iload 4, 2) := by decide +kernel
theorem dX6_lowestTerms_67 : decode cX6_lowestTerms 67 = .ok (.ifCond .ne 7, 3) := by decide +kernel
theorem dX6_lowestTerms_70 : decode cX6_lowestTerms 70 = .ok (.lload_n 0, 1) := by decide +kernel
theorem dX6_lowestTerms_71 : decode cX6_lowestTerms 71 = .ok (.goto 4, 3) := by decide +kernel
theorem dX6_lowestTerms_74 : decode cX6_lowestTerms 74 = .ok (.lload_n 2, 1) := by decide +kernel
theorem dX6_lowestTerms_75 : decode cX6_lowestTerms 75 = .ok (.lload 5, 2) := by decide +kernel
theorem dX6_lowestTerms_77 : decode cX6_lowestTerms 77 = .ok (.ldiv, 1) := by decide +kernel
theorem dX6_lowestTerms_78 : decode cX6_lowestTerms 78 = .ok (.lreturn, 1) := by decide +kernel
theorem dX7_init_0 : decode cX7_init 0 = .ok (.aload_n 0, 1) := by decide +kernel
theorem dX7_init_1 : decode cX7_init 1 = .ok (.invokespecial 1, 3) := by decide +kernel
theorem dX7_init_4 : decode cX7_init 4 = .ok (.aload_n 0, 1) := by decide +kernel
theorem dX7_init_5 : decode cX7_init 5 = .ok (.bipush 8, 2) := by decide +kernel
theorem dX7_init_7 : decode cX7_init 7 = .ok (.newarray .int, 2) := by decide +kernel
theorem dX7_init_9 : decode cX7_init 9 = .ok (.putfield 7, 3) := by decide +kernel
theorem dX7_init_12 : decode cX7_init 12 = .ok (.aload_n 0, 1) := by decide +kernel
theorem dX7_init_13 : decode cX7_init 13 = .ok (.bipush 8, 2) := by decide +kernel
theorem dX7_init_15 : decode cX7_init 15 = .ok (.newarray .int, 2) := by decide +kernel
theorem dX7_init_17 : decode cX7_init 17 = .ok (.putfield 13, 3) := by decide +kernel
theorem dX7_init_20 : decode cX7_init 20 = .ok (.aload_n 0, 1) := by decide +kernel
theorem dX7_init_21 : decode cX7_init 21 = .ok (.sipush 320, 3) := by decide +kernel
theorem dX7_init_24 : decode cX7_init 24 = .ok (.newarray .int, 2) := by decide +kernel
theorem dX7_init_26 : decode cX7_init 26 = .ok (.putfield 16, 3) := by decide +kernel
theorem dX7_init_29 : decode cX7_init 29 = .ok (.aload_n 0, 1) := by decide +kernel
theorem dX7_init_30 : decode cX7_init 30 = .ok (.bipush 120, 2) := by decide +kernel
theorem dX7_init_32 : decode cX7_init 32 = .ok (.newarray .int, 2) := by decide +kernel
theorem dX7_init_34 : decode cX7_init 34 = .ok (.putfield 19, 3) := by decide +kernel
theorem dX7_init_37 : decode cX7_init 37 = .ok (.aload_n 0, 1) := by decide +kernel
theorem dX7_init_38 : decode cX7_init 38 = .ok (.bipush 8, 2) := by decide +kernel
theorem dX7_init_40 : decode cX7_init 40 = .ok (.newarray .int, 2) := by decide +kernel
theorem dX7_init_42 : decode cX7_init 42 = .ok (.putfield 22, 3) := by decide +kernel
theorem dX7_init_45 : decode cX7_init 45 = .ok (.aload_n 0, 1) := by decide +kernel
theorem dX7_init_46 : decode cX7_init 46 = .ok (.iconst 4, 1) := by decide +kernel
theorem dX7_init_47 : decode cX7_init 47 = .ok (.newarray .int, 2) := by decide +kernel
theorem dX7_init_49 : decode cX7_init 49 = .ok (.putfield 25, 3) := by decide +kernel
theorem dX7_init_52 : decode cX7_init 52 = .ok (.aload_n 0, 1) := by decide +kernel
theorem dX7_init_53 : decode cX7_init 53 = .ok (.iconst 4, 1) := by decide +kernel
theorem dX7_init_54 : decode cX7_init 54 = .ok (.newarray .int, 2) := by decide +kernel
theorem dX7_init_56 : decode cX7_init 56 = .ok (.putfield 28, 3) := by decide +kernel
theorem dX7_init_59 : decode cX7_init 59 = .ok (.aload_n 0, 1) := by decide +kernel
theorem dX7_init_60 : decode cX7_init 60 = .ok (.bipush 14, 2) := by decide +kernel
theorem dX7_init_62 : decode cX7_init 62 = .ok (.newarray .int, 2) := by decide +kernel
theorem dX7_init_64 : decode cX7_init 64 = .ok (.putfield 31, 3) := by decide +kernel
theorem dX7_init_67 : decode cX7_init 67 = .ok (.aload_n 0, 1) := by decide +kernel
theorem dX7_init_68 : decode cX7_init 68 = .ok (.bipush 14, 2) := by decide +kernel
theorem dX7_init_70 : decode cX7_init 70 = .ok (.newarray .int, 2) := by decide +kernel
theorem dX7_init_72 : decode cX7_init 72 = .ok (.putfield 34, 3) := by decide +kernel
theorem dX7_init_75 : decode cX7_init 75 = .ok (.aload_n 0, 1) := by decide +kernel
theorem dX7_init_76 : decode cX7_init 76 = .ok (.iconst 2, 1) := by decide +kernel
theorem dX7_init_77 : decode cX7_init 77 = .ok (.newarray .int, 2) := by decide +kernel
theorem dX7_init_79 : decode cX7_init 79 = .ok (.putfield 37, 3) := by decide +kernel
theorem dX7_init_82 : decode cX7_init 82 = .ok (.aload_n 0, 1) := by decide +kernel
theorem dX7_init_83 : decode cX7_init 83 = .ok (.bipush 8, 2) := by decide +kernel
theorem dX7_init_85 : decode cX7_init 85 = .ok (.newarray .int, 2) := by decide +kernel
theorem dX7_init_87 : decode cX7_init 87 = .ok (.putfield 40, 3) := by decide +kernel
theorem dX7_init_90 : decode cX7_init 90 = .ok (.aload_n 0, 1) := by decide +kernel
theorem dX7_init_91 : decode cX7_init 91 = .ok (.bipush 8, 2) := by decide +kernel
theorem dX7_init_93 : decode cX7_init 93 = .ok (.newarray .int, 2) := by decide +kernel
theorem dX7_init_95 : decode cX7_init 95 = .ok (.putfield 43, 3) := by decide +kernel
theorem dX7_init_98 : decode cX7_init 98 = .ok (.aload_n 0, 1) := by decide +kernel
theorem dX7_init_99 : decode cX7_init 99 = .ok (.iconst 4, 1) := by decide +kernel
theorem dX7_init_100 : decode cX7_init 100 = .ok (.newarray .int, 2) := by decide +kernel
theorem dX7_init_102 : decode cX7_init 102 = .ok (.putfield 46, 3) := by decide +kernel
theorem dX7_init_105 : decode cX7_init 105 = .ok (.aload_n 0, 1) := by decide +kernel
theorem dX7_init_106 : decode cX7_init 106 = .ok (.iconst 4, 1) := by decide +kernel
theorem dX7_init_107 : decode cX7_init 107 = .ok (.newarray .int, 2) := by decide +kernel
theorem dX7_init_109 : decode cX7_init 109 = .ok (.putfield 49, 3) := by decide +kernel
theorem dX7_init_112 : decode cX7_init 112 = .ok (.aload_n 0, 1) := by decide +kernel
theorem dX7_init_113 : decode cX7_init 113 = .ok (.sipush 336, 3) := by decide +kernel
theorem dX7_init_116 : decode cX7_init 116 = .ok (.newarray .int, 2) := by decide +kernel
theorem dX7_init_118 : decode cX7_init 118 = .ok (.putfield 52, 3) := by decide +kernel
theorem dX7_init_121 : decode cX7_init 121 = .ok (.aload_n 0, 1) := by decide +kernel
theorem dX7_init_122 : decode cX7_init 122 = .ok (.bipush 8, 2) := by decide +kernel
theorem dX7_init_124 : decode cX7_init 124 = .ok (.newarray .int, 2) := by decide +kernel
theorem dX7_init_126 : decode cX7_init 126 = .ok (.putfield 55, 3) := by decide +kernel
theorem dX7_init_129 : decode cX7_init 129 = .ok (.aload_n 0, 1) := by decide +kernel
theorem dX7_init_130 : decode cX7_init 130 = .ok (.iconst 2, 1) := by decide +kernel
theorem dX7_init_131 : decode cX7_init 131 = .ok (.newarray .boolean, 2) := by decide +kernel
theorem dX7_init_133 : decode cX7_init 133 = .ok (.putfield 58, 3) := by decide +kernel
theorem dX7_init_136 : decode cX7_init 136 = .ok (.aload_n 0, 1) := by decide +kernel
theorem dX7_init_137 : decode cX7_init 137 = .ok (.bipush 10, 2) := by decide +kernel
theorem dX7_init_139 : decode cX7_init 139 = .ok (.newarray .int, 2) := by decide +kernel
theorem dX7_init_141 : decode cX7_init 141 = .ok (.putfield 62, 3) := by decide +kernel
theorem dX7_init_144 : decode cX7_init 144 = .ok (.aload_n 0, 1) := by decide +kernel
theorem dX7_init_145 : decode cX7_init 145 = .ok (.bipush 16, 2) := by decide +kernel
theorem dX7_init_147 : decode cX7_init 147 = .ok (.newarray .int, 2) := by decide +kernel
theorem dX7_init_149 : decode cX7_init 149 = .ok (.putfield 65, 3) := by decide +kernel
theorem dX7_init_152 : decode cX7_init 152 = .ok (.aload_n 0, 1) := by decide +kernel
theorem dX7_init_153 : decode cX7_init 153 = .ok (.bipush 8, 2) := by decide +kernel
theorem dX7_init_155 : decode cX7_init 155 = .ok (.newarray .int, 2) := by decide +kernel
theorem dX7_init_157 : decode cX7_init 157 = .ok (.putfield 68, 3) := by decide +kernel
theorem dX7_init_160 : decode cX7_init 160 = .ok (.aload_n 0, 1) := by decide +kernel
theorem dX7_init_161 : decode cX7_init 161 = .ok (.bipush 8, 2) := by decide +kernel
theorem dX7_init_163 : decode cX7_init 163 = .ok (.newarray .int, 2) := by decide +kernel
theorem dX7_init_165 : decode cX7_init 165 = .ok (.putfield 71, 3) := by decide +kernel
theorem dX7_init_168 : decode cX7_init 168 = .ok (.aload_n 0, 1) := by decide +kernel
theorem dX7_init_169 : decode cX7_init 169 = .ok (.bipush 28, 2) := by decide +kernel
theorem dX7_init_171 : decode cX7_init 171 = .ok (.newarray .int, 2) := by decide +kernel
theorem dX7_init_173 : decode cX7_init 173 = .ok (.putfield 74, 3) := by decide +kernel
theorem dX7_init_176 : decode cX7_init 176 = .ok (.aload_n 0, 1) := by decide +kernel
theorem dX7_init_177 : decode cX7_init 177 = .ok (.bipush 16, 2) := by decide +kernel
theorem dX7_init_179 : decode cX7_init 179 = .ok (.newarray .int, 2) := by decide +kernel
theorem dX7_init_181 : decode cX7_init 181 = .ok (.putfield 77, 3) := by decide +kernel
theorem dX7_init_184 : decode cX7_init 184 = .ok (.iconst 0, 1) := by decide +kernel
theorem dX7_init_185 : decode cX7_init 185 = .ok (.istore_n 1, 1) := by decide +kernel
theorem dX7_init_186 : decode cX7_init 186 = .ok (.iload_n 1, 1) := by decide +kernel
theorem dX7_init_187 : decode cX7_init 187 = .ok (.bipush 8, 2) := by decide +kernel
theorem dX7_init_189 : decode cX7_init 189 = .ok (.if_icmp .ge 16, 3) := by decide +kernel
theorem dX7_init_192 : decode cX7_init 192 = .ok (.aload_n 0, 1) := by decide +kernel
theorem dX7_init_193 : decode cX7_init 193 = .ok (.getfield 7, 3) := by decide +kernel
theorem dX7_init_196 : decode cX7_init 196 = .ok (.iload_n 1, 1) := by decide +kernel
theorem dX7_init_197 : decode cX7_init 197 = .ok (.iconst (-1), 1) := by decide +kernel
theorem dX7_init_198 : decode cX7_init 198 = .ok (.iastore, 1) := by decide +kernel
theorem dX7_init_199 : decode cX7_init 199 = .ok (.iinc 1 1, 3) := by decide +kernel
theorem dX7_init_202 : decode cX7_init 202 = .ok (.goto (-16), 3) := by decide +kernel
theorem dX7_init_205 : decode cX7_init 205 = .ok (.return_, 1) := by decide +kernel
theorem dX7_in_0 : decode cX7_in 0 = .ok (.iload_n 0, 1) := by decide +kernel
theorem dX7_in_1 : decode cX7_in 1 = .ok (.iload_n 1, 1) := by decide +kernel
theorem dX7_in_2 : decode cX7_in 2 = .ok (.if_icmp .lt 12, 3) := by decide +kernel
theorem dX7_in_5 : decode cX7_in 5 = .ok (.iload_n 0, 1) := by decide +kernel
theorem dX7_in_6 : decode cX7_in 6 = .ok (.iload_n 2, 1) := by decide +kernel
theorem dX7_in_7 : decode cX7_in 7 = .ok (.if_icmp .gt 7, 3) := by decide +kernel
theorem dX7_in_10 : decode cX7_in 10 = .ok (.iconst 1, 1) := by decide +kernel
theorem dX7_in_11 : decode cX7_in 11 = .ok (.goto 4, 3) := by decide +kernel
theorem dX7_in_14 : decode cX7_in 14 = .ok (.iconst 0, 1) := by decide +kernel
theorem dX7_in_15 : decode cX7_in 15 = .ok (.ireturn, 1) := by decide +kernel
theorem dX7_has_0 : decode cX7_has 0 = .ok (.iload_n 0, 1) := by decide +kernel
theorem dX7_has_1 : decode cX7_has 1 = .ok (.iload_n 1, 1) := by decide +kernel
theorem dX7_has_2 : decode cX7_has 2 = .ok (.ishr, 1) := by decide +kernel
theorem dX7_has_3 : decode cX7_has 3 = .ok (.iconst 1, 1) := by decide +kernel
theorem dX7_has_4 : decode cX7_has 4 = .ok (.iand, 1) := by decide +kernel
theorem dX7_has_5 : decode cX7_has 5 = .ok (.iconst 1, 1) := by decide +kernel
theorem dX7_has_6 : decode cX7_has 6 = .ok (.if_icmp .ne 7, 3) := by decide +kernel
theorem dX7_has_9 : decode cX7_has 9 = .ok (.iconst 1, 1) := by decide +kernel
theorem dX7_has_10 : decode cX7_has 10 = .ok (.goto 4, 3) := by decide +kernel
theorem dX7_has_13 : decode cX7_has 13 = .ok (.iconst 0, 1) := by decide +kernel
theorem dX7_has_14 : decode cX7_has 14 = .ok (.ireturn, 1) := by decide +kernel
theorem dX7_bits_0 : decode cX7_bits 0 = .ok (.iconst 0, 1) := by decide +kernel
theorem dX7_bits_1 : decode cX7_bits 1 = .ok (.istore_n 1, 1) := by decide +kernel
theorem dX7_bits_2 : decode cX7_bits 2 = .ok (.iload_n 0, 1) := by decide +kernel
theorem dX7_bits_3 : decode cX7_bits 3 = .ok (.istore_n 2, 1) := by decide +kernel
theorem dX7_bits_4 : decode cX7_bits 4 = .ok (.iload_n 2, 1) := by decide +kernel
theorem dX7_bits_5 : decode cX7_bits 5 = .ok (.ifCond .eq 15, 3) := by decide +kernel
theorem dX7_bits_8 : decode cX7_bits 8 = .ok (.iinc 1 1, 3) := by decide +kernel
theorem dX7_bits_11 : decode cX7_bits 11 = .ok (.iload_n 2, 1) := by decide +kernel
theorem dX7_bits_12 : decode cX7_bits 12 = .ok (.iload_n 2, 1) := by decide +kernel
theorem dX7_bits_13 : decode cX7_bits 13 = .ok (.iconst 1, 1) := by decide +kernel
theorem dX7_bits_14 : decode cX7_bits 14 = .ok (.isub, 1) := by decide +kernel
theorem dX7_bits_15 : decode cX7_bits 15 = .ok (.iand, 1) := by decide +kernel
theorem dX7_bits_16 : decode cX7_bits 16 = .ok (.istore_n 2, 1) := by decide +kernel
theorem dX7_bits_17 : decode cX7_bits 17 = .ok (.goto (-13), 3) := by decide +kernel
theorem dX7_bits_20 : decode cX7_bits 20 = .ok (.iload_n 1, 1) := by decide +kernel
theorem dX7_bits_21 : decode cX7_bits 21 = .ok (.ireturn, 1) := by decide +kernel
theorem dX7_least_0 : decode cX7_least 0 = .ok (.iload_n 0, 1) := by decide +kernel
theorem dX7_least_1 : decode cX7_least 1 = .ok (.iload_n 1, 1) := by decide +kernel
theorem dX7_least_2 : decode cX7_least 2 = .ok (.if_icmp .ge 7, 3) := by decide +kernel
theorem dX7_least_5 : decode cX7_least 5 = .ok (.iload_n 0, 1) := by decide +kernel
theorem dX7_least_6 : decode cX7_least 6 = .ok (.goto 4, 3) := by decide +kernel
theorem dX7_least_9 : decode cX7_least 9 = .ok (.iload_n 1, 1) := by decide +kernel
theorem dX7_least_10 : decode cX7_least 10 = .ok (.ireturn, 1) := by decide +kernel
theorem dX7_meets_0 : decode cX7_meets 0 = .ok (.aload_n 0, 1) := by decide +kernel
theorem dX7_meets_1 : decode cX7_meets 1 = .ok (.iload_n 1, 1) := by decide +kernel
theorem dX7_meets_2 : decode cX7_meets 2 = .ok (.putfield 80, 3) := by decide +kernel
theorem dX7_meets_5 : decode cX7_meets 5 = .ok (.ldc 84, 2) := by decide +kernel
theorem dX7_meets_7 : decode cX7_meets 7 = .ok (.iload_n 1, 1) := by decide +kernel
theorem dX7_meets_8 : decode cX7_meets 8 = .ok (.isub, 1) := by decide +kernel
theorem dX7_meets_9 : decode cX7_meets 9 = .ok (.ireturn, 1) := by decide +kernel
theorem dX7_well_0 : decode cX7_well 0 = .ok (.aload_n 0, 1) := by decide +kernel
theorem dX7_well_1 : decode cX7_well 1 = .ok (.iconst 0, 1) := by decide +kernel
theorem dX7_well_2 : decode cX7_well 2 = .ok (.putfield 80, 3) := by decide +kernel
theorem dX7_well_5 : decode cX7_well 5 = .ok (.iload_n 1, 1) := by decide +kernel
theorem dX7_well_6 : decode cX7_well 6 = .ok (.ireturn, 1) := by decide +kernel
theorem dX7_status_0 : decode cX7_status 0 = .ok (.aload_n 0, 1) := by decide +kernel
theorem dX7_status_1 : decode cX7_status 1 = .ok (.getfield 80, 3) := by decide +kernel
theorem dX7_status_4 : decode cX7_status 4 = .ok (.ireturn, 1) := by decide +kernel
theorem dX7_isRow_0 : decode cX7_isRow 0 = .ok (.iload_n 0, 1) := by decide +kernel
theorem dX7_isRow_1 : decode cX7_isRow 1 = .ok (.iconst 0, 1) := by decide +kernel
theorem dX7_isRow_2 : decode cX7_isRow 2 = .ok (.bipush 7, 2) := by decide +kernel
theorem dX7_isRow_4 : decode cX7_isRow 4 = .ok (.invokestatic 85, 3) := by decide +kernel
theorem dX7_isRow_7 : decode cX7_isRow 7 = .ok (.ireturn, 1) := by decide +kernel
theorem dX7_cut_0 : decode cX7_cut 0 = .ok (.iload_n 0, 1) := by decide +kernel
theorem dX7_cut_1 : decode cX7_cut 1 = .ok (.ifCond .ne 8, 3) := by decide +kernel
theorem dX7_cut_4 : decode cX7_cut 4 = .ok (.iload_n 1, 1) := by decide +kernel
theorem dX7_cut_5 : decode cX7_cut 5 = .ok (.i2b, 1) := by decide +kernel
theorem dX7_cut_6 : decode cX7_cut 6 = .ok (.goto 14, 3) := by decide +kernel
theorem dX7_cut_9 : decode cX7_cut 9 = .ok (.iload_n 0, 1) := by decide +kernel
theorem dX7_cut_10 : decode cX7_cut 10 = .ok (.iconst 1, 1) := by decide +kernel
theorem dX7_cut_11 : decode cX7_cut 11 = .ok (.if_icmp .ne 8, 3) := by decide +kernel
theorem dX7_cut_14 : decode cX7_cut 14 = .ok (.iload_n 1, 1) := by decide +kernel
theorem dX7_cut_15 : decode cX7_cut 15 = .ok (.i2s, 1) := by decide +kernel
theorem dX7_cut_16 : decode cX7_cut 16 = .ok (.goto 4, 3) := by decide +kernel
theorem dX7_cut_19 : decode cX7_cut 19 = .ok (.iload_n 1, 1) := by decide +kernel
theorem dX7_cut_20 : decode cX7_cut 20 = .ok (.ireturn, 1) := by decide +kernel
theorem dX7_row_0 : decode cX7_row 0 = .ok (.iload_n 1, 1) := by decide +kernel
theorem dX7_row_1 : decode cX7_row 1 = .ok (.invokestatic 89, 3) := by decide +kernel
theorem dX7_row_4 : decode cX7_row 4 = .ok (.ifCond .eq 18, 3) := by decide +kernel
theorem dX7_row_7 : decode cX7_row 7 = .ok (.iload_n 2, 1) := by decide +kernel
theorem dX7_row_8 : decode cX7_row 8 = .ok (.iconst 0, 1) := by decide +kernel
theorem dX7_row_9 : decode cX7_row 9 = .ok (.iconst 2, 1) := by decide +kernel
theorem dX7_row_10 : decode cX7_row 10 = .ok (.invokestatic 85, 3) := by decide +kernel
theorem dX7_row_13 : decode cX7_row 13 = .ok (.ifCond .eq 9, 3) := by decide +kernel
theorem dX7_row_16 : decode cX7_row 16 = .ok (.iload_n 3, 1) := by decide +kernel
theorem dX7_row_17 : decode cX7_row 17 = .ok (.bipush 40, 2) := by decide +kernel
theorem dX7_row_19 : decode cX7_row 19 = .ok (.if_icmp .le 6, 3) := by decide +kernel
theorem dX7_row_22 : decode cX7_row 22 = .ok (.ldc 93, 2) := by decide +kernel
theorem dX7_row_24 : decode cX7_row 24 = .ok (.ireturn, 1) := by decide +kernel
theorem dX7_row_25 : decode cX7_row 25 = .ok (.iload_n 3, 1) := by decide +kernel
theorem dX7_row_26 : decode cX7_row 26 = .ok (.ifCond .ge 9, 3) := by decide +kernel
theorem dX7_row_29 : decode cX7_row 29 = .ok (.aload_n 0, 1) := by decide +kernel
theorem dX7_row_30 : decode cX7_row 30 = .ok (.iconst 4, 1) := by decide +kernel
theorem dX7_row_31 : decode cX7_row 31 = .ok (.invokevirtual 94, 3) := by decide +kernel
theorem dX7_row_34 : decode cX7_row 34 = .ok (.ireturn, 1) := by decide +kernel
theorem dX7_row_35 : decode cX7_row 35 = .ok (.aload_n 0, 1) := by decide +kernel
theorem dX7_row_36 : decode cX7_row 36 = .ok (.getfield 7, 3) := by decide +kernel
theorem dX7_row_39 : decode cX7_row 39 = .ok (.iload_n 1, 1) := by decide +kernel
theorem dX7_row_40 : decode cX7_row 40 = .ok (.iload_n 3, 1) := by decide +kernel
theorem dX7_row_41 : decode cX7_row 41 = .ok (.iastore, 1) := by decide +kernel
theorem dX7_row_42 : decode cX7_row 42 = .ok (.aload_n 0, 1) := by decide +kernel
theorem dX7_row_43 : decode cX7_row 43 = .ok (.getfield 13, 3) := by decide +kernel
theorem dX7_row_46 : decode cX7_row 46 = .ok (.iload_n 1, 1) := by decide +kernel
theorem dX7_row_47 : decode cX7_row 47 = .ok (.iload_n 2, 1) := by decide +kernel
theorem dX7_row_48 : decode cX7_row 48 = .ok (.iastore, 1) := by decide +kernel
theorem dX7_row_49 : decode cX7_row 49 = .ok (.iconst 0, 1) := by decide +kernel
theorem dX7_row_50 : decode cX7_row 50 = .ok (.istore 4, 2) := by decide +kernel
theorem dX7_row_52 : decode cX7_row 52 = .ok (.iload 4, 2) := by decide +kernel
theorem dX7_row_54 : decode cX7_row 54 = .ok (.bipush 40, 2) := by decide +kernel
theorem dX7_row_56 : decode cX7_row 56 = .ok (.if_icmp .ge 22, 3) := by decide +kernel
theorem dX7_row_59 : decode cX7_row 59 = .ok (.aload_n 0, 1) := by decide +kernel
theorem dX7_row_60 : decode cX7_row 60 = .ok (.getfield 16, 3) := by decide +kernel
theorem dX7_row_63 : decode cX7_row 63 = .ok (.bipush 40, 2) := by decide +kernel
theorem dX7_row_65 : decode cX7_row 65 = .ok (.iload_n 1, 1) := by decide +kernel
theorem dX7_row_66 : decode cX7_row 66 = .ok (.imul, 1) := by decide +kernel
theorem dX7_row_67 : decode cX7_row 67 = .ok (.iload 4, 2) := by decide +kernel
theorem dX7_row_69 : decode cX7_row 69 = .ok (.iadd, 1) := by decide +kernel
theorem dX7_row_70 : decode cX7_row 70 = .ok (.iconst 0, 1) := by decide +kernel
theorem dX7_row_71 : decode cX7_row 71 = .ok (.iastore, 1) := by decide +kernel
theorem dX7_row_72 : decode cX7_row 72 = .ok (.iinc 4 1, 3) := by decide +kernel
theorem dX7_row_75 : decode cX7_row 75 = .ok (.goto (-23), 3) := by decide +kernel
theorem dX7_row_78 : decode cX7_row 78 = .ok (.aload_n 0, 1) := by decide +kernel
theorem dX7_row_79 : decode cX7_row 79 = .ok (.iload_n 3, 1) := by decide +kernel
theorem dX7_row_80 : decode cX7_row 80 = .ok (.invokevirtual 98, 3) := by decide +kernel
theorem dX7_row_83 : decode cX7_row 83 = .ok (.ireturn, 1) := by decide +kernel
theorem dX7_set_0 : decode cX7_set 0 = .ok (.iload_n 1, 1) := by decide +kernel
theorem dX7_set_1 : decode cX7_set 1 = .ok (.invokestatic 89, 3) := by decide +kernel
theorem dX7_set_4 : decode cX7_set 4 = .ok (.ifCond .ne 6, 3) := by decide +kernel
theorem dX7_set_7 : decode cX7_set 7 = .ok (.ldc 93, 2) := by decide +kernel
theorem dX7_set_9 : decode cX7_set 9 = .ok (.ireturn, 1) := by decide +kernel
theorem dX7_set_10 : decode cX7_set 10 = .ok (.aload_n 0, 1) := by decide +kernel
theorem dX7_set_11 : decode cX7_set 11 = .ok (.getfield 7, 3) := by decide +kernel
theorem dX7_set_14 : decode cX7_set 14 = .ok (.iload_n 1, 1) := by decide +kernel
theorem dX7_set_15 : decode cX7_set 15 = .ok (.iaload, 1) := by decide +kernel
theorem dX7_set_16 : decode cX7_set 16 = .ok (.ifCond .ge 9, 3) := by decide +kernel
theorem dX7_set_19 : decode cX7_set 19 = .ok (.aload_n 0, 1) := by decide +kernel
theorem dX7_set_20 : decode cX7_set 20 = .ok (.iconst 1, 1) := by decide +kernel
theorem dX7_set_21 : decode cX7_set 21 = .ok (.invokevirtual 94, 3) := by decide +kernel
theorem dX7_set_24 : decode cX7_set 24 = .ok (.ireturn, 1) := by decide +kernel
theorem dX7_set_25 : decode cX7_set 25 = .ok (.iload_n 2, 1) := by decide +kernel
theorem dX7_set_26 : decode cX7_set 26 = .ok (.iconst 0, 1) := by decide +kernel
theorem dX7_set_27 : decode cX7_set 27 = .ok (.aload_n 0, 1) := by decide +kernel
theorem dX7_set_28 : decode cX7_set 28 = .ok (.getfield 7, 3) := by decide +kernel
theorem dX7_set_31 : decode cX7_set 31 = .ok (.iload_n 1, 1) := by decide +kernel
theorem dX7_set_32 : decode cX7_set 32 = .ok (.iaload, 1) := by decide +kernel
theorem dX7_set_33 : decode cX7_set 33 = .ok (.iconst 1, 1) := by decide +kernel
theorem dX7_set_34 : decode cX7_set 34 = .ok (.isub, 1) := by decide +kernel
theorem dX7_set_35 : decode cX7_set 35 = .ok (.invokestatic 85, 3) := by decide +kernel
theorem dX7_set_38 : decode cX7_set 38 = .ok (.ifCond .ne 9, 3) := by decide +kernel
theorem dX7_set_41 : decode cX7_set 41 = .ok (.aload_n 0, 1) := by decide +kernel
theorem dX7_set_42 : decode cX7_set 42 = .ok (.iconst 2, 1) := by decide +kernel
theorem dX7_set_43 : decode cX7_set 43 = .ok (.invokevirtual 94, 3) := by decide +kernel
theorem dX7_set_46 : decode cX7_set 46 = .ok (.ireturn, 1) := by decide +kernel
theorem dX7_set_47 : decode cX7_set 47 = .ok (.aload_n 0, 1) := by decide +kernel
theorem dX7_set_48 : decode cX7_set 48 = .ok (.getfield 16, 3) := by decide +kernel
theorem dX7_set_51 : decode cX7_set 51 = .ok (.bipush 40, 2) := by decide +kernel
theorem dX7_set_53 : decode cX7_set 53 = .ok (.iload_n 1, 1) := by decide +kernel
theorem dX7_set_54 : decode cX7_set 54 = .ok (.imul, 1) := by decide +kernel
theorem dX7_set_55 : decode cX7_set 55 = .ok (.iload_n 2, 1) := by decide +kernel
theorem dX7_set_56 : decode cX7_set 56 = .ok (.iadd, 1) := by decide +kernel
theorem dX7_set_57 : decode cX7_set 57 = .ok (.aload_n 0, 1) := by decide +kernel
theorem dX7_set_58 : decode cX7_set 58 = .ok (.getfield 13, 3) := by decide +kernel
theorem dX7_set_61 : decode cX7_set 61 = .ok (.iload_n 1, 1) := by decide +kernel
theorem dX7_set_62 : decode cX7_set 62 = .ok (.iaload, 1) := by decide +kernel
theorem dX7_set_63 : decode cX7_set 63 = .ok (.iload_n 3, 1) := by decide +kernel
theorem dX7_set_64 : decode cX7_set 64 = .ok (.invokestatic 101, 3) := by decide +kernel
theorem dX7_set_67 : decode cX7_set 67 = .ok (.iastore, 1) := by decide +kernel
theorem dX7_set_68 : decode cX7_set 68 = .ok (.aload_n 0, 1) := by decide +kernel
theorem dX7_set_69 : decode cX7_set 69 = .ok (.aload_n 0, 1) := by decide +kernel
theorem dX7_set_70 : decode cX7_set 70 = .ok (.getfield 16, 3) := by decide +kernel
theorem dX7_set_73 : decode cX7_set 73 = .ok (.bipush 40, 2) := by decide +kernel
theorem dX7_set_75 : decode cX7_set 75 = .ok (.iload_n 1, 1) := by decide +kernel
theorem dX7_set_76 : decode cX7_set 76 = .ok (.imul, 1) := by decide +kernel
theorem dX7_set_77 : decode cX7_set 77 = .ok (.iload_n 2, 1) := by decide +kernel
theorem dX7_set_78 : decode cX7_set 78 = .ok (.iadd, 1) := by decide +kernel
theorem dX7_set_79 : decode cX7_set 79 = .ok (.iaload, 1) := by decide +kernel
theorem dX7_set_80 : decode cX7_set 80 = .ok (.invokevirtual 98, 3) := by decide +kernel
theorem dX7_set_83 : decode cX7_set 83 = .ok (.ireturn, 1) := by decide +kernel
theorem dX7_isPart_0 : decode cX7_isPart 0 = .ok (.iload_n 2, 1) := by decide +kernel
theorem dX7_isPart_1 : decode cX7_isPart 1 = .ok (.ifCond .lt 33, 3) := by decide +kernel
theorem dX7_isPart_4 : decode cX7_isPart 4 = .ok (.iload_n 3, 1) := by decide +kernel
theorem dX7_isPart_5 : decode cX7_isPart 5 = .ok (.ifCond .lt 29, 3) := by decide +kernel
theorem dX7_isPart_8 : decode cX7_isPart 8 = .ok (.iload_n 2, 1) := by decide +kernel
theorem dX7_isPart_9 : decode cX7_isPart 9 = .ok (.aload_n 0, 1) := by decide +kernel
theorem dX7_isPart_10 : decode cX7_isPart 10 = .ok (.getfield 7, 3) := by decide +kernel
theorem dX7_isPart_13 : decode cX7_isPart 13 = .ok (.iload_n 1, 1) := by decide +kernel
theorem dX7_isPart_14 : decode cX7_isPart 14 = .ok (.iaload, 1) := by decide +kernel
theorem dX7_isPart_15 : decode cX7_isPart 15 = .ok (.if_icmp .gt 19, 3) := by decide +kernel
theorem dX7_isPart_18 : decode cX7_isPart 18 = .ok (.iload_n 3, 1) := by decide +kernel
theorem dX7_isPart_19 : decode cX7_isPart 19 = .ok (.aload_n 0, 1) := by decide +kernel
theorem dX7_isPart_20 : decode cX7_isPart 20 = .ok (.getfield 7, 3) := by decide +kernel
theorem dX7_isPart_23 : decode cX7_isPart 23 = .ok (.iload_n 1, 1) := by decide +kernel
theorem dX7_isPart_24 : decode cX7_isPart 24 = .ok (.iaload, 1) := by decide +kernel
theorem dX7_isPart_25 : decode cX7_isPart 25 = .ok (.iload_n 2, 1) := by decide +kernel
theorem dX7_isPart_26 : decode cX7_isPart 26 = .ok (.isub, 1) := by decide +kernel
theorem dX7_isPart_27 : decode cX7_isPart 27 = .ok (.if_icmp .gt 7, 3) := by decide +kernel
theorem dX7_isPart_30 : decode cX7_isPart 30 = .ok (.iconst 1, 1) := by decide +kernel
theorem dX7_isPart_31 : decode cX7_isPart 31 = .ok (.goto 4, 3) := by decide +kernel
theorem dX7_isPart_34 : decode cX7_isPart 34 = .ok (.iconst 0, 1) := by decide +kernel
theorem dX7_isPart_35 : decode cX7_isPart 35 = .ok (.ireturn, 1) := by decide +kernel
theorem dX7_copy_0 : decode cX7_copy 0 = .ok (.iload_n 1, 1) := by decide +kernel
theorem dX7_copy_1 : decode cX7_copy 1 = .ok (.invokestatic 89, 3) := by decide +kernel
theorem dX7_copy_4 : decode cX7_copy 4 = .ok (.ifCond .eq 10, 3) := by decide +kernel
theorem dX7_copy_7 : decode cX7_copy 7 = .ok (.iload_n 3, 1) := by decide +kernel
theorem dX7_copy_8 : decode cX7_copy 8 = .ok (.invokestatic 89, 3) := by decide +kernel
theorem dX7_copy_11 : decode cX7_copy 11 = .ok (.ifCond .ne 6, 3) := by decide +kernel
theorem dX7_copy_14 : decode cX7_copy 14 = .ok (.ldc 93, 2) := by decide +kernel
theorem dX7_copy_16 : decode cX7_copy 16 = .ok (.ireturn, 1) := by decide +kernel
theorem dX7_copy_17 : decode cX7_copy 17 = .ok (.aload_n 0, 1) := by decide +kernel
theorem dX7_copy_18 : decode cX7_copy 18 = .ok (.getfield 7, 3) := by decide +kernel
theorem dX7_copy_21 : decode cX7_copy 21 = .ok (.iload_n 1, 1) := by decide +kernel
theorem dX7_copy_22 : decode cX7_copy 22 = .ok (.iaload, 1) := by decide +kernel
theorem dX7_copy_23 : decode cX7_copy 23 = .ok (.ifCond .lt 12, 3) := by decide +kernel
theorem dX7_copy_26 : decode cX7_copy 26 = .ok (.aload_n 0, 1) := by decide +kernel
theorem dX7_copy_27 : decode cX7_copy 27 = .ok (.getfield 7, 3) := by decide +kernel
theorem dX7_copy_30 : decode cX7_copy 30 = .ok (.iload_n 3, 1) := by decide +kernel
theorem dX7_copy_31 : decode cX7_copy 31 = .ok (.iaload, 1) := by decide +kernel
theorem dX7_copy_32 : decode cX7_copy 32 = .ok (.ifCond .ge 9, 3) := by decide +kernel
theorem dX7_copy_35 : decode cX7_copy 35 = .ok (.aload_n 0, 1) := by decide +kernel
theorem dX7_copy_36 : decode cX7_copy 36 = .ok (.iconst 1, 1) := by decide +kernel
theorem dX7_copy_37 : decode cX7_copy 37 = .ok (.invokevirtual 94, 3) := by decide +kernel
theorem dX7_copy_40 : decode cX7_copy 40 = .ok (.ireturn, 1) := by decide +kernel
theorem dX7_copy_41 : decode cX7_copy 41 = .ok (.aload_n 0, 1) := by decide +kernel
theorem dX7_copy_42 : decode cX7_copy 42 = .ok (.getfield 13, 3) := by decide +kernel
theorem dX7_copy_45 : decode cX7_copy 45 = .ok (.iload_n 1, 1) := by decide +kernel
theorem dX7_copy_46 : decode cX7_copy 46 = .ok (.iaload, 1) := by decide +kernel
theorem dX7_copy_47 : decode cX7_copy 47 = .ok (.aload_n 0, 1) := by decide +kernel
theorem dX7_copy_48 : decode cX7_copy 48 = .ok (.getfield 13, 3) := by decide +kernel
theorem dX7_copy_51 : decode cX7_copy 51 = .ok (.iload_n 3, 1) := by decide +kernel
theorem dX7_copy_52 : decode cX7_copy 52 = .ok (.iaload, 1) := by decide +kernel
theorem dX7_copy_53 : decode cX7_copy 53 = .ok (.if_icmp .eq 9, 3) := by decide +kernel
theorem dX7_copy_56 : decode cX7_copy 56 = .ok (.aload_n 0, 1) := by decide +kernel
theorem dX7_copy_57 : decode cX7_copy 57 = .ok (.iconst 5, 1) := by decide +kernel
theorem dX7_copy_58 : decode cX7_copy 58 = .ok (.invokevirtual 94, 3) := by decide +kernel
theorem dX7_copy_61 : decode cX7_copy 61 = .ok (.ireturn, 1) := by decide +kernel
theorem dX7_copy_62 : decode cX7_copy 62 = .ok (.aload_n 0, 1) := by decide +kernel
theorem dX7_copy_63 : decode cX7_copy 63 = .ok (.iload_n 1, 1) := by decide +kernel
theorem dX7_copy_64 : decode cX7_copy 64 = .ok (.iload_n 2, 1) := by decide +kernel
theorem dX7_copy_65 : decode cX7_copy 65 = .ok (.iload 5, 2) := by decide +kernel
theorem dX7_copy_67 : decode cX7_copy 67 = .ok (.invokevirtual 105, 3) := by decide +kernel
theorem dX7_copy_70 : decode cX7_copy 70 = .ok (.ifCond .eq 15, 3) := by decide +kernel
theorem dX7_copy_73 : decode cX7_copy 73 = .ok (.aload_n 0, 1) := by decide +kernel
theorem dX7_copy_74 : decode cX7_copy 74 = .ok (.iload_n 3, 1) := by decide +kernel
theorem dX7_copy_75 : decode cX7_copy 75 = .ok (.iload 4, 2) := by decide +kernel
theorem dX7_copy_77 : decode cX7_copy 77 = .ok (.iload 5, 2) := by decide +kernel
theorem dX7_copy_79 : decode cX7_copy 79 = .ok (.invokevirtual 105, 3) := by decide +kernel
theorem dX7_copy_82 : decode cX7_copy 82 = .ok (.ifCond .ne 9, 3) := by decide +kernel
theorem dX7_copy_85 : decode cX7_copy 85 = .ok (.aload_n 0, 1) := by decide +kernel
theorem dX7_copy_86 : decode cX7_copy 86 = .ok (.iconst 2, 1) := by decide +kernel
theorem dX7_copy_87 : decode cX7_copy 87 = .ok (.invokevirtual 94, 3) := by decide +kernel
theorem dX7_copy_90 : decode cX7_copy 90 = .ok (.ireturn, 1) := by decide +kernel
theorem dX7_copy_91 : decode cX7_copy 91 = .ok (.iload_n 1, 1) := by decide +kernel
theorem dX7_copy_92 : decode cX7_copy 92 = .ok (.iload_n 3, 1) := by decide +kernel
theorem dX7_copy_93 : decode cX7_copy 93 = .ok (.if_icmp .ne 13, 3) := by decide +kernel
theorem dX7_copy_96 : decode cX7_copy 96 = .ok (.iload_n 2, 1) := by decide +kernel
theorem dX7_copy_97 : decode cX7_copy 97 = .ok (.iload 4, 2) := by decide +kernel
theorem dX7_copy_99 : decode cX7_copy 99 = .ok (.if_icmp .ge 7, 3) := by decide +kernel
theorem dX7_copy_102 : decode cX7_copy 102 = .ok (.iconst 1, 1) := by decide +kernel
theorem dX7_copy_103 : decode cX7_copy 103 = .ok (.goto 4, 3) := by decide +kernel
theorem dX7_copy_106 : decode cX7_copy 106 = .ok (.iconst 0, 1) := by decide +kernel
theorem dX7_copy_107 : decode cX7_copy 107 = .ok (.istore 6, 2) := by decide +kernel
theorem dX7_copy_109 : decode cX7_copy 109 = .ok (.iconst 0, 1) := by decide +kernel
theorem dX7_copy_110 : decode cX7_copy 110 = .ok (.istore 7, 2) := by decide +kernel
theorem dX7_copy_112 : decode cX7_copy 112 = .ok (.iload 7, 2) := by decide +kernel
theorem dX7_copy_114 : decode cX7_copy 114 = .ok (.iload 5, 2) := by decide +kernel
theorem dX7_copy_116 : decode cX7_copy 116 = .ok (.if_icmp .ge 57, 3) := by decide +kernel
theorem dX7_copy_119 : decode cX7_copy 119 = .ok (.iload 6, 2) := by decide +kernel
theorem dX7_copy_121 : decode cX7_copy 121 = .ok (.ifCond .eq 13, 3) := by decide +kernel
theorem dX7_copy_124 : decode cX7_copy 124 = .ok (.iload 5, 2) := by decide +kernel
theorem dX7_copy_126 : decode cX7_copy 126 = .ok (.iconst 1, 1) := by decide +kernel
theorem dX7_copy_127 : decode cX7_copy 127 = .ok (.isub, 1) := by decide +kernel
theorem dX7_copy_128 : decode cX7_copy 128 = .ok (.iload 7, 2) := by decide +kernel
theorem dX7_copy_130 : decode cX7_copy 130 = .ok (.isub, 1) := by decide +kernel
theorem dX7_copy_131 : decode cX7_copy 131 = .ok (.goto 5, 3) := by decide +kernel
theorem dX7_copy_134 : decode cX7_copy 134 = .ok (.iload 7, 2) := by decide +kernel
theorem dX7_copy_136 : decode cX7_copy 136 = .ok (.istore 8, 2) := by decide +kernel
theorem dX7_copy_138 : decode cX7_copy 138 = .ok (.aload_n 0, 1) := by decide +kernel
theorem dX7_copy_139 : decode cX7_copy 139 = .ok (.getfield 16, 3) := by decide +kernel
theorem dX7_copy_142 : decode cX7_copy 142 = .ok (.bipush 40, 2) := by decide +kernel
theorem dX7_copy_144 : decode cX7_copy 144 = .ok (.iload_n 3, 1) := by decide +kernel
theorem dX7_copy_145 : decode cX7_copy 145 = .ok (.imul, 1) := by decide +kernel
theorem dX7_copy_146 : decode cX7_copy 146 = .ok (.iload 4, 2) := by decide +kernel
theorem dX7_copy_148 : decode cX7_copy 148 = .ok (.iadd, 1) := by decide +kernel
theorem dX7_copy_149 : decode cX7_copy 149 = .ok (.iload 8, 2) := by decide +kernel
theorem dX7_copy_151 : decode cX7_copy 151 = .ok (.iadd, 1) := by decide +kernel
theorem dX7_copy_152 : decode cX7_copy 152 = .ok (.aload_n 0, 1) := by decide +kernel
theorem dX7_copy_153 : decode cX7_copy 153 = .ok (.getfield 16, 3) := by decide +kernel
theorem dX7_copy_156 : decode cX7_copy 156 = .ok (.bipush 40, 2) := by decide +kernel
theorem dX7_copy_158 : decode cX7_copy 158 = .ok (.iload_n 1, 1) := by decide +kernel
theorem dX7_copy_159 : decode cX7_copy 159 = .ok (.imul, 1) := by decide +kernel
theorem dX7_copy_160 : decode cX7_copy 160 = .ok (.iload_n 2, 1) := by decide +kernel
theorem dX7_copy_161 : decode cX7_copy 161 = .ok (.iadd, 1) := by decide +kernel
theorem dX7_copy_162 : decode cX7_copy 162 = .ok (.iload 8, 2) := by decide +kernel
theorem dX7_copy_164 : decode cX7_copy 164 = .ok (.iadd, 1) := by decide +kernel
theorem dX7_copy_165 : decode cX7_copy 165 = .ok (.iaload, 1) := by decide +kernel
theorem dX7_copy_166 : decode cX7_copy 166 = .ok (.iastore, 1) := by decide +kernel
theorem dX7_copy_167 : decode cX7_copy 167 = .ok (.iinc 7 1, 3) := by decide +kernel
theorem dX7_copy_170 : decode cX7_copy 170 = .ok (.goto (-58), 3) := by decide +kernel
theorem dX7_copy_173 : decode cX7_copy 173 = .ok (.aload_n 0, 1) := by decide +kernel
theorem dX7_copy_174 : decode cX7_copy 174 = .ok (.iload 5, 2) := by decide +kernel
theorem dX7_copy_176 : decode cX7_copy 176 = .ok (.invokevirtual 98, 3) := by decide +kernel
theorem dX7_copy_179 : decode cX7_copy 179 = .ok (.ireturn, 1) := by decide +kernel
theorem dX7_drop_0 : decode cX7_drop 0 = .ok (.iload_n 1, 1) := by decide +kernel
theorem dX7_drop_1 : decode cX7_drop 1 = .ok (.invokestatic 89, 3) := by decide +kernel
theorem dX7_drop_4 : decode cX7_drop 4 = .ok (.ifCond .ne 6, 3) := by decide +kernel
theorem dX7_drop_7 : decode cX7_drop 7 = .ok (.ldc 93, 2) := by decide +kernel
theorem dX7_drop_9 : decode cX7_drop 9 = .ok (.ireturn, 1) := by decide +kernel
theorem dX7_drop_10 : decode cX7_drop 10 = .ok (.aload_n 0, 1) := by decide +kernel
theorem dX7_drop_11 : decode cX7_drop 11 = .ok (.getfield 7, 3) := by decide +kernel
theorem dX7_drop_14 : decode cX7_drop 14 = .ok (.iload_n 1, 1) := by decide +kernel
theorem dX7_drop_15 : decode cX7_drop 15 = .ok (.iaload, 1) := by decide +kernel
theorem dX7_drop_16 : decode cX7_drop 16 = .ok (.ifCond .ge 9, 3) := by decide +kernel
theorem dX7_drop_19 : decode cX7_drop 19 = .ok (.aload_n 0, 1) := by decide +kernel
theorem dX7_drop_20 : decode cX7_drop 20 = .ok (.iconst 1, 1) := by decide +kernel
theorem dX7_drop_21 : decode cX7_drop 21 = .ok (.invokevirtual 94, 3) := by decide +kernel
theorem dX7_drop_24 : decode cX7_drop 24 = .ok (.ireturn, 1) := by decide +kernel
theorem dX7_drop_25 : decode cX7_drop 25 = .ok (.aload_n 0, 1) := by decide +kernel
theorem dX7_drop_26 : decode cX7_drop 26 = .ok (.getfield 7, 3) := by decide +kernel
theorem dX7_drop_29 : decode cX7_drop 29 = .ok (.iload_n 1, 1) := by decide +kernel
theorem dX7_drop_30 : decode cX7_drop 30 = .ok (.iaload, 1) := by decide +kernel
theorem dX7_drop_31 : decode cX7_drop 31 = .ok (.istore_n 2, 1) := by decide +kernel
theorem dX7_drop_32 : decode cX7_drop 32 = .ok (.aload_n 0, 1) := by decide +kernel
theorem dX7_drop_33 : decode cX7_drop 33 = .ok (.getfield 7, 3) := by decide +kernel
theorem dX7_drop_36 : decode cX7_drop 36 = .ok (.iload_n 1, 1) := by decide +kernel
theorem dX7_drop_37 : decode cX7_drop 37 = .ok (.iconst (-1), 1) := by decide +kernel
theorem dX7_drop_38 : decode cX7_drop 38 = .ok (.iastore, 1) := by decide +kernel
theorem dX7_drop_39 : decode cX7_drop 39 = .ok (.aload_n 0, 1) := by decide +kernel
theorem dX7_drop_40 : decode cX7_drop 40 = .ok (.iload_n 2, 1) := by decide +kernel
theorem dX7_drop_41 : decode cX7_drop 41 = .ok (.invokevirtual 98, 3) := by decide +kernel
theorem dX7_drop_44 : decode cX7_drop 44 = .ok (.ireturn, 1) := by decide +kernel
theorem dX7_itemAt_0 : decode cX7_itemAt 0 = .ok (.aload_n 0, 1) := by decide +kernel
theorem dX7_itemAt_1 : decode cX7_itemAt 1 = .ok (.getfield 16, 3) := by decide +kernel
theorem dX7_itemAt_4 : decode cX7_itemAt 4 = .ok (.bipush 40, 2) := by decide +kernel
theorem dX7_itemAt_6 : decode cX7_itemAt 6 = .ok (.iload_n 1, 1) := by decide +kernel
theorem dX7_itemAt_7 : decode cX7_itemAt 7 = .ok (.imul, 1) := by decide +kernel
theorem dX7_itemAt_8 : decode cX7_itemAt 8 = .ok (.iload_n 2, 1) := by decide +kernel
theorem dX7_itemAt_9 : decode cX7_itemAt 9 = .ok (.iadd, 1) := by decide +kernel
theorem dX7_itemAt_10 : decode cX7_itemAt 10 = .ok (.iaload, 1) := by decide +kernel
theorem dX7_itemAt_11 : decode cX7_itemAt 11 = .ok (.ireturn, 1) := by decide +kernel
theorem dX7_feed_0 : decode cX7_feed 0 = .ok (.iload_n 1, 1) := by decide +kernel
theorem dX7_feed_1 : decode cX7_feed 1 = .ok (.iconst 0, 1) := by decide +kernel
theorem dX7_feed_2 : decode cX7_feed 2 = .ok (.sipush 255, 3) := by decide +kernel
theorem dX7_feed_5 : decode cX7_feed 5 = .ok (.invokestatic 85, 3) := by decide +kernel
theorem dX7_feed_8 : decode cX7_feed 8 = .ok (.ifCond .ne 6, 3) := by decide +kernel
theorem dX7_feed_11 : decode cX7_feed 11 = .ok (.ldc 93, 2) := by decide +kernel
theorem dX7_feed_13 : decode cX7_feed 13 = .ok (.ireturn, 1) := by decide +kernel
theorem dX7_feed_14 : decode cX7_feed 14 = .ok (.aload_n 0, 1) := by decide +kernel
theorem dX7_feed_15 : decode cX7_feed 15 = .ok (.getfield 108, 3) := by decide +kernel
theorem dX7_feed_18 : decode cX7_feed 18 = .ok (.bipush 120, 2) := by decide +kernel
theorem dX7_feed_20 : decode cX7_feed 20 = .ok (.if_icmp .ne 6, 3) := by decide +kernel
theorem dX7_feed_23 : decode cX7_feed 23 = .ok (.ldc 111, 2) := by decide +kernel
theorem dX7_feed_25 : decode cX7_feed 25 = .ok (.ireturn, 1) := by decide +kernel
theorem dX7_feed_26 : decode cX7_feed 26 = .ok (.aload_n 0, 1) := by decide +kernel
theorem dX7_feed_27 : decode cX7_feed 27 = .ok (.getfield 19, 3) := by decide +kernel
theorem dX7_feed_30 : decode cX7_feed 30 = .ok (.aload_n 0, 1) := by decide +kernel
theorem dX7_feed_31 : decode cX7_feed 31 = .ok (.getfield 108, 3) := by decide +kernel
theorem dX7_feed_34 : decode cX7_feed 34 = .ok (.iload_n 1, 1) := by decide +kernel
theorem dX7_feed_35 : decode cX7_feed 35 = .ok (.iastore, 1) := by decide +kernel
theorem dX7_feed_36 : decode cX7_feed 36 = .ok (.aload_n 0, 1) := by decide +kernel
theorem dX7_feed_37 : decode cX7_feed 37 = .ok (.dup, 1) := by decide +kernel
theorem dX7_feed_38 : decode cX7_feed 38 = .ok (.getfield 108, 3) := by decide +kernel
theorem dX7_feed_41 : decode cX7_feed 41 = .ok (.iconst 1, 1) := by decide +kernel
theorem dX7_feed_42 : decode cX7_feed 42 = .ok (.iadd, 1) := by decide +kernel
theorem dX7_feed_43 : decode cX7_feed 43 = .ok (.putfield 108, 3) := by decide +kernel
theorem dX7_feed_46 : decode cX7_feed 46 = .ok (.aload_n 0, 1) := by decide +kernel
theorem dX7_feed_47 : decode cX7_feed 47 = .ok (.getfield 108, 3) := by decide +kernel
theorem dX7_feed_50 : decode cX7_feed 50 = .ok (.ireturn, 1) := by decide +kernel
theorem dX7_fault_0 : decode cX7_fault 0 = .ok (.aload_n 0, 1) := by decide +kernel
theorem dX7_fault_1 : decode cX7_fault 1 = .ok (.getfield 112, 3) := by decide +kernel
theorem dX7_fault_4 : decode cX7_fault 4 = .ok (.ireturn, 1) := by decide +kernel
theorem dX7_here_0 : decode cX7_here 0 = .ok (.aload_n 0, 1) := by decide +kernel
theorem dX7_here_1 : decode cX7_here 1 = .ok (.getfield 115, 3) := by decide +kernel
theorem dX7_here_4 : decode cX7_here 4 = .ok (.aload_n 0, 1) := by decide +kernel
theorem dX7_here_5 : decode cX7_here 5 = .ok (.getfield 108, 3) := by decide +kernel
theorem dX7_here_8 : decode cX7_here 8 = .ok (.if_icmp .ge 15, 3) := by decide +kernel
theorem dX7_here_11 : decode cX7_here 11 = .ok (.aload_n 0, 1) := by decide +kernel
theorem dX7_here_12 : decode cX7_here 12 = .ok (.getfield 19, 3) := by decide +kernel
theorem dX7_here_15 : decode cX7_here 15 = .ok (.aload_n 0, 1) := by decide +kernel
theorem dX7_here_16 : decode cX7_here 16 = .ok (.getfield 115, 3) := by decide +kernel
theorem dX7_here_19 : decode cX7_here 19 = .ok (.iaload, 1) := by decide +kernel
theorem dX7_here_20 : decode cX7_here 20 = .ok (.goto 4, 3) := by decide +kernel
theorem dX7_here_23 : decode cX7_here 23 = .ok (.iconst (-1), 1) := by decide +kernel
theorem dX7_here_24 : decode cX7_here 24 = .ok (.ireturn, 1) := by decide +kernel
theorem dX7_isFigure_0 : decode cX7_isFigure 0 = .ok (.iload_n 1, 1) := by decide +kernel
theorem dX7_isFigure_1 : decode cX7_isFigure 1 = .ok (.aload_n 0, 1) := by decide +kernel
theorem dX7_isFigure_2 : decode cX7_isFigure 2 = .ok (.getfield 108, 3) := by decide +kernel
theorem dX7_isFigure_5 : decode cX7_isFigure 5 = .ok (.if_icmp .ge 23, 3) := by decide +kernel
theorem dX7_isFigure_8 : decode cX7_isFigure 8 = .ok (.aload_n 0, 1) := by decide +kernel
theorem dX7_isFigure_9 : decode cX7_isFigure 9 = .ok (.getfield 19, 3) := by decide +kernel
theorem dX7_isFigure_12 : decode cX7_isFigure 12 = .ok (.iload_n 1, 1) := by decide +kernel
theorem dX7_isFigure_13 : decode cX7_isFigure 13 = .ok (.iaload, 1) := by decide +kernel
theorem dX7_isFigure_14 : decode cX7_isFigure 14 = .ok (.bipush 48, 2) := by decide +kernel
theorem dX7_isFigure_16 : decode cX7_isFigure 16 = .ok (.bipush 57, 2) := by decide +kernel
theorem dX7_isFigure_18 : decode cX7_isFigure 18 = .ok (.invokestatic 85, 3) := by decide +kernel
theorem dX7_isFigure_21 : decode cX7_isFigure 21 = .ok (.ifCond .eq 7, 3) := by decide +kernel
theorem dX7_isFigure_24 : decode cX7_isFigure 24 = .ok (.iconst 1, 1) := by decide +kernel
theorem dX7_isFigure_25 : decode cX7_isFigure 25 = .ok (.goto 4, 3) := by decide +kernel
theorem dX7_isFigure_28 : decode cX7_isFigure 28 = .ok (.iconst 0, 1) := by decide +kernel
theorem dX7_isFigure_29 : decode cX7_isFigure 29 = .ok (.ireturn, 1) := by decide +kernel
theorem dX7_run_0 : decode cX7_run 0 = .ok (.iconst 0, 1) := by decide +kernel
theorem dX7_run_1 : decode cX7_run 1 = .ok (.istore_n 1, 1) := by decide +kernel
theorem dX7_run_2 : decode cX7_run 2 = .ok (.aload_n 0, 1) := by decide +kernel
theorem dX7_run_3 : decode cX7_run 3 = .ok (.aload_n 0, 1) := by decide +kernel
theorem dX7_run_4 : decode cX7_run 4 = .ok (.getfield 115, 3) := by decide +kernel
theorem dX7_run_7 : decode cX7_run 7 = .ok (.iload_n 1, 1) := by decide +kernel
theorem dX7_run_8 : decode cX7_run 8 = .ok (.iadd, 1) := by decide +kernel
theorem dX7_run_9 : decode cX7_run 9 = .ok (.invokevirtual 118, 3) := by decide +kernel
theorem dX7_run_12 : decode cX7_run 12 = .ok (.ifCond .eq 9, 3) := by decide +kernel
theorem dX7_run_15 : decode cX7_run 15 = .ok (.iinc 1 1, 3) := by decide +kernel
theorem dX7_run_18 : decode cX7_run 18 = .ok (.goto (-16), 3) := by decide +kernel
theorem dX7_run_21 : decode cX7_run 21 = .ok (.iload_n 1, 1) := by decide +kernel
theorem dX7_run_22 : decode cX7_run 22 = .ok (.ireturn, 1) := by decide +kernel
theorem dX7_fails_0 : decode cX7_fails 0 = .ok (.aload_n 0, 1) := by decide +kernel
theorem dX7_fails_1 : decode cX7_fails 1 = .ok (.iload_n 1, 1) := by decide +kernel
theorem dX7_fails_2 : decode cX7_fails 2 = .ok (.putfield 121, 3) := by decide +kernel
theorem dX7_fails_5 : decode cX7_fails 5 = .ok (.iconst 0, 1) := by decide +kernel
theorem dX7_fails_6 : decode cX7_fails 6 = .ok (.ireturn, 1) := by decide +kernel
theorem dX7_readsSign_0 : decode cX7_readsSign 0 = .ok (.aload_n 0, 1) := by decide +kernel
theorem dX7_readsSign_1 : decode cX7_readsSign 1 = .ok (.invokevirtual 124, 3) := by decide +kernel
theorem dX7_readsSign_4 : decode cX7_readsSign 4 = .ok (.iload_n 1, 1) := by decide +kernel
theorem dX7_readsSign_5 : decode cX7_readsSign 5 = .ok (.if_icmp .eq 9, 3) := by decide +kernel
theorem dX7_readsSign_8 : decode cX7_readsSign 8 = .ok (.aload_n 0, 1) := by decide +kernel
theorem dX7_readsSign_9 : decode cX7_readsSign 9 = .ok (.iconst 1, 1) := by decide +kernel
theorem dX7_readsSign_10 : decode cX7_readsSign 10 = .ok (.invokevirtual 128, 3) := by decide +kernel
theorem dX7_readsSign_13 : decode cX7_readsSign 13 = .ok (.ireturn, 1) := by decide +kernel
theorem dX7_readsSign_14 : decode cX7_readsSign 14 = .ok (.aload_n 0, 1) := by decide +kernel
theorem dX7_readsSign_15 : decode cX7_readsSign 15 = .ok (.dup, 1) := by decide +kernel
theorem dX7_readsSign_16 : decode cX7_readsSign 16 = .ok (.getfield 115, 3) := by decide +kernel
theorem dX7_readsSign_19 : decode cX7_readsSign 19 = .ok (.iconst 1, 1) := by decide +kernel
theorem dX7_readsSign_20 : decode cX7_readsSign 20 = .ok (.iadd, 1) := by decide +kernel
theorem dX7_readsSign_21 : decode cX7_readsSign 21 = .ok (.putfield 115, 3) := by decide +kernel
theorem dX7_readsSign_24 : decode cX7_readsSign 24 = .ok (.iconst 1, 1) := by decide +kernel
theorem dX7_readsSign_25 : decode cX7_readsSign 25 = .ok (.ireturn, 1) := by decide +kernel
theorem dX7_number_0 : decode cX7_number 0 = .ok (.aload_n 0, 1) := by decide +kernel
theorem dX7_number_1 : decode cX7_number 1 = .ok (.invokevirtual 131, 3) := by decide +kernel
theorem dX7_number_4 : decode cX7_number 4 = .ok (.istore_n 3, 1) := by decide +kernel
theorem dX7_number_5 : decode cX7_number 5 = .ok (.iload_n 3, 1) := by decide +kernel
theorem dX7_number_6 : decode cX7_number 6 = .ok (.ifCond .eq 8, 3) := by decide +kernel
theorem dX7_number_9 : decode cX7_number 9 = .ok (.iload_n 3, 1) := by decide +kernel
theorem dX7_number_10 : decode cX7_number 10 = .ok (.iconst 2, 1) := by decide +kernel
theorem dX7_number_11 : decode cX7_number 11 = .ok (.if_icmp .le 11, 3) := by decide +kernel
theorem dX7_number_14 : decode cX7_number 14 = .ok (.aload_n 0, 1) := by decide +kernel
theorem dX7_number_15 : decode cX7_number 15 = .ok (.iconst 1, 1) := by decide +kernel
theorem dX7_number_16 : decode cX7_number 16 = .ok (.invokevirtual 128, 3) := by decide +kernel
theorem dX7_number_19 : decode cX7_number 19 = .ok (.pop, 1) := by decide +kernel
theorem dX7_number_20 : decode cX7_number 20 = .ok (.iconst (-1), 1) := by decide +kernel
theorem dX7_number_21 : decode cX7_number 21 = .ok (.ireturn, 1) := by decide +kernel
theorem dX7_number_22 : decode cX7_number 22 = .ok (.aload_n 0, 1) := by decide +kernel
theorem dX7_number_23 : decode cX7_number 23 = .ok (.getfield 19, 3) := by decide +kernel
theorem dX7_number_26 : decode cX7_number 26 = .ok (.aload_n 0, 1) := by decide +kernel
theorem dX7_number_27 : decode cX7_number 27 = .ok (.getfield 115, 3) := by decide +kernel
theorem dX7_number_30 : decode cX7_number 30 = .ok (.iaload, 1) := by decide +kernel
theorem dX7_number_31 : decode cX7_number 31 = .ok (.bipush 48, 2) := by decide +kernel
theorem dX7_number_33 : decode cX7_number 33 = .ok (.isub, 1) := by decide +kernel
theorem dX7_number_34 : decode cX7_number 34 = .ok (.istore 4, 2) := by decide +kernel
theorem dX7_number_36 : decode cX7_number 36 = .ok (.iload_n 3, 1) := by decide +kernel
theorem dX7_number_37 : decode cX7_number 37 = .ok (.iconst 2, 1) := by decide +kernel
theorem dX7_number_38 : decode cX7_number 38 = .ok (.if_icmp .ne 26, 3) := by decide +kernel
theorem dX7_number_41 : decode cX7_number 41 = .ok (.bipush 10, 2) := by decide +kernel
theorem dX7_number_43 : decode cX7_number 43 = .ok (.iload 4, 2) := by decide +kernel
theorem dX7_number_45 : decode cX7_number 45 = .ok (.imul, 1) := by decide +kernel
theorem dX7_number_46 : decode cX7_number 46 = .ok (.aload_n 0, 1) := by decide +kernel
theorem dX7_number_47 : decode cX7_number 47 = .ok (.getfield 19, 3) := by decide +kernel
theorem dX7_number_50 : decode cX7_number 50 = .ok (.aload_n 0, 1) := by decide +kernel
theorem dX7_number_51 : decode cX7_number 51 = .ok (.getfield 115, 3) := by decide +kernel
theorem dX7_number_54 : decode cX7_number 54 = .ok (.iconst 1, 1) := by decide +kernel
theorem dX7_number_55 : decode cX7_number 55 = .ok (.iadd, 1) := by decide +kernel
theorem dX7_number_56 : decode cX7_number 56 = .ok (.iaload, 1) := by decide +kernel
theorem dX7_number_57 : decode cX7_number 57 = .ok (.iadd, 1) := by decide +kernel
theorem dX7_number_58 : decode cX7_number 58 = .ok (.bipush 48, 2) := by decide +kernel
theorem dX7_number_60 : decode cX7_number 60 = .ok (.isub, 1) := by decide +kernel
theorem dX7_number_61 : decode cX7_number 61 = .ok (.goto 5, 3) := by decide +kernel
theorem dX7_number_64 : decode cX7_number 64 = .ok (.iload 4, 2) := by decide +kernel
theorem dX7_number_66 : decode cX7_number 66 = .ok (.istore 4, 2) := by decide +kernel
theorem dX7_number_68 : decode cX7_number 68 = .ok (.iload 4, 2) := by decide +kernel
theorem dX7_number_70 : decode cX7_number 70 = .ok (.iload_n 1, 1) := by decide +kernel
theorem dX7_number_71 : decode cX7_number 71 = .ok (.iload_n 2, 1) := by decide +kernel
theorem dX7_number_72 : decode cX7_number 72 = .ok (.invokestatic 85, 3) := by decide +kernel
theorem dX7_number_75 : decode cX7_number 75 = .ok (.ifCond .ne 11, 3) := by decide +kernel
theorem dX7_number_78 : decode cX7_number 78 = .ok (.aload_n 0, 1) := by decide +kernel
theorem dX7_number_79 : decode cX7_number 79 = .ok (.iconst 2, 1) := by decide +kernel
theorem dX7_number_80 : decode cX7_number 80 = .ok (.invokevirtual 128, 3) := by decide +kernel
theorem dX7_number_83 : decode cX7_number 83 = .ok (.pop, 1) := by decide +kernel
theorem dX7_number_84 : decode cX7_number 84 = .ok (.iconst (-1), 1) := by decide +kernel
theorem dX7_number_85 : decode cX7_number 85 = .ok (.ireturn, 1) := by decide +kernel
theorem dX7_number_86 : decode cX7_number 86 = .ok (.aload_n 0, 1) := by decide +kernel
theorem dX7_number_87 : decode cX7_number 87 = .ok (.dup, 1) := by decide +kernel
theorem dX7_number_88 : decode cX7_number 88 = .ok (.getfield 115, 3) := by decide +kernel
theorem dX7_number_91 : decode cX7_number 91 = .ok (.iload_n 3, 1) := by decide +kernel
theorem dX7_number_92 : decode cX7_number 92 = .ok (.iadd, 1) := by decide +kernel
theorem dX7_number_93 : decode cX7_number 93 = .ok (.putfield 115, 3) := by decide +kernel
theorem dX7_number_96 : decode cX7_number 96 = .ok (.iload 4, 2) := by decide +kernel
theorem dX7_number_98 : decode cX7_number 98 = .ok (.ireturn, 1) := by decide +kernel
theorem dX7_readsLaw_0 : decode cX7_readsLaw 0 = .ok (.aload_n 0, 1) := by decide +kernel
theorem dX7_readsLaw_1 : decode cX7_readsLaw 1 = .ok (.bipush 107, 2) := by decide +kernel
theorem dX7_readsLaw_3 : decode cX7_readsLaw 3 = .ok (.invokevirtual 134, 3) := by decide +kernel
theorem dX7_readsLaw_6 : decode cX7_readsLaw 6 = .ok (.ifCond .ne 5, 3) := by decide +kernel
theorem dX7_readsLaw_9 : decode cX7_readsLaw 9 = .ok (.iconst 0, 1) := by decide +kernel
theorem dX7_readsLaw_10 : decode cX7_readsLaw 10 = .ok (.ireturn, 1) := by decide +kernel
theorem dX7_readsLaw_11 : decode cX7_readsLaw 11 = .ok (.aload_n 0, 1) := by decide +kernel
theorem dX7_readsLaw_12 : decode cX7_readsLaw 12 = .ok (.getfield 37, 3) := by decide +kernel
theorem dX7_readsLaw_15 : decode cX7_readsLaw 15 = .ok (.iconst 0, 1) := by decide +kernel
theorem dX7_readsLaw_16 : decode cX7_readsLaw 16 = .ok (.aload_n 0, 1) := by decide +kernel
theorem dX7_readsLaw_17 : decode cX7_readsLaw 17 = .ok (.iconst 1, 1) := by decide +kernel
theorem dX7_readsLaw_18 : decode cX7_readsLaw 18 = .ok (.bipush 9, 2) := by decide +kernel
theorem dX7_readsLaw_20 : decode cX7_readsLaw 20 = .ok (.invokevirtual 137, 3) := by decide +kernel
theorem dX7_readsLaw_23 : decode cX7_readsLaw 23 = .ok (.iastore, 1) := by decide +kernel
theorem dX7_readsLaw_24 : decode cX7_readsLaw 24 = .ok (.aload_n 0, 1) := by decide +kernel
theorem dX7_readsLaw_25 : decode cX7_readsLaw 25 = .ok (.getfield 37, 3) := by decide +kernel
theorem dX7_readsLaw_28 : decode cX7_readsLaw 28 = .ok (.iconst 0, 1) := by decide +kernel
theorem dX7_readsLaw_29 : decode cX7_readsLaw 29 = .ok (.iaload, 1) := by decide +kernel
theorem dX7_readsLaw_30 : decode cX7_readsLaw 30 = .ok (.ifCond .lt 12, 3) := by decide +kernel
theorem dX7_readsLaw_33 : decode cX7_readsLaw 33 = .ok (.aload_n 0, 1) := by decide +kernel
theorem dX7_readsLaw_34 : decode cX7_readsLaw 34 = .ok (.bipush 44, 2) := by decide +kernel
theorem dX7_readsLaw_36 : decode cX7_readsLaw 36 = .ok (.invokevirtual 134, 3) := by decide +kernel
theorem dX7_readsLaw_39 : decode cX7_readsLaw 39 = .ok (.ifCond .ne 5, 3) := by decide +kernel
theorem dX7_readsLaw_42 : decode cX7_readsLaw 42 = .ok (.iconst 0, 1) := by decide +kernel
theorem dX7_readsLaw_43 : decode cX7_readsLaw 43 = .ok (.ireturn, 1) := by decide +kernel
theorem dX7_readsLaw_44 : decode cX7_readsLaw 44 = .ok (.aload_n 0, 1) := by decide +kernel
theorem dX7_readsLaw_45 : decode cX7_readsLaw 45 = .ok (.getfield 37, 3) := by decide +kernel
theorem dX7_readsLaw_48 : decode cX7_readsLaw 48 = .ok (.iconst 1, 1) := by decide +kernel
theorem dX7_readsLaw_49 : decode cX7_readsLaw 49 = .ok (.aload_n 0, 1) := by decide +kernel
theorem dX7_readsLaw_50 : decode cX7_readsLaw 50 = .ok (.iconst 0, 1) := by decide +kernel
theorem dX7_readsLaw_51 : decode cX7_readsLaw 51 = .ok (.bipush 10, 2) := by decide +kernel
theorem dX7_readsLaw_53 : decode cX7_readsLaw 53 = .ok (.invokevirtual 137, 3) := by decide +kernel
theorem dX7_readsLaw_56 : decode cX7_readsLaw 56 = .ok (.iastore, 1) := by decide +kernel
theorem dX7_readsLaw_57 : decode cX7_readsLaw 57 = .ok (.aload_n 0, 1) := by decide +kernel
theorem dX7_readsLaw_58 : decode cX7_readsLaw 58 = .ok (.getfield 37, 3) := by decide +kernel
theorem dX7_readsLaw_61 : decode cX7_readsLaw 61 = .ok (.iconst 1, 1) := by decide +kernel
theorem dX7_readsLaw_62 : decode cX7_readsLaw 62 = .ok (.iaload, 1) := by decide +kernel
theorem dX7_readsLaw_63 : decode cX7_readsLaw 63 = .ok (.ifCond .lt 16, 3) := by decide +kernel
theorem dX7_readsLaw_66 : decode cX7_readsLaw 66 = .ok (.aload_n 0, 1) := by decide +kernel
theorem dX7_readsLaw_67 : decode cX7_readsLaw 67 = .ok (.bipush 59, 2) := by decide +kernel
theorem dX7_readsLaw_69 : decode cX7_readsLaw 69 = .ok (.invokevirtual 134, 3) := by decide +kernel
theorem dX7_readsLaw_72 : decode cX7_readsLaw 72 = .ok (.ifCond .eq 7, 3) := by decide +kernel
theorem dX7_readsLaw_75 : decode cX7_readsLaw 75 = .ok (.iconst 1, 1) := by decide +kernel
theorem dX7_readsLaw_76 : decode cX7_readsLaw 76 = .ok (.goto 4, 3) := by decide +kernel
theorem dX7_readsLaw_79 : decode cX7_readsLaw 79 = .ok (.iconst 0, 1) := by decide +kernel
theorem dX7_readsLaw_80 : decode cX7_readsLaw 80 = .ok (.ireturn, 1) := by decide +kernel
theorem dX7_readsBlock_0 : decode cX7_readsBlock 0 = .ok (.aload_n 0, 1) := by decide +kernel
theorem dX7_readsBlock_1 : decode cX7_readsBlock 1 = .ok (.getfield 140, 3) := by decide +kernel
theorem dX7_readsBlock_4 : decode cX7_readsBlock 4 = .ok (.bipush 8, 2) := by decide +kernel
theorem dX7_readsBlock_6 : decode cX7_readsBlock 6 = .ok (.if_icmp .ne 9, 3) := by decide +kernel
theorem dX7_readsBlock_9 : decode cX7_readsBlock 9 = .ok (.aload_n 0, 1) := by decide +kernel
theorem dX7_readsBlock_10 : decode cX7_readsBlock 10 = .ok (.iconst 3, 1) := by decide +kernel
theorem dX7_readsBlock_11 : decode cX7_readsBlock 11 = .ok (.invokevirtual 128, 3) := by decide +kernel
theorem dX7_readsBlock_14 : decode cX7_readsBlock 14 = .ok (.ireturn, 1) := by decide +kernel
theorem dX7_readsBlock_15 : decode cX7_readsBlock 15 = .ok (.aload_n 0, 1) := by decide +kernel
theorem dX7_readsBlock_16 : decode cX7_readsBlock 16 = .ok (.dup, 1) := by decide +kernel
theorem dX7_readsBlock_17 : decode cX7_readsBlock 17 = .ok (.getfield 115, 3) := by decide +kernel
theorem dX7_readsBlock_20 : decode cX7_readsBlock 20 = .ok (.iconst 1, 1) := by decide +kernel
theorem dX7_readsBlock_21 : decode cX7_readsBlock 21 = .ok (.iadd, 1) := by decide +kernel
theorem dX7_readsBlock_22 : decode cX7_readsBlock 22 = .ok (.putfield 115, 3) := by decide +kernel
theorem dX7_readsBlock_25 : decode cX7_readsBlock 25 = .ok (.aload_n 0, 1) := by decide +kernel
theorem dX7_readsBlock_26 : decode cX7_readsBlock 26 = .ok (.iconst 1, 1) := by decide +kernel
theorem dX7_readsBlock_27 : decode cX7_readsBlock 27 = .ok (.bipush 30, 2) := by decide +kernel
theorem dX7_readsBlock_29 : decode cX7_readsBlock 29 = .ok (.invokevirtual 137, 3) := by decide +kernel
theorem dX7_readsBlock_32 : decode cX7_readsBlock 32 = .ok (.istore_n 1, 1) := by decide +kernel
theorem dX7_readsBlock_33 : decode cX7_readsBlock 33 = .ok (.iload_n 1, 1) := by decide +kernel
theorem dX7_readsBlock_34 : decode cX7_readsBlock 34 = .ok (.ifCond .lt 12, 3) := by decide +kernel
theorem dX7_readsBlock_37 : decode cX7_readsBlock 37 = .ok (.aload_n 0, 1) := by decide +kernel
theorem dX7_readsBlock_38 : decode cX7_readsBlock 38 = .ok (.bipush 59, 2) := by decide +kernel
theorem dX7_readsBlock_40 : decode cX7_readsBlock 40 = .ok (.invokevirtual 134, 3) := by decide +kernel
theorem dX7_readsBlock_43 : decode cX7_readsBlock 43 = .ok (.ifCond .ne 5, 3) := by decide +kernel
theorem dX7_readsBlock_46 : decode cX7_readsBlock 46 = .ok (.iconst 0, 1) := by decide +kernel
theorem dX7_readsBlock_47 : decode cX7_readsBlock 47 = .ok (.ireturn, 1) := by decide +kernel
theorem dX7_readsBlock_48 : decode cX7_readsBlock 48 = .ok (.aload_n 0, 1) := by decide +kernel
theorem dX7_readsBlock_49 : decode cX7_readsBlock 49 = .ok (.getfield 40, 3) := by decide +kernel
theorem dX7_readsBlock_52 : decode cX7_readsBlock 52 = .ok (.aload_n 0, 1) := by decide +kernel
theorem dX7_readsBlock_53 : decode cX7_readsBlock 53 = .ok (.getfield 140, 3) := by decide +kernel
theorem dX7_readsBlock_56 : decode cX7_readsBlock 56 = .ok (.iload_n 1, 1) := by decide +kernel
theorem dX7_readsBlock_57 : decode cX7_readsBlock 57 = .ok (.iastore, 1) := by decide +kernel
theorem dX7_readsBlock_58 : decode cX7_readsBlock 58 = .ok (.aload_n 0, 1) := by decide +kernel
theorem dX7_readsBlock_59 : decode cX7_readsBlock 59 = .ok (.getfield 43, 3) := by decide +kernel
theorem dX7_readsBlock_62 : decode cX7_readsBlock 62 = .ok (.aload_n 0, 1) := by decide +kernel
theorem dX7_readsBlock_63 : decode cX7_readsBlock 63 = .ok (.getfield 140, 3) := by decide +kernel
theorem dX7_readsBlock_66 : decode cX7_readsBlock 66 = .ok (.iconst 0, 1) := by decide +kernel
theorem dX7_readsBlock_67 : decode cX7_readsBlock 67 = .ok (.iastore, 1) := by decide +kernel
theorem dX7_readsBlock_68 : decode cX7_readsBlock 68 = .ok (.aload_n 0, 1) := by decide +kernel
theorem dX7_readsBlock_69 : decode cX7_readsBlock 69 = .ok (.dup, 1) := by decide +kernel
theorem dX7_readsBlock_70 : decode cX7_readsBlock 70 = .ok (.getfield 140, 3) := by decide +kernel
theorem dX7_readsBlock_73 : decode cX7_readsBlock 73 = .ok (.iconst 1, 1) := by decide +kernel
theorem dX7_readsBlock_74 : decode cX7_readsBlock 74 = .ok (.iadd, 1) := by decide +kernel
theorem dX7_readsBlock_75 : decode cX7_readsBlock 75 = .ok (.putfield 140, 3) := by decide +kernel
theorem dX7_readsBlock_78 : decode cX7_readsBlock 78 = .ok (.iconst 1, 1) := by decide +kernel
theorem dX7_readsBlock_79 : decode cX7_readsBlock 79 = .ok (.ireturn, 1) := by decide +kernel
theorem dX7_readsRest_0 : decode cX7_readsRest 0 = .ok (.aload_n 0, 1) := by decide +kernel
theorem dX7_readsRest_1 : decode cX7_readsRest 1 = .ok (.getfield 143, 3) := by decide +kernel
theorem dX7_readsRest_4 : decode cX7_readsRest 4 = .ok (.bipush 12, 2) := by decide +kernel
theorem dX7_readsRest_6 : decode cX7_readsRest 6 = .ok (.if_icmp .ne 9, 3) := by decide +kernel
theorem dX7_readsRest_9 : decode cX7_readsRest 9 = .ok (.aload_n 0, 1) := by decide +kernel
theorem dX7_readsRest_10 : decode cX7_readsRest 10 = .ok (.iconst 3, 1) := by decide +kernel
theorem dX7_readsRest_11 : decode cX7_readsRest 11 = .ok (.invokevirtual 128, 3) := by decide +kernel
theorem dX7_readsRest_14 : decode cX7_readsRest 14 = .ok (.ireturn, 1) := by decide +kernel
theorem dX7_readsRest_15 : decode cX7_readsRest 15 = .ok (.aload_n 0, 1) := by decide +kernel
theorem dX7_readsRest_16 : decode cX7_readsRest 16 = .ok (.dup, 1) := by decide +kernel
theorem dX7_readsRest_17 : decode cX7_readsRest 17 = .ok (.getfield 115, 3) := by decide +kernel
theorem dX7_readsRest_20 : decode cX7_readsRest 20 = .ok (.iconst 1, 1) := by decide +kernel
theorem dX7_readsRest_21 : decode cX7_readsRest 21 = .ok (.iadd, 1) := by decide +kernel
theorem dX7_readsRest_22 : decode cX7_readsRest 22 = .ok (.putfield 115, 3) := by decide +kernel
theorem dX7_readsRest_25 : decode cX7_readsRest 25 = .ok (.aload_n 0, 1) := by decide +kernel
theorem dX7_readsRest_26 : decode cX7_readsRest 26 = .ok (.iconst 0, 1) := by decide +kernel
theorem dX7_readsRest_27 : decode cX7_readsRest 27 = .ok (.aload_n 0, 1) := by decide +kernel
theorem dX7_readsRest_28 : decode cX7_readsRest 28 = .ok (.getfield 140, 3) := by decide +kernel
theorem dX7_readsRest_31 : decode cX7_readsRest 31 = .ok (.iconst 1, 1) := by decide +kernel
theorem dX7_readsRest_32 : decode cX7_readsRest 32 = .ok (.isub, 1) := by decide +kernel
theorem dX7_readsRest_33 : decode cX7_readsRest 33 = .ok (.invokevirtual 137, 3) := by decide +kernel
theorem dX7_readsRest_36 : decode cX7_readsRest 36 = .ok (.istore_n 1, 1) := by decide +kernel
theorem dX7_readsRest_37 : decode cX7_readsRest 37 = .ok (.iload_n 1, 1) := by decide +kernel
theorem dX7_readsRest_38 : decode cX7_readsRest 38 = .ok (.ifCond .lt 12, 3) := by decide +kernel
theorem dX7_readsRest_41 : decode cX7_readsRest 41 = .ok (.aload_n 0, 1) := by decide +kernel
theorem dX7_readsRest_42 : decode cX7_readsRest 42 = .ok (.bipush 44, 2) := by decide +kernel
theorem dX7_readsRest_44 : decode cX7_readsRest 44 = .ok (.invokevirtual 134, 3) := by decide +kernel
theorem dX7_readsRest_47 : decode cX7_readsRest 47 = .ok (.ifCond .ne 5, 3) := by decide +kernel
theorem dX7_readsRest_50 : decode cX7_readsRest 50 = .ok (.iconst 0, 1) := by decide +kernel
theorem dX7_readsRest_51 : decode cX7_readsRest 51 = .ok (.ireturn, 1) := by decide +kernel
theorem dX7_readsRest_52 : decode cX7_readsRest 52 = .ok (.aload_n 0, 1) := by decide +kernel
theorem dX7_readsRest_53 : decode cX7_readsRest 53 = .ok (.getfield 115, 3) := by decide +kernel
theorem dX7_readsRest_56 : decode cX7_readsRest 56 = .ok (.istore_n 2, 1) := by decide +kernel
theorem dX7_readsRest_57 : decode cX7_readsRest 57 = .ok (.aload_n 0, 1) := by decide +kernel
theorem dX7_readsRest_58 : decode cX7_readsRest 58 = .ok (.iconst 0, 1) := by decide +kernel
theorem dX7_readsRest_59 : decode cX7_readsRest 59 = .ok (.iload_n 1, 1) := by decide +kernel
theorem dX7_readsRest_60 : decode cX7_readsRest 60 = .ok (.iconst 1, 1) := by decide +kernel
theorem dX7_readsRest_61 : decode cX7_readsRest 61 = .ok (.isub, 1) := by decide +kernel
theorem dX7_readsRest_62 : decode cX7_readsRest 62 = .ok (.invokevirtual 137, 3) := by decide +kernel
theorem dX7_readsRest_65 : decode cX7_readsRest 65 = .ok (.istore_n 3, 1) := by decide +kernel
theorem dX7_readsRest_66 : decode cX7_readsRest 66 = .ok (.iload_n 3, 1) := by decide +kernel
theorem dX7_readsRest_67 : decode cX7_readsRest 67 = .ok (.ifCond .ge 5, 3) := by decide +kernel
theorem dX7_readsRest_70 : decode cX7_readsRest 70 = .ok (.iconst 0, 1) := by decide +kernel
theorem dX7_readsRest_71 : decode cX7_readsRest 71 = .ok (.ireturn, 1) := by decide +kernel
theorem dX7_readsRest_72 : decode cX7_readsRest 72 = .ok (.aload_n 0, 1) := by decide +kernel
theorem dX7_readsRest_73 : decode cX7_readsRest 73 = .ok (.getfield 43, 3) := by decide +kernel
theorem dX7_readsRest_76 : decode cX7_readsRest 76 = .ok (.iload_n 1, 1) := by decide +kernel
theorem dX7_readsRest_77 : decode cX7_readsRest 77 = .ok (.iaload, 1) := by decide +kernel
theorem dX7_readsRest_78 : decode cX7_readsRest 78 = .ok (.iload_n 3, 1) := by decide +kernel
theorem dX7_readsRest_79 : decode cX7_readsRest 79 = .ok (.invokestatic 146, 3) := by decide +kernel
theorem dX7_readsRest_82 : decode cX7_readsRest 82 = .ok (.ifCond .eq 14, 3) := by decide +kernel
theorem dX7_readsRest_85 : decode cX7_readsRest 85 = .ok (.aload_n 0, 1) := by decide +kernel
theorem dX7_readsRest_86 : decode cX7_readsRest 86 = .ok (.iload_n 2, 1) := by decide +kernel
theorem dX7_readsRest_87 : decode cX7_readsRest 87 = .ok (.putfield 115, 3) := by decide +kernel
theorem dX7_readsRest_90 : decode cX7_readsRest 90 = .ok (.aload_n 0, 1) := by decide +kernel
theorem dX7_readsRest_91 : decode cX7_readsRest 91 = .ok (.iconst 2, 1) := by decide +kernel
theorem dX7_readsRest_92 : decode cX7_readsRest 92 = .ok (.invokevirtual 128, 3) := by decide +kernel
theorem dX7_readsRest_95 : decode cX7_readsRest 95 = .ok (.ireturn, 1) := by decide +kernel
theorem dX7_readsRest_96 : decode cX7_readsRest 96 = .ok (.aload_n 0, 1) := by decide +kernel
theorem dX7_readsRest_97 : decode cX7_readsRest 97 = .ok (.getfield 43, 3) := by decide +kernel
theorem dX7_readsRest_100 : decode cX7_readsRest 100 = .ok (.iload_n 1, 1) := by decide +kernel
theorem dX7_readsRest_101 : decode cX7_readsRest 101 = .ok (.dup2, 1) := by decide +kernel
theorem dX7_readsRest_102 : decode cX7_readsRest 102 = .ok (.iaload, 1) := by decide +kernel
theorem dX7_readsRest_103 : decode cX7_readsRest 103 = .ok (.iconst 1, 1) := by decide +kernel
theorem dX7_readsRest_104 : decode cX7_readsRest 104 = .ok (.iload_n 3, 1) := by decide +kernel
theorem dX7_readsRest_105 : decode cX7_readsRest 105 = .ok (.ishl, 1) := by decide +kernel
theorem dX7_readsRest_106 : decode cX7_readsRest 106 = .ok (.ior, 1) := by decide +kernel
theorem dX7_readsRest_107 : decode cX7_readsRest 107 = .ok (.iastore, 1) := by decide +kernel
theorem dX7_readsRest_108 : decode cX7_readsRest 108 = .ok (.aload_n 0, 1) := by decide +kernel
theorem dX7_readsRest_109 : decode cX7_readsRest 109 = .ok (.dup, 1) := by decide +kernel
theorem dX7_readsRest_110 : decode cX7_readsRest 110 = .ok (.getfield 143, 3) := by decide +kernel
theorem dX7_readsRest_113 : decode cX7_readsRest 113 = .ok (.iconst 1, 1) := by decide +kernel
theorem dX7_readsRest_114 : decode cX7_readsRest 114 = .ok (.iadd, 1) := by decide +kernel
theorem dX7_readsRest_115 : decode cX7_readsRest 115 = .ok (.putfield 143, 3) := by decide +kernel
theorem dX7_readsRest_118 : decode cX7_readsRest 118 = .ok (.aload_n 0, 1) := by decide +kernel
theorem dX7_readsRest_119 : decode cX7_readsRest 119 = .ok (.bipush 59, 2) := by decide +kernel
theorem dX7_readsRest_121 : decode cX7_readsRest 121 = .ok (.invokevirtual 134, 3) := by decide +kernel
theorem dX7_readsRest_124 : decode cX7_readsRest 124 = .ok (.ireturn, 1) := by decide +kernel
theorem dX7_kindOf_0 : decode cX7_kindOf 0 = .ok (.iload_n 0, 1) := by decide +kernel
theorem dX7_kindOf_1 : decode cX7_kindOf 1 = .ok (.lookupswitch 61 #[(99, 51), (108, 59), (112, 55), (115, 53), (121, 57)], 51) := by decide +kernel
theorem dX7_kindOf_52 : decode cX7_kindOf 52 = .ok (.iconst 1, 1) := by decide +kernel
theorem dX7_kindOf_53 : decode cX7_kindOf 53 = .ok (.ireturn, 1) := by decide +kernel
theorem dX7_kindOf_54 : decode cX7_kindOf 54 = .ok (.iconst 2, 1) := by decide +kernel
theorem dX7_kindOf_55 : decode cX7_kindOf 55 = .ok (.ireturn, 1) := by decide +kernel
theorem dX7_kindOf_56 : decode cX7_kindOf 56 = .ok (.iconst 3, 1) := by decide +kernel
theorem dX7_kindOf_57 : decode cX7_kindOf 57 = .ok (.ireturn, 1) := by decide +kernel
theorem dX7_kindOf_58 : decode cX7_kindOf 58 = .ok (.iconst 4, 1) := by decide +kernel
theorem dX7_kindOf_59 : decode cX7_kindOf 59 = .ok (.ireturn, 1) := by decide +kernel
theorem dX7_kindOf_60 : decode cX7_kindOf 60 = .ok (.iconst 5, 1) := by decide +kernel
theorem dX7_kindOf_61 : decode cX7_kindOf 61 = .ok (.ireturn, 1) := by decide +kernel
theorem dX7_kindOf_62 : decode cX7_kindOf 62 = .ok (.ldc 150, 2) := by decide +kernel
theorem dX7_kindOf_64 : decode cX7_kindOf 64 = .ok (.ireturn, 1) := by decide +kernel
theorem dX7_readsClerk_0 : decode cX7_readsClerk 0 = .ok (.aload_n 0, 1) := by decide +kernel
theorem dX7_readsClerk_1 : decode cX7_readsClerk 1 = .ok (.invokevirtual 124, 3) := by decide +kernel
theorem dX7_readsClerk_4 : decode cX7_readsClerk 4 = .ok (.invokestatic 151, 3) := by decide +kernel
theorem dX7_readsClerk_7 : decode cX7_readsClerk 7 = .ok (.istore_n 1, 1) := by decide +kernel
theorem dX7_readsClerk_8 : decode cX7_readsClerk 8 = .ok (.iload_n 1, 1) := by decide +kernel
theorem dX7_readsClerk_9 : decode cX7_readsClerk 9 = .ok (.ldc 150, 2) := by decide +kernel
theorem dX7_readsClerk_11 : decode cX7_readsClerk 11 = .ok (.if_icmp .ne 9, 3) := by decide +kernel
theorem dX7_readsClerk_14 : decode cX7_readsClerk 14 = .ok (.aload_n 0, 1) := by decide +kernel
theorem dX7_readsClerk_15 : decode cX7_readsClerk 15 = .ok (.iconst 1, 1) := by decide +kernel
theorem dX7_readsClerk_16 : decode cX7_readsClerk 16 = .ok (.invokevirtual 128, 3) := by decide +kernel
theorem dX7_readsClerk_19 : decode cX7_readsClerk 19 = .ok (.ireturn, 1) := by decide +kernel
theorem dX7_readsClerk_20 : decode cX7_readsClerk 20 = .ok (.aload_n 0, 1) := by decide +kernel
theorem dX7_readsClerk_21 : decode cX7_readsClerk 21 = .ok (.getfield 154, 3) := by decide +kernel
theorem dX7_readsClerk_24 : decode cX7_readsClerk 24 = .ok (.iconst 4, 1) := by decide +kernel
theorem dX7_readsClerk_25 : decode cX7_readsClerk 25 = .ok (.if_icmp .ne 9, 3) := by decide +kernel
theorem dX7_readsClerk_28 : decode cX7_readsClerk 28 = .ok (.aload_n 0, 1) := by decide +kernel
theorem dX7_readsClerk_29 : decode cX7_readsClerk 29 = .ok (.iconst 3, 1) := by decide +kernel
theorem dX7_readsClerk_30 : decode cX7_readsClerk 30 = .ok (.invokevirtual 128, 3) := by decide +kernel
theorem dX7_readsClerk_33 : decode cX7_readsClerk 33 = .ok (.ireturn, 1) := by decide +kernel
theorem dX7_readsClerk_34 : decode cX7_readsClerk 34 = .ok (.aload_n 0, 1) := by decide +kernel
theorem dX7_readsClerk_35 : decode cX7_readsClerk 35 = .ok (.dup, 1) := by decide +kernel
theorem dX7_readsClerk_36 : decode cX7_readsClerk 36 = .ok (.getfield 115, 3) := by decide +kernel
theorem dX7_readsClerk_39 : decode cX7_readsClerk 39 = .ok (.iconst 1, 1) := by decide +kernel
theorem dX7_readsClerk_40 : decode cX7_readsClerk 40 = .ok (.iadd, 1) := by decide +kernel
theorem dX7_readsClerk_41 : decode cX7_readsClerk 41 = .ok (.putfield 115, 3) := by decide +kernel
theorem dX7_readsClerk_44 : decode cX7_readsClerk 44 = .ok (.aload_n 0, 1) := by decide +kernel
theorem dX7_readsClerk_45 : decode cX7_readsClerk 45 = .ok (.iconst 1, 1) := by decide +kernel
theorem dX7_readsClerk_46 : decode cX7_readsClerk 46 = .ok (.bipush 9, 2) := by decide +kernel
theorem dX7_readsClerk_48 : decode cX7_readsClerk 48 = .ok (.invokevirtual 137, 3) := by decide +kernel
theorem dX7_readsClerk_51 : decode cX7_readsClerk 51 = .ok (.istore_n 2, 1) := by decide +kernel
theorem dX7_readsClerk_52 : decode cX7_readsClerk 52 = .ok (.iload_n 2, 1) := by decide +kernel
theorem dX7_readsClerk_53 : decode cX7_readsClerk 53 = .ok (.ifCond .lt 12, 3) := by decide +kernel
theorem dX7_readsClerk_56 : decode cX7_readsClerk 56 = .ok (.aload_n 0, 1) := by decide +kernel
theorem dX7_readsClerk_57 : decode cX7_readsClerk 57 = .ok (.bipush 59, 2) := by decide +kernel
theorem dX7_readsClerk_59 : decode cX7_readsClerk 59 = .ok (.invokevirtual 134, 3) := by decide +kernel
theorem dX7_readsClerk_62 : decode cX7_readsClerk 62 = .ok (.ifCond .ne 5, 3) := by decide +kernel
theorem dX7_readsClerk_65 : decode cX7_readsClerk 65 = .ok (.iconst 0, 1) := by decide +kernel
theorem dX7_readsClerk_66 : decode cX7_readsClerk 66 = .ok (.ireturn, 1) := by decide +kernel
theorem dX7_readsClerk_67 : decode cX7_readsClerk 67 = .ok (.aload_n 0, 1) := by decide +kernel
theorem dX7_readsClerk_68 : decode cX7_readsClerk 68 = .ok (.getfield 49, 3) := by decide +kernel
theorem dX7_readsClerk_71 : decode cX7_readsClerk 71 = .ok (.aload_n 0, 1) := by decide +kernel
theorem dX7_readsClerk_72 : decode cX7_readsClerk 72 = .ok (.getfield 154, 3) := by decide +kernel
theorem dX7_readsClerk_75 : decode cX7_readsClerk 75 = .ok (.iload_n 1, 1) := by decide +kernel
theorem dX7_readsClerk_76 : decode cX7_readsClerk 76 = .ok (.iastore, 1) := by decide +kernel
theorem dX7_readsClerk_77 : decode cX7_readsClerk 77 = .ok (.aload_n 0, 1) := by decide +kernel
theorem dX7_readsClerk_78 : decode cX7_readsClerk 78 = .ok (.getfield 46, 3) := by decide +kernel
theorem dX7_readsClerk_81 : decode cX7_readsClerk 81 = .ok (.aload_n 0, 1) := by decide +kernel
theorem dX7_readsClerk_82 : decode cX7_readsClerk 82 = .ok (.getfield 154, 3) := by decide +kernel
theorem dX7_readsClerk_85 : decode cX7_readsClerk 85 = .ok (.iload_n 2, 1) := by decide +kernel
theorem dX7_readsClerk_86 : decode cX7_readsClerk 86 = .ok (.iastore, 1) := by decide +kernel
theorem dX7_readsClerk_87 : decode cX7_readsClerk 87 = .ok (.aload_n 0, 1) := by decide +kernel
theorem dX7_readsClerk_88 : decode cX7_readsClerk 88 = .ok (.dup, 1) := by decide +kernel
theorem dX7_readsClerk_89 : decode cX7_readsClerk 89 = .ok (.getfield 154, 3) := by decide +kernel
theorem dX7_readsClerk_92 : decode cX7_readsClerk 92 = .ok (.iconst 1, 1) := by decide +kernel
theorem dX7_readsClerk_93 : decode cX7_readsClerk 93 = .ok (.iadd, 1) := by decide +kernel
theorem dX7_readsClerk_94 : decode cX7_readsClerk 94 = .ok (.putfield 154, 3) := by decide +kernel
theorem dX7_readsClerk_97 : decode cX7_readsClerk 97 = .ok (.iconst 1, 1) := by decide +kernel
theorem dX7_readsClerk_98 : decode cX7_readsClerk 98 = .ok (.ireturn, 1) := by decide +kernel
theorem dX7_readsItem_0 : decode cX7_readsItem 0 = .ok (.aload_n 0, 1) := by decide +kernel
theorem dX7_readsItem_1 : decode cX7_readsItem 1 = .ok (.getfield 143, 3) := by decide +kernel
theorem dX7_readsItem_4 : decode cX7_readsItem 4 = .ok (.ifCond .ne 14, 3) := by decide +kernel
theorem dX7_readsItem_7 : decode cX7_readsItem 7 = .ok (.aload_n 0, 1) := by decide +kernel
theorem dX7_readsItem_8 : decode cX7_readsItem 8 = .ok (.getfield 154, 3) := by decide +kernel
theorem dX7_readsItem_11 : decode cX7_readsItem 11 = .ok (.ifCond .ne 7, 3) := by decide +kernel
theorem dX7_readsItem_14 : decode cX7_readsItem 14 = .ok (.iconst 1, 1) := by decide +kernel
theorem dX7_readsItem_15 : decode cX7_readsItem 15 = .ok (.goto 4, 3) := by decide +kernel
theorem dX7_readsItem_18 : decode cX7_readsItem 18 = .ok (.iconst 0, 1) := by decide +kernel
theorem dX7_readsItem_19 : decode cX7_readsItem 19 = .ok (.istore_n 1, 1) := by decide +kernel
theorem dX7_readsItem_20 : decode cX7_readsItem 20 = .ok (.aload_n 0, 1) := by decide +kernel
theorem dX7_readsItem_21 : decode cX7_readsItem 21 = .ok (.invokevirtual 124, 3) := by decide +kernel
theorem dX7_readsItem_24 : decode cX7_readsItem 24 = .ok (.bipush 98, 2) := by decide +kernel
theorem dX7_readsItem_26 : decode cX7_readsItem 26 = .ok (.if_icmp .ne 12, 3) := by decide +kernel
theorem dX7_readsItem_29 : decode cX7_readsItem 29 = .ok (.iload_n 1, 1) := by decide +kernel
theorem dX7_readsItem_30 : decode cX7_readsItem 30 = .ok (.ifCond .eq 8, 3) := by decide +kernel
theorem dX7_readsItem_33 : decode cX7_readsItem 33 = .ok (.aload_n 0, 1) := by decide +kernel
theorem dX7_readsItem_34 : decode cX7_readsItem 34 = .ok (.invokevirtual 157, 3) := by decide +kernel
theorem dX7_readsItem_37 : decode cX7_readsItem 37 = .ok (.ireturn, 1) := by decide +kernel
theorem dX7_readsItem_38 : decode cX7_readsItem 38 = .ok (.aload_n 0, 1) := by decide +kernel
theorem dX7_readsItem_39 : decode cX7_readsItem 39 = .ok (.invokevirtual 124, 3) := by decide +kernel
theorem dX7_readsItem_42 : decode cX7_readsItem 42 = .ok (.bipush 114, 2) := by decide +kernel
theorem dX7_readsItem_44 : decode cX7_readsItem 44 = .ok (.if_icmp .ne 22, 3) := by decide +kernel
theorem dX7_readsItem_47 : decode cX7_readsItem 47 = .ok (.aload_n 0, 1) := by decide +kernel
theorem dX7_readsItem_48 : decode cX7_readsItem 48 = .ok (.getfield 140, 3) := by decide +kernel
theorem dX7_readsItem_51 : decode cX7_readsItem 51 = .ok (.ifCond .le 15, 3) := by decide +kernel
theorem dX7_readsItem_54 : decode cX7_readsItem 54 = .ok (.aload_n 0, 1) := by decide +kernel
theorem dX7_readsItem_55 : decode cX7_readsItem 55 = .ok (.getfield 154, 3) := by decide +kernel
theorem dX7_readsItem_58 : decode cX7_readsItem 58 = .ok (.ifCond .ne 8, 3) := by decide +kernel
theorem dX7_readsItem_61 : decode cX7_readsItem 61 = .ok (.aload_n 0, 1) := by decide +kernel
theorem dX7_readsItem_62 : decode cX7_readsItem 62 = .ok (.invokevirtual 161, 3) := by decide +kernel
theorem dX7_readsItem_65 : decode cX7_readsItem 65 = .ok (.ireturn, 1) := by decide +kernel
theorem dX7_readsItem_66 : decode cX7_readsItem 66 = .ok (.aload_n 0, 1) := by decide +kernel
theorem dX7_readsItem_67 : decode cX7_readsItem 67 = .ok (.getfield 140, 3) := by decide +kernel
theorem dX7_readsItem_70 : decode cX7_readsItem 70 = .ok (.ifCond .le 10, 3) := by decide +kernel
theorem dX7_readsItem_73 : decode cX7_readsItem 73 = .ok (.aload_n 0, 1) := by decide +kernel
theorem dX7_readsItem_74 : decode cX7_readsItem 74 = .ok (.invokevirtual 164, 3) := by decide +kernel
theorem dX7_readsItem_77 : decode cX7_readsItem 77 = .ok (.goto 8, 3) := by decide +kernel
theorem dX7_readsItem_80 : decode cX7_readsItem 80 = .ok (.aload_n 0, 1) := by decide +kernel
theorem dX7_readsItem_81 : decode cX7_readsItem 81 = .ok (.iconst 1, 1) := by decide +kernel
theorem dX7_readsItem_82 : decode cX7_readsItem 82 = .ok (.invokevirtual 128, 3) := by decide +kernel
theorem dX7_readsItem_85 : decode cX7_readsItem 85 = .ok (.ireturn, 1) := by decide +kernel
theorem dX7_reads_0 : decode cX7_reads 0 = .ok (.aload_n 0, 1) := by decide +kernel
theorem dX7_reads_1 : decode cX7_reads 1 = .ok (.iconst 0, 1) := by decide +kernel
theorem dX7_reads_2 : decode cX7_reads 2 = .ok (.putfield 115, 3) := by decide +kernel
theorem dX7_reads_5 : decode cX7_reads 5 = .ok (.aload_n 0, 1) := by decide +kernel
theorem dX7_reads_6 : decode cX7_reads 6 = .ok (.iconst 0, 1) := by decide +kernel
theorem dX7_reads_7 : decode cX7_reads 7 = .ok (.putfield 140, 3) := by decide +kernel
theorem dX7_reads_10 : decode cX7_reads 10 = .ok (.aload_n 0, 1) := by decide +kernel
theorem dX7_reads_11 : decode cX7_reads 11 = .ok (.iconst 0, 1) := by decide +kernel
theorem dX7_reads_12 : decode cX7_reads 12 = .ok (.putfield 143, 3) := by decide +kernel
theorem dX7_reads_15 : decode cX7_reads 15 = .ok (.aload_n 0, 1) := by decide +kernel
theorem dX7_reads_16 : decode cX7_reads 16 = .ok (.iconst 0, 1) := by decide +kernel
theorem dX7_reads_17 : decode cX7_reads 17 = .ok (.putfield 154, 3) := by decide +kernel
theorem dX7_reads_20 : decode cX7_reads 20 = .ok (.aload_n 0, 1) := by decide +kernel
theorem dX7_reads_21 : decode cX7_reads 21 = .ok (.invokevirtual 167, 3) := by decide +kernel
theorem dX7_reads_24 : decode cX7_reads 24 = .ok (.istore_n 1, 1) := by decide +kernel
theorem dX7_reads_25 : decode cX7_reads 25 = .ok (.iload_n 1, 1) := by decide +kernel
theorem dX7_reads_26 : decode cX7_reads 26 = .ok (.ifCond .eq 29, 3) := by decide +kernel
theorem dX7_reads_29 : decode cX7_reads 29 = .ok (.aload_n 0, 1) := by decide +kernel
theorem dX7_reads_30 : decode cX7_reads 30 = .ok (.getfield 140, 3) := by decide +kernel
theorem dX7_reads_33 : decode cX7_reads 33 = .ok (.ifCond .eq 14, 3) := by decide +kernel
theorem dX7_reads_36 : decode cX7_reads 36 = .ok (.aload_n 0, 1) := by decide +kernel
theorem dX7_reads_37 : decode cX7_reads 37 = .ok (.getfield 115, 3) := by decide +kernel
theorem dX7_reads_40 : decode cX7_reads 40 = .ok (.aload_n 0, 1) := by decide +kernel
theorem dX7_reads_41 : decode cX7_reads 41 = .ok (.getfield 108, 3) := by decide +kernel
theorem dX7_reads_44 : decode cX7_reads 44 = .ok (.if_icmp .ge 11, 3) := by decide +kernel
theorem dX7_reads_47 : decode cX7_reads 47 = .ok (.aload_n 0, 1) := by decide +kernel
theorem dX7_reads_48 : decode cX7_reads 48 = .ok (.invokevirtual 170, 3) := by decide +kernel
theorem dX7_reads_51 : decode cX7_reads 51 = .ok (.istore_n 1, 1) := by decide +kernel
theorem dX7_reads_52 : decode cX7_reads 52 = .ok (.goto (-27), 3) := by decide +kernel
theorem dX7_reads_55 : decode cX7_reads 55 = .ok (.iload_n 1, 1) := by decide +kernel
theorem dX7_reads_56 : decode cX7_reads 56 = .ok (.ireturn, 1) := by decide +kernel
theorem dX7_castle_0 : decode cX7_castle 0 = .ok (.aload_n 0, 1) := by decide +kernel
theorem dX7_castle_1 : decode cX7_castle 1 = .ok (.invokevirtual 173, 3) := by decide +kernel
theorem dX7_castle_4 : decode cX7_castle 4 = .ok (.istore_n 1, 1) := by decide +kernel
theorem dX7_castle_5 : decode cX7_castle 5 = .ok (.aload_n 0, 1) := by decide +kernel
theorem dX7_castle_6 : decode cX7_castle 6 = .ok (.iconst 0, 1) := by decide +kernel
theorem dX7_castle_7 : decode cX7_castle 7 = .ok (.putfield 108, 3) := by decide +kernel
theorem dX7_castle_10 : decode cX7_castle 10 = .ok (.iload_n 1, 1) := by decide +kernel
theorem dX7_castle_11 : decode cX7_castle 11 = .ok (.ifCond .ne 19, 3) := by decide +kernel
theorem dX7_castle_14 : decode cX7_castle 14 = .ok (.aload_n 0, 1) := by decide +kernel
theorem dX7_castle_15 : decode cX7_castle 15 = .ok (.aload_n 0, 1) := by decide +kernel
theorem dX7_castle_16 : decode cX7_castle 16 = .ok (.getfield 121, 3) := by decide +kernel
theorem dX7_castle_19 : decode cX7_castle 19 = .ok (.putfield 112, 3) := by decide +kernel
theorem dX7_castle_22 : decode cX7_castle 22 = .ok (.ldc 176, 2) := by decide +kernel
theorem dX7_castle_24 : decode cX7_castle 24 = .ok (.aload_n 0, 1) := by decide +kernel
theorem dX7_castle_25 : decode cX7_castle 25 = .ok (.getfield 115, 3) := by decide +kernel
theorem dX7_castle_28 : decode cX7_castle 28 = .ok (.isub, 1) := by decide +kernel
theorem dX7_castle_29 : decode cX7_castle 29 = .ok (.ireturn, 1) := by decide +kernel
theorem dX7_castle_30 : decode cX7_castle 30 = .ok (.aload_n 0, 1) := by decide +kernel
theorem dX7_castle_31 : decode cX7_castle 31 = .ok (.aload_n 0, 1) := by decide +kernel
theorem dX7_castle_32 : decode cX7_castle 32 = .ok (.getfield 140, 3) := by decide +kernel
theorem dX7_castle_35 : decode cX7_castle 35 = .ok (.putfield 177, 3) := by decide +kernel
theorem dX7_castle_38 : decode cX7_castle 38 = .ok (.aload_n 0, 1) := by decide +kernel
theorem dX7_castle_39 : decode cX7_castle 39 = .ok (.aload_n 0, 1) := by decide +kernel
theorem dX7_castle_40 : decode cX7_castle 40 = .ok (.getfield 143, 3) := by decide +kernel
theorem dX7_castle_43 : decode cX7_castle 43 = .ok (.putfield 180, 3) := by decide +kernel
theorem dX7_castle_46 : decode cX7_castle 46 = .ok (.aload_n 0, 1) := by decide +kernel
theorem dX7_castle_47 : decode cX7_castle 47 = .ok (.aload_n 0, 1) := by decide +kernel
theorem dX7_castle_48 : decode cX7_castle 48 = .ok (.getfield 154, 3) := by decide +kernel
theorem dX7_castle_51 : decode cX7_castle 51 = .ok (.putfield 183, 3) := by decide +kernel
theorem dX7_castle_54 : decode cX7_castle 54 = .ok (.aload_n 0, 1) := by decide +kernel
theorem dX7_castle_55 : decode cX7_castle 55 = .ok (.aload_n 0, 1) := by decide +kernel
theorem dX7_castle_56 : decode cX7_castle 56 = .ok (.getfield 37, 3) := by decide +kernel
theorem dX7_castle_59 : decode cX7_castle 59 = .ok (.iconst 0, 1) := by decide +kernel
theorem dX7_castle_60 : decode cX7_castle 60 = .ok (.iaload, 1) := by decide +kernel
theorem dX7_castle_61 : decode cX7_castle 61 = .ok (.putfield 186, 3) := by decide +kernel
theorem dX7_castle_64 : decode cX7_castle 64 = .ok (.aload_n 0, 1) := by decide +kernel
theorem dX7_castle_65 : decode cX7_castle 65 = .ok (.aload_n 0, 1) := by decide +kernel
theorem dX7_castle_66 : decode cX7_castle 66 = .ok (.getfield 37, 3) := by decide +kernel
theorem dX7_castle_69 : decode cX7_castle 69 = .ok (.iconst 1, 1) := by decide +kernel
theorem dX7_castle_70 : decode cX7_castle 70 = .ok (.iaload, 1) := by decide +kernel
theorem dX7_castle_71 : decode cX7_castle 71 = .ok (.putfield 189, 3) := by decide +kernel
theorem dX7_castle_74 : decode cX7_castle 74 = .ok (.iconst 0, 1) := by decide +kernel
theorem dX7_castle_75 : decode cX7_castle 75 = .ok (.istore_n 2, 1) := by decide +kernel
theorem dX7_castle_76 : decode cX7_castle 76 = .ok (.iload_n 2, 1) := by decide +kernel
theorem dX7_castle_77 : decode cX7_castle 77 = .ok (.bipush 14, 2) := by decide +kernel
theorem dX7_castle_79 : decode cX7_castle 79 = .ok (.if_icmp .ge 16, 3) := by decide +kernel
theorem dX7_castle_82 : decode cX7_castle 82 = .ok (.aload_n 0, 1) := by decide +kernel
theorem dX7_castle_83 : decode cX7_castle 83 = .ok (.getfield 31, 3) := by decide +kernel
theorem dX7_castle_86 : decode cX7_castle 86 = .ok (.iload_n 2, 1) := by decide +kernel
theorem dX7_castle_87 : decode cX7_castle 87 = .ok (.iconst 0, 1) := by decide +kernel
theorem dX7_castle_88 : decode cX7_castle 88 = .ok (.iastore, 1) := by decide +kernel
theorem dX7_castle_89 : decode cX7_castle 89 = .ok (.iinc 2 1, 3) := by decide +kernel
theorem dX7_castle_92 : decode cX7_castle 92 = .ok (.goto (-16), 3) := by decide +kernel
theorem dX7_castle_95 : decode cX7_castle 95 = .ok (.iconst 0, 1) := by decide +kernel
theorem dX7_castle_96 : decode cX7_castle 96 = .ok (.istore_n 2, 1) := by decide +kernel
theorem dX7_castle_97 : decode cX7_castle 97 = .ok (.iload_n 2, 1) := by decide +kernel
theorem dX7_castle_98 : decode cX7_castle 98 = .ok (.bipush 8, 2) := by decide +kernel
theorem dX7_castle_100 : decode cX7_castle 100 = .ok (.if_icmp .ge 57, 3) := by decide +kernel
theorem dX7_castle_103 : decode cX7_castle 103 = .ok (.aload_n 0, 1) := by decide +kernel
theorem dX7_castle_104 : decode cX7_castle 104 = .ok (.getfield 31, 3) := by decide +kernel
theorem dX7_castle_107 : decode cX7_castle 107 = .ok (.iload_n 2, 1) := by decide +kernel
theorem dX7_castle_108 : decode cX7_castle 108 = .ok (.iload_n 2, 1) := by decide +kernel
theorem dX7_castle_109 : decode cX7_castle 109 = .ok (.aload_n 0, 1) := by decide +kernel
theorem dX7_castle_110 : decode cX7_castle 110 = .ok (.getfield 177, 3) := by decide +kernel
theorem dX7_castle_113 : decode cX7_castle 113 = .ok (.if_icmp .ge 12, 3) := by decide +kernel
theorem dX7_castle_116 : decode cX7_castle 116 = .ok (.aload_n 0, 1) := by decide +kernel
theorem dX7_castle_117 : decode cX7_castle 117 = .ok (.getfield 40, 3) := by decide +kernel
theorem dX7_castle_120 : decode cX7_castle 120 = .ok (.iload_n 2, 1) := by decide +kernel
theorem dX7_castle_121 : decode cX7_castle 121 = .ok (.iaload, 1) := by decide +kernel
theorem dX7_castle_122 : decode cX7_castle 122 = .ok (.goto 4, 3) := by decide +kernel
theorem dX7_castle_125 : decode cX7_castle 125 = .ok (.iconst 0, 1) := by decide +kernel
theorem dX7_castle_126 : decode cX7_castle 126 = .ok (.iastore, 1) := by decide +kernel
theorem dX7_castle_127 : decode cX7_castle 127 = .ok (.aload_n 0, 1) := by decide +kernel
theorem dX7_castle_128 : decode cX7_castle 128 = .ok (.getfield 22, 3) := by decide +kernel
theorem dX7_castle_131 : decode cX7_castle 131 = .ok (.iload_n 2, 1) := by decide +kernel
theorem dX7_castle_132 : decode cX7_castle 132 = .ok (.iload_n 2, 1) := by decide +kernel
theorem dX7_castle_133 : decode cX7_castle 133 = .ok (.aload_n 0, 1) := by decide +kernel
theorem dX7_castle_134 : decode cX7_castle 134 = .ok (.getfield 177, 3) := by decide +kernel
theorem dX7_castle_137 : decode cX7_castle 137 = .ok (.if_icmp .ge 12, 3) := by decide +kernel
theorem dX7_castle_140 : decode cX7_castle 140 = .ok (.aload_n 0, 1) := by decide +kernel
theorem dX7_castle_141 : decode cX7_castle 141 = .ok (.getfield 43, 3) := by decide +kernel
theorem dX7_castle_144 : decode cX7_castle 144 = .ok (.iload_n 2, 1) := by decide +kernel
theorem dX7_castle_145 : decode cX7_castle 145 = .ok (.iaload, 1) := by decide +kernel
theorem dX7_castle_146 : decode cX7_castle 146 = .ok (.goto 4, 3) := by decide +kernel
theorem dX7_castle_149 : decode cX7_castle 149 = .ok (.iconst 0, 1) := by decide +kernel
theorem dX7_castle_150 : decode cX7_castle 150 = .ok (.iastore, 1) := by decide +kernel
theorem dX7_castle_151 : decode cX7_castle 151 = .ok (.iinc 2 1, 3) := by decide +kernel
theorem dX7_castle_154 : decode cX7_castle 154 = .ok (.goto (-57), 3) := by decide +kernel
theorem dX7_castle_157 : decode cX7_castle 157 = .ok (.iconst 0, 1) := by decide +kernel
theorem dX7_castle_158 : decode cX7_castle 158 = .ok (.istore_n 2, 1) := by decide +kernel
theorem dX7_castle_159 : decode cX7_castle 159 = .ok (.iload_n 2, 1) := by decide +kernel
theorem dX7_castle_160 : decode cX7_castle 160 = .ok (.aload_n 0, 1) := by decide +kernel
theorem dX7_castle_161 : decode cX7_castle 161 = .ok (.getfield 183, 3) := by decide +kernel
theorem dX7_castle_164 : decode cX7_castle 164 = .ok (.if_icmp .ge 33, 3) := by decide +kernel
theorem dX7_castle_167 : decode cX7_castle 167 = .ok (.aload_n 0, 1) := by decide +kernel
theorem dX7_castle_168 : decode cX7_castle 168 = .ok (.getfield 25, 3) := by decide +kernel
theorem dX7_castle_171 : decode cX7_castle 171 = .ok (.iload_n 2, 1) := by decide +kernel
theorem dX7_castle_172 : decode cX7_castle 172 = .ok (.aload_n 0, 1) := by decide +kernel
theorem dX7_castle_173 : decode cX7_castle 173 = .ok (.getfield 46, 3) := by decide +kernel
theorem dX7_castle_176 : decode cX7_castle 176 = .ok (.iload_n 2, 1) := by decide +kernel
theorem dX7_castle_177 : decode cX7_castle 177 = .ok (.iaload, 1) := by decide +kernel
theorem dX7_castle_178 : decode cX7_castle 178 = .ok (.iastore, 1) := by decide +kernel
theorem dX7_castle_179 : decode cX7_castle 179 = .ok (.aload_n 0, 1) := by decide +kernel
theorem dX7_castle_180 : decode cX7_castle 180 = .ok (.getfield 28, 3) := by decide +kernel
theorem dX7_castle_183 : decode cX7_castle 183 = .ok (.iload_n 2, 1) := by decide +kernel
theorem dX7_castle_184 : decode cX7_castle 184 = .ok (.aload_n 0, 1) := by decide +kernel
theorem dX7_castle_185 : decode cX7_castle 185 = .ok (.getfield 49, 3) := by decide +kernel
theorem dX7_castle_188 : decode cX7_castle 188 = .ok (.iload_n 2, 1) := by decide +kernel
theorem dX7_castle_189 : decode cX7_castle 189 = .ok (.iaload, 1) := by decide +kernel
theorem dX7_castle_190 : decode cX7_castle 190 = .ok (.iastore, 1) := by decide +kernel
theorem dX7_castle_191 : decode cX7_castle 191 = .ok (.iinc 2 1, 3) := by decide +kernel
theorem dX7_castle_194 : decode cX7_castle 194 = .ok (.goto (-35), 3) := by decide +kernel
theorem dX7_castle_197 : decode cX7_castle 197 = .ok (.aload_n 0, 1) := by decide +kernel
theorem dX7_castle_198 : decode cX7_castle 198 = .ok (.iconst 0, 1) := by decide +kernel
theorem dX7_castle_199 : decode cX7_castle 199 = .ok (.putfield 192, 3) := by decide +kernel
theorem dX7_castle_202 : decode cX7_castle 202 = .ok (.aload_n 0, 1) := by decide +kernel
theorem dX7_castle_203 : decode cX7_castle 203 = .ok (.getfield 177, 3) := by decide +kernel
theorem dX7_castle_206 : decode cX7_castle 206 = .ok (.ireturn, 1) := by decide +kernel
theorem dX7_isBlock_0 : decode cX7_isBlock 0 = .ok (.iload_n 1, 1) := by decide +kernel
theorem dX7_isBlock_1 : decode cX7_isBlock 1 = .ok (.iconst 0, 1) := by decide +kernel
theorem dX7_isBlock_2 : decode cX7_isBlock 2 = .ok (.aload_n 0, 1) := by decide +kernel
theorem dX7_isBlock_3 : decode cX7_isBlock 3 = .ok (.getfield 177, 3) := by decide +kernel
theorem dX7_isBlock_6 : decode cX7_isBlock 6 = .ok (.iconst 1, 1) := by decide +kernel
theorem dX7_isBlock_7 : decode cX7_isBlock 7 = .ok (.isub, 1) := by decide +kernel
theorem dX7_isBlock_8 : decode cX7_isBlock 8 = .ok (.invokestatic 85, 3) := by decide +kernel
theorem dX7_isBlock_11 : decode cX7_isBlock 11 = .ok (.ireturn, 1) := by decide +kernel
theorem dX7_isClerk_0 : decode cX7_isClerk 0 = .ok (.iload_n 1, 1) := by decide +kernel
theorem dX7_isClerk_1 : decode cX7_isClerk 1 = .ok (.iconst 0, 1) := by decide +kernel
theorem dX7_isClerk_2 : decode cX7_isClerk 2 = .ok (.aload_n 0, 1) := by decide +kernel
theorem dX7_isClerk_3 : decode cX7_isClerk 3 = .ok (.getfield 183, 3) := by decide +kernel
theorem dX7_isClerk_6 : decode cX7_isClerk 6 = .ok (.iconst 1, 1) := by decide +kernel
theorem dX7_isClerk_7 : decode cX7_isClerk 7 = .ok (.isub, 1) := by decide +kernel
theorem dX7_isClerk_8 : decode cX7_isClerk 8 = .ok (.invokestatic 85, 3) := by decide +kernel
theorem dX7_isClerk_11 : decode cX7_isClerk 11 = .ok (.ireturn, 1) := by decide +kernel
theorem dX7_isBlocks_0 : decode cX7_isBlocks 0 = .ok (.iload_n 1, 1) := by decide +kernel
theorem dX7_isBlocks_1 : decode cX7_isBlocks 1 = .ok (.iconst 0, 1) := by decide +kernel
theorem dX7_isBlocks_2 : decode cX7_isBlocks 2 = .ok (.iconst 1, 1) := by decide +kernel
theorem dX7_isBlocks_3 : decode cX7_isBlocks 3 = .ok (.aload_n 0, 1) := by decide +kernel
theorem dX7_isBlocks_4 : decode cX7_isBlocks 4 = .ok (.getfield 177, 3) := by decide +kernel
theorem dX7_isBlocks_7 : decode cX7_isBlocks 7 = .ok (.ishl, 1) := by decide +kernel
theorem dX7_isBlocks_8 : decode cX7_isBlocks 8 = .ok (.iconst 1, 1) := by decide +kernel
theorem dX7_isBlocks_9 : decode cX7_isBlocks 9 = .ok (.isub, 1) := by decide +kernel
theorem dX7_isBlocks_10 : decode cX7_isBlocks 10 = .ok (.invokestatic 85, 3) := by decide +kernel
theorem dX7_isBlocks_13 : decode cX7_isBlocks 13 = .ok (.ireturn, 1) := by decide +kernel
theorem dX7_remember_0 : decode cX7_remember 0 = .ok (.iconst 0, 1) := by decide +kernel
theorem dX7_remember_1 : decode cX7_remember 1 = .ok (.istore_n 1, 1) := by decide +kernel
theorem dX7_remember_2 : decode cX7_remember 2 = .ok (.iload_n 1, 1) := by decide +kernel
theorem dX7_remember_3 : decode cX7_remember 3 = .ok (.bipush 14, 2) := by decide +kernel
theorem dX7_remember_5 : decode cX7_remember 5 = .ok (.if_icmp .ge 29, 3) := by decide +kernel
theorem dX7_remember_8 : decode cX7_remember 8 = .ok (.aload_n 0, 1) := by decide +kernel
theorem dX7_remember_9 : decode cX7_remember 9 = .ok (.getfield 52, 3) := by decide +kernel
theorem dX7_remember_12 : decode cX7_remember 12 = .ok (.bipush 14, 2) := by decide +kernel
theorem dX7_remember_14 : decode cX7_remember 14 = .ok (.aload_n 0, 1) := by decide +kernel
theorem dX7_remember_15 : decode cX7_remember 15 = .ok (.getfield 195, 3) := by decide +kernel
theorem dX7_remember_18 : decode cX7_remember 18 = .ok (.imul, 1) := by decide +kernel
theorem dX7_remember_19 : decode cX7_remember 19 = .ok (.iload_n 1, 1) := by decide +kernel
theorem dX7_remember_20 : decode cX7_remember 20 = .ok (.iadd, 1) := by decide +kernel
theorem dX7_remember_21 : decode cX7_remember 21 = .ok (.aload_n 0, 1) := by decide +kernel
theorem dX7_remember_22 : decode cX7_remember 22 = .ok (.getfield 31, 3) := by decide +kernel
theorem dX7_remember_25 : decode cX7_remember 25 = .ok (.iload_n 1, 1) := by decide +kernel
theorem dX7_remember_26 : decode cX7_remember 26 = .ok (.iaload, 1) := by decide +kernel
theorem dX7_remember_27 : decode cX7_remember 27 = .ok (.iastore, 1) := by decide +kernel
theorem dX7_remember_28 : decode cX7_remember 28 = .ok (.iinc 1 1, 3) := by decide +kernel
theorem dX7_remember_31 : decode cX7_remember 31 = .ok (.goto (-29), 3) := by decide +kernel
theorem dX7_remember_34 : decode cX7_remember 34 = .ok (.aload_n 0, 1) := by decide +kernel
theorem dX7_remember_35 : decode cX7_remember 35 = .ok (.aload_n 0, 1) := by decide +kernel
theorem dX7_remember_36 : decode cX7_remember 36 = .ok (.getfield 195, 3) := by decide +kernel
theorem dX7_remember_39 : decode cX7_remember 39 = .ok (.iconst 1, 1) := by decide +kernel
theorem dX7_remember_40 : decode cX7_remember 40 = .ok (.iadd, 1) := by decide +kernel
theorem dX7_remember_41 : decode cX7_remember 41 = .ok (.bipush 24, 2) := by decide +kernel
theorem dX7_remember_43 : decode cX7_remember 43 = .ok (.irem, 1) := by decide +kernel
theorem dX7_remember_44 : decode cX7_remember 44 = .ok (.putfield 195, 3) := by decide +kernel
theorem dX7_remember_47 : decode cX7_remember 47 = .ok (.aload_n 0, 1) := by decide +kernel
theorem dX7_remember_48 : decode cX7_remember 48 = .ok (.aload_n 0, 1) := by decide +kernel
theorem dX7_remember_49 : decode cX7_remember 49 = .ok (.getfield 192, 3) := by decide +kernel
theorem dX7_remember_52 : decode cX7_remember 52 = .ok (.iconst 1, 1) := by decide +kernel
theorem dX7_remember_53 : decode cX7_remember 53 = .ok (.iadd, 1) := by decide +kernel
theorem dX7_remember_54 : decode cX7_remember 54 = .ok (.bipush 24, 2) := by decide +kernel
theorem dX7_remember_56 : decode cX7_remember 56 = .ok (.invokestatic 198, 3) := by decide +kernel
theorem dX7_remember_59 : decode cX7_remember 59 = .ok (.putfield 192, 3) := by decide +kernel
theorem dX7_remember_62 : decode cX7_remember 62 = .ok (.return_, 1) := by decide +kernel
theorem dX7_undo_0 : decode cX7_undo 0 = .ok (.aload_n 0, 1) := by decide +kernel
theorem dX7_undo_1 : decode cX7_undo 1 = .ok (.getfield 192, 3) := by decide +kernel
theorem dX7_undo_4 : decode cX7_undo 4 = .ok (.ifCond .ne 6, 3) := by decide +kernel
theorem dX7_undo_7 : decode cX7_undo 7 = .ok (.ldc 201, 2) := by decide +kernel
theorem dX7_undo_9 : decode cX7_undo 9 = .ok (.ireturn, 1) := by decide +kernel
theorem dX7_undo_10 : decode cX7_undo 10 = .ok (.aload_n 0, 1) := by decide +kernel
theorem dX7_undo_11 : decode cX7_undo 11 = .ok (.aload_n 0, 1) := by decide +kernel
theorem dX7_undo_12 : decode cX7_undo 12 = .ok (.getfield 195, 3) := by decide +kernel
theorem dX7_undo_15 : decode cX7_undo 15 = .ok (.bipush 24, 2) := by decide +kernel
theorem dX7_undo_17 : decode cX7_undo 17 = .ok (.iadd, 1) := by decide +kernel
theorem dX7_undo_18 : decode cX7_undo 18 = .ok (.iconst 1, 1) := by decide +kernel
theorem dX7_undo_19 : decode cX7_undo 19 = .ok (.isub, 1) := by decide +kernel
theorem dX7_undo_20 : decode cX7_undo 20 = .ok (.bipush 24, 2) := by decide +kernel
theorem dX7_undo_22 : decode cX7_undo 22 = .ok (.irem, 1) := by decide +kernel
theorem dX7_undo_23 : decode cX7_undo 23 = .ok (.putfield 195, 3) := by decide +kernel
theorem dX7_undo_26 : decode cX7_undo 26 = .ok (.aload_n 0, 1) := by decide +kernel
theorem dX7_undo_27 : decode cX7_undo 27 = .ok (.dup, 1) := by decide +kernel
theorem dX7_undo_28 : decode cX7_undo 28 = .ok (.getfield 192, 3) := by decide +kernel
theorem dX7_undo_31 : decode cX7_undo 31 = .ok (.iconst 1, 1) := by decide +kernel
theorem dX7_undo_32 : decode cX7_undo 32 = .ok (.isub, 1) := by decide +kernel
theorem dX7_undo_33 : decode cX7_undo 33 = .ok (.putfield 192, 3) := by decide +kernel
theorem dX7_undo_36 : decode cX7_undo 36 = .ok (.iconst 0, 1) := by decide +kernel
theorem dX7_undo_37 : decode cX7_undo 37 = .ok (.istore_n 1, 1) := by decide +kernel
theorem dX7_undo_38 : decode cX7_undo 38 = .ok (.iload_n 1, 1) := by decide +kernel
theorem dX7_undo_39 : decode cX7_undo 39 = .ok (.bipush 14, 2) := by decide +kernel
theorem dX7_undo_41 : decode cX7_undo 41 = .ok (.if_icmp .ge 29, 3) := by decide +kernel
theorem dX7_undo_44 : decode cX7_undo 44 = .ok (.aload_n 0, 1) := by decide +kernel
theorem dX7_undo_45 : decode cX7_undo 45 = .ok (.getfield 31, 3) := by decide +kernel
theorem dX7_undo_48 : decode cX7_undo 48 = .ok (.iload_n 1, 1) := by decide +kernel
theorem dX7_undo_49 : decode cX7_undo 49 = .ok (.aload_n 0, 1) := by decide +kernel
theorem dX7_undo_50 : decode cX7_undo 50 = .ok (.getfield 52, 3) := by decide +kernel
theorem dX7_undo_53 : decode cX7_undo 53 = .ok (.bipush 14, 2) := by decide +kernel
theorem dX7_undo_55 : decode cX7_undo 55 = .ok (.aload_n 0, 1) := by decide +kernel
theorem dX7_undo_56 : decode cX7_undo 56 = .ok (.getfield 195, 3) := by decide +kernel
theorem dX7_undo_59 : decode cX7_undo 59 = .ok (.imul, 1) := by decide +kernel
theorem dX7_undo_60 : decode cX7_undo 60 = .ok (.iload_n 1, 1) := by decide +kernel
theorem dX7_undo_61 : decode cX7_undo 61 = .ok (.iadd, 1) := by decide +kernel
theorem dX7_undo_62 : decode cX7_undo 62 = .ok (.iaload, 1) := by decide +kernel
theorem dX7_undo_63 : decode cX7_undo 63 = .ok (.iastore, 1) := by decide +kernel
theorem dX7_undo_64 : decode cX7_undo 64 = .ok (.iinc 1 1, 3) := by decide +kernel
theorem dX7_undo_67 : decode cX7_undo 67 = .ok (.goto (-29), 3) := by decide +kernel
theorem dX7_undo_70 : decode cX7_undo 70 = .ok (.aload_n 0, 1) := by decide +kernel
theorem dX7_undo_71 : decode cX7_undo 71 = .ok (.getfield 192, 3) := by decide +kernel
theorem dX7_undo_74 : decode cX7_undo 74 = .ok (.ireturn, 1) := by decide +kernel
theorem dX7_standing_0 : decode cX7_standing 0 = .ok (.iconst 0, 1) := by decide +kernel
theorem dX7_standing_1 : decode cX7_standing 1 = .ok (.istore_n 2, 1) := by decide +kernel
theorem dX7_standing_2 : decode cX7_standing 2 = .ok (.iconst 0, 1) := by decide +kernel
theorem dX7_standing_3 : decode cX7_standing 3 = .ok (.istore_n 3, 1) := by decide +kernel
theorem dX7_standing_4 : decode cX7_standing 4 = .ok (.iload_n 3, 1) := by decide +kernel
theorem dX7_standing_5 : decode cX7_standing 5 = .ok (.aload_n 0, 1) := by decide +kernel
theorem dX7_standing_6 : decode cX7_standing 6 = .ok (.getfield 177, 3) := by decide +kernel
theorem dX7_standing_9 : decode cX7_standing 9 = .ok (.if_icmp .ge 45, 3) := by decide +kernel
theorem dX7_standing_12 : decode cX7_standing 12 = .ok (.iload_n 2, 1) := by decide +kernel
theorem dX7_standing_13 : decode cX7_standing 13 = .ok (.aload_n 1, 1) := by decide +kernel
theorem dX7_standing_14 : decode cX7_standing 14 = .ok (.iload_n 3, 1) := by decide +kernel
theorem dX7_standing_15 : decode cX7_standing 15 = .ok (.iaload, 1) := by decide +kernel
theorem dX7_standing_16 : decode cX7_standing 16 = .ok (.ifCond .le 29, 3) := by decide +kernel
theorem dX7_standing_19 : decode cX7_standing 19 = .ok (.aload_n 0, 1) := by decide +kernel
theorem dX7_standing_20 : decode cX7_standing 20 = .ok (.getfield 22, 3) := by decide +kernel
theorem dX7_standing_23 : decode cX7_standing 23 = .ok (.iload_n 3, 1) := by decide +kernel
theorem dX7_standing_24 : decode cX7_standing 24 = .ok (.iaload, 1) := by decide +kernel
theorem dX7_standing_25 : decode cX7_standing 25 = .ok (.ifCond .eq 14, 3) := by decide +kernel
theorem dX7_standing_28 : decode cX7_standing 28 = .ok (.aload_n 0, 1) := by decide +kernel
theorem dX7_standing_29 : decode cX7_standing 29 = .ok (.getfield 22, 3) := by decide +kernel
theorem dX7_standing_32 : decode cX7_standing 32 = .ok (.iload_n 3, 1) := by decide +kernel
theorem dX7_standing_33 : decode cX7_standing 33 = .ok (.iaload, 1) := by decide +kernel
theorem dX7_standing_34 : decode cX7_standing 34 = .ok (.iload_n 2, 1) := by decide +kernel
theorem dX7_standing_35 : decode cX7_standing 35 = .ok (.iand, 1) := by decide +kernel
theorem dX7_standing_36 : decode cX7_standing 36 = .ok (.ifCond .eq 9, 3) := by decide +kernel
theorem dX7_standing_39 : decode cX7_standing 39 = .ok (.iconst 1, 1) := by decide +kernel
theorem dX7_standing_40 : decode cX7_standing 40 = .ok (.iload_n 3, 1) := by decide +kernel
theorem dX7_standing_41 : decode cX7_standing 41 = .ok (.ishl, 1) := by decide +kernel
theorem dX7_standing_42 : decode cX7_standing 42 = .ok (.goto 4, 3) := by decide +kernel
theorem dX7_standing_45 : decode cX7_standing 45 = .ok (.iconst 0, 1) := by decide +kernel
theorem dX7_standing_46 : decode cX7_standing 46 = .ok (.ior, 1) := by decide +kernel
theorem dX7_standing_47 : decode cX7_standing 47 = .ok (.istore_n 2, 1) := by decide +kernel
theorem dX7_standing_48 : decode cX7_standing 48 = .ok (.iinc 3 1, 3) := by decide +kernel
theorem dX7_standing_51 : decode cX7_standing 51 = .ok (.goto (-47), 3) := by decide +kernel
theorem dX7_standing_54 : decode cX7_standing 54 = .ok (.iload_n 2, 1) := by decide +kernel
theorem dX7_standing_55 : decode cX7_standing 55 = .ok (.ireturn, 1) := by decide +kernel
theorem dX7_fallen_0 : decode cX7_fallen 0 = .ok (.aload_n 0, 1) := by decide +kernel
theorem dX7_fallen_1 : decode cX7_fallen 1 = .ok (.aload_n 1, 1) := by decide +kernel
theorem dX7_fallen_2 : decode cX7_fallen 2 = .ok (.invokevirtual 202, 3) := by decide +kernel
theorem dX7_fallen_5 : decode cX7_fallen 5 = .ok (.istore_n 2, 1) := by decide +kernel
theorem dX7_fallen_6 : decode cX7_fallen 6 = .ok (.iconst 0, 1) := by decide +kernel
theorem dX7_fallen_7 : decode cX7_fallen 7 = .ok (.istore_n 3, 1) := by decide +kernel
theorem dX7_fallen_8 : decode cX7_fallen 8 = .ok (.iconst 0, 1) := by decide +kernel
theorem dX7_fallen_9 : decode cX7_fallen 9 = .ok (.istore 4, 2) := by decide +kernel
theorem dX7_fallen_11 : decode cX7_fallen 11 = .ok (.iload 4, 2) := by decide +kernel
theorem dX7_fallen_13 : decode cX7_fallen 13 = .ok (.aload_n 0, 1) := by decide +kernel
theorem dX7_fallen_14 : decode cX7_fallen 14 = .ok (.getfield 177, 3) := by decide +kernel
theorem dX7_fallen_17 : decode cX7_fallen 17 = .ok (.if_icmp .ge 36, 3) := by decide +kernel
theorem dX7_fallen_20 : decode cX7_fallen 20 = .ok (.iload_n 3, 1) := by decide +kernel
theorem dX7_fallen_21 : decode cX7_fallen 21 = .ok (.aload_n 1, 1) := by decide +kernel
theorem dX7_fallen_22 : decode cX7_fallen 22 = .ok (.iload 4, 2) := by decide +kernel
theorem dX7_fallen_24 : decode cX7_fallen 24 = .ok (.iaload, 1) := by decide +kernel
theorem dX7_fallen_25 : decode cX7_fallen 25 = .ok (.ifCond .le 19, 3) := by decide +kernel
theorem dX7_fallen_28 : decode cX7_fallen 28 = .ok (.iload_n 2, 1) := by decide +kernel
theorem dX7_fallen_29 : decode cX7_fallen 29 = .ok (.iload 4, 2) := by decide +kernel
theorem dX7_fallen_31 : decode cX7_fallen 31 = .ok (.invokestatic 146, 3) := by decide +kernel
theorem dX7_fallen_34 : decode cX7_fallen 34 = .ok (.ifCond .ne 10, 3) := by decide +kernel
theorem dX7_fallen_37 : decode cX7_fallen 37 = .ok (.iconst 1, 1) := by decide +kernel
theorem dX7_fallen_38 : decode cX7_fallen 38 = .ok (.iload 4, 2) := by decide +kernel
theorem dX7_fallen_40 : decode cX7_fallen 40 = .ok (.ishl, 1) := by decide +kernel
theorem dX7_fallen_41 : decode cX7_fallen 41 = .ok (.goto 4, 3) := by decide +kernel
theorem dX7_fallen_44 : decode cX7_fallen 44 = .ok (.iconst 0, 1) := by decide +kernel
theorem dX7_fallen_45 : decode cX7_fallen 45 = .ok (.ior, 1) := by decide +kernel
theorem dX7_fallen_46 : decode cX7_fallen 46 = .ok (.istore_n 3, 1) := by decide +kernel
theorem dX7_fallen_47 : decode cX7_fallen 47 = .ok (.iinc 4 1, 3) := by decide +kernel
theorem dX7_fallen_50 : decode cX7_fallen 50 = .ok (.goto (-39), 3) := by decide +kernel
theorem dX7_fallen_53 : decode cX7_fallen 53 = .ok (.iload_n 3, 1) := by decide +kernel
theorem dX7_fallen_54 : decode cX7_fallen 54 = .ok (.ireturn, 1) := by decide +kernel
theorem dX7_takesBy_0 : decode cX7_takesBy 0 = .ok (.iload_n 1, 1) := by decide +kernel
theorem dX7_takesBy_1 : decode cX7_takesBy 1 = .ok (.tableswitch 59 1 4 #[31, 35, 43, 49], 31) := by decide +kernel
theorem dX7_takesBy_32 : decode cX7_takesBy 32 = .ok (.iload_n 2, 1) := by decide +kernel
theorem dX7_takesBy_33 : decode cX7_takesBy 33 = .ok (.iload_n 3, 1) := by decide +kernel
theorem dX7_takesBy_34 : decode cX7_takesBy 34 = .ok (.imul, 1) := by decide +kernel
theorem dX7_takesBy_35 : decode cX7_takesBy 35 = .ok (.ireturn, 1) := by decide +kernel
theorem dX7_takesBy_36 : decode cX7_takesBy 36 = .ok (.iload_n 2, 1) := by decide +kernel
theorem dX7_takesBy_37 : decode cX7_takesBy 37 = .ok (.iload_n 3, 1) := by decide +kernel
theorem dX7_takesBy_38 : decode cX7_takesBy 38 = .ok (.imul, 1) := by decide +kernel
theorem dX7_takesBy_39 : decode cX7_takesBy 39 = .ok (.iconst 1, 1) := by decide +kernel
theorem dX7_takesBy_40 : decode cX7_takesBy 40 = .ok (.iadd, 1) := by decide +kernel
theorem dX7_takesBy_41 : decode cX7_takesBy 41 = .ok (.iconst 2, 1) := by decide +kernel
theorem dX7_takesBy_42 : decode cX7_takesBy 42 = .ok (.idiv, 1) := by decide +kernel
theorem dX7_takesBy_43 : decode cX7_takesBy 43 = .ok (.ireturn, 1) := by decide +kernel
theorem dX7_takesBy_44 : decode cX7_takesBy 44 = .ok (.iconst 2, 1) := by decide +kernel
theorem dX7_takesBy_45 : decode cX7_takesBy 45 = .ok (.iload_n 2, 1) := by decide +kernel
theorem dX7_takesBy_46 : decode cX7_takesBy 46 = .ok (.imul, 1) := by decide +kernel
theorem dX7_takesBy_47 : decode cX7_takesBy 47 = .ok (.iload_n 3, 1) := by decide +kernel
theorem dX7_takesBy_48 : decode cX7_takesBy 48 = .ok (.imul, 1) := by decide +kernel
theorem dX7_takesBy_49 : decode cX7_takesBy 49 = .ok (.ireturn, 1) := by decide +kernel
theorem dX7_takesBy_50 : decode cX7_takesBy 50 = .ok (.iload_n 3, 1) := by decide +kernel
theorem dX7_takesBy_51 : decode cX7_takesBy 51 = .ok (.iload 4, 2) := by decide +kernel
theorem dX7_takesBy_53 : decode cX7_takesBy 53 = .ok (.bipush 9, 2) := by decide +kernel
theorem dX7_takesBy_55 : decode cX7_takesBy 55 = .ok (.invokestatic 198, 3) := by decide +kernel
theorem dX7_takesBy_58 : decode cX7_takesBy 58 = .ok (.iadd, 1) := by decide +kernel
theorem dX7_takesBy_59 : decode cX7_takesBy 59 = .ok (.ireturn, 1) := by decide +kernel
theorem dX7_takesBy_60 : decode cX7_takesBy 60 = .ok (.iload_n 3, 1) := by decide +kernel
theorem dX7_takesBy_61 : decode cX7_takesBy 61 = .ok (.iload 4, 2) := by decide +kernel
theorem dX7_takesBy_63 : decode cX7_takesBy 63 = .ok (.bipush 9, 2) := by decide +kernel
theorem dX7_takesBy_65 : decode cX7_takesBy 65 = .ok (.invokestatic 198, 3) := by decide +kernel
theorem dX7_takesBy_68 : decode cX7_takesBy 68 = .ok (.iadd, 1) := by decide +kernel
theorem dX7_takesBy_69 : decode cX7_takesBy 69 = .ok (.iload_n 2, 1) := by decide +kernel
theorem dX7_takesBy_70 : decode cX7_takesBy 70 = .ok (.iadd, 1) := by decide +kernel
theorem dX7_takesBy_71 : decode cX7_takesBy 71 = .ok (.ireturn, 1) := by decide +kernel
theorem dX7_takesOf_0 : decode cX7_takesOf 0 = .ok (.aload_n 0, 1) := by decide +kernel
theorem dX7_takesOf_1 : decode cX7_takesOf 1 = .ok (.aload_n 0, 1) := by decide +kernel
theorem dX7_takesOf_2 : decode cX7_takesOf 2 = .ok (.getfield 28, 3) := by decide +kernel
theorem dX7_takesOf_5 : decode cX7_takesOf 5 = .ok (.iload_n 2, 1) := by decide +kernel
theorem dX7_takesOf_6 : decode cX7_takesOf 6 = .ok (.iaload, 1) := by decide +kernel
theorem dX7_takesOf_7 : decode cX7_takesOf 7 = .ok (.aload_n 0, 1) := by decide +kernel
theorem dX7_takesOf_8 : decode cX7_takesOf 8 = .ok (.getfield 25, 3) := by decide +kernel
theorem dX7_takesOf_11 : decode cX7_takesOf 11 = .ok (.iload_n 2, 1) := by decide +kernel
theorem dX7_takesOf_12 : decode cX7_takesOf 12 = .ok (.iaload, 1) := by decide +kernel
theorem dX7_takesOf_13 : decode cX7_takesOf 13 = .ok (.iload_n 3, 1) := by decide +kernel
theorem dX7_takesOf_14 : decode cX7_takesOf 14 = .ok (.aload_n 1, 1) := by decide +kernel
theorem dX7_takesOf_15 : decode cX7_takesOf 15 = .ok (.bipush 13, 2) := by decide +kernel
theorem dX7_takesOf_17 : decode cX7_takesOf 17 = .ok (.iaload, 1) := by decide +kernel
theorem dX7_takesOf_18 : decode cX7_takesOf 18 = .ok (.invokevirtual 206, 3) := by decide +kernel
theorem dX7_takesOf_21 : decode cX7_takesOf 21 = .ok (.ireturn, 1) := by decide +kernel
theorem dX7_writes_0 : decode cX7_writes 0 = .ok (.aload_n 0, 1) := by decide +kernel
theorem dX7_writes_1 : decode cX7_writes 1 = .ok (.aload_n 1, 1) := by decide +kernel
theorem dX7_writes_2 : decode cX7_writes 2 = .ok (.iload_n 2, 1) := by decide +kernel
theorem dX7_writes_3 : decode cX7_writes 3 = .ok (.iload_n 3, 1) := by decide +kernel
theorem dX7_writes_4 : decode cX7_writes 4 = .ok (.invokevirtual 210, 3) := by decide +kernel
theorem dX7_writes_7 : decode cX7_writes 7 = .ok (.istore 5, 2) := by decide +kernel
theorem dX7_writes_9 : decode cX7_writes 9 = .ok (.aload_n 1, 1) := by decide +kernel
theorem dX7_writes_10 : decode cX7_writes 10 = .ok (.iload 4, 2) := by decide +kernel
theorem dX7_writes_12 : decode cX7_writes 12 = .ok (.iaload, 1) := by decide +kernel
theorem dX7_writes_13 : decode cX7_writes 13 = .ok (.iload 5, 2) := by decide +kernel
theorem dX7_writes_15 : decode cX7_writes 15 = .ok (.if_icmp .ge 5, 3) := by decide +kernel
theorem dX7_writes_18 : decode cX7_writes 18 = .ok (.iconst 0, 1) := by decide +kernel
theorem dX7_writes_19 : decode cX7_writes 19 = .ok (.ireturn, 1) := by decide +kernel
theorem dX7_writes_20 : decode cX7_writes 20 = .ok (.aload_n 1, 1) := by decide +kernel
theorem dX7_writes_21 : decode cX7_writes 21 = .ok (.iload 4, 2) := by decide +kernel
theorem dX7_writes_23 : decode cX7_writes 23 = .ok (.dup2, 1) := by decide +kernel
theorem dX7_writes_24 : decode cX7_writes 24 = .ok (.iaload, 1) := by decide +kernel
theorem dX7_writes_25 : decode cX7_writes 25 = .ok (.iload 5, 2) := by decide +kernel
theorem dX7_writes_27 : decode cX7_writes 27 = .ok (.isub, 1) := by decide +kernel
theorem dX7_writes_28 : decode cX7_writes 28 = .ok (.iastore, 1) := by decide +kernel
theorem dX7_writes_29 : decode cX7_writes 29 = .ok (.aload_n 1, 1) := by decide +kernel
theorem dX7_writes_30 : decode cX7_writes 30 = .ok (.bipush 12, 2) := by decide +kernel
theorem dX7_writes_32 : decode cX7_writes 32 = .ok (.dup2, 1) := by decide +kernel
theorem dX7_writes_33 : decode cX7_writes 33 = .ok (.iaload, 1) := by decide +kernel
theorem dX7_writes_34 : decode cX7_writes 34 = .ok (.iload 5, 2) := by decide +kernel
theorem dX7_writes_36 : decode cX7_writes 36 = .ok (.iadd, 1) := by decide +kernel
theorem dX7_writes_37 : decode cX7_writes 37 = .ok (.iastore, 1) := by decide +kernel
theorem dX7_writes_38 : decode cX7_writes 38 = .ok (.aload_n 1, 1) := by decide +kernel
theorem dX7_writes_39 : decode cX7_writes 39 = .ok (.bipush 8, 2) := by decide +kernel
theorem dX7_writes_41 : decode cX7_writes 41 = .ok (.iload_n 2, 1) := by decide +kernel
theorem dX7_writes_42 : decode cX7_writes 42 = .ok (.iadd, 1) := by decide +kernel
theorem dX7_writes_43 : decode cX7_writes 43 = .ok (.dup2, 1) := by decide +kernel
theorem dX7_writes_44 : decode cX7_writes 44 = .ok (.iaload, 1) := by decide +kernel
theorem dX7_writes_45 : decode cX7_writes 45 = .ok (.iload_n 3, 1) := by decide +kernel
theorem dX7_writes_46 : decode cX7_writes 46 = .ok (.iadd, 1) := by decide +kernel
theorem dX7_writes_47 : decode cX7_writes 47 = .ok (.iastore, 1) := by decide +kernel
theorem dX7_writes_48 : decode cX7_writes 48 = .ok (.iconst 1, 1) := by decide +kernel
theorem dX7_writes_49 : decode cX7_writes 49 = .ok (.ireturn, 1) := by decide +kernel
theorem dX7_restingOn_0 : decode cX7_restingOn 0 = .ok (.iconst 0, 1) := by decide +kernel
theorem dX7_restingOn_1 : decode cX7_restingOn 1 = .ok (.istore_n 2, 1) := by decide +kernel
theorem dX7_restingOn_2 : decode cX7_restingOn 2 = .ok (.iconst 0, 1) := by decide +kernel
theorem dX7_restingOn_3 : decode cX7_restingOn 3 = .ok (.istore_n 3, 1) := by decide +kernel
theorem dX7_restingOn_4 : decode cX7_restingOn 4 = .ok (.iload_n 3, 1) := by decide +kernel
theorem dX7_restingOn_5 : decode cX7_restingOn 5 = .ok (.aload_n 0, 1) := by decide +kernel
theorem dX7_restingOn_6 : decode cX7_restingOn 6 = .ok (.getfield 177, 3) := by decide +kernel
theorem dX7_restingOn_9 : decode cX7_restingOn 9 = .ok (.if_icmp .ge 32, 3) := by decide +kernel
theorem dX7_restingOn_12 : decode cX7_restingOn 12 = .ok (.iload_n 2, 1) := by decide +kernel
theorem dX7_restingOn_13 : decode cX7_restingOn 13 = .ok (.aload_n 0, 1) := by decide +kernel
theorem dX7_restingOn_14 : decode cX7_restingOn 14 = .ok (.getfield 22, 3) := by decide +kernel
theorem dX7_restingOn_17 : decode cX7_restingOn 17 = .ok (.iload_n 3, 1) := by decide +kernel
theorem dX7_restingOn_18 : decode cX7_restingOn 18 = .ok (.iaload, 1) := by decide +kernel
theorem dX7_restingOn_19 : decode cX7_restingOn 19 = .ok (.iload_n 1, 1) := by decide +kernel
theorem dX7_restingOn_20 : decode cX7_restingOn 20 = .ok (.invokestatic 146, 3) := by decide +kernel
theorem dX7_restingOn_23 : decode cX7_restingOn 23 = .ok (.ifCond .eq 9, 3) := by decide +kernel
theorem dX7_restingOn_26 : decode cX7_restingOn 26 = .ok (.iconst 1, 1) := by decide +kernel
theorem dX7_restingOn_27 : decode cX7_restingOn 27 = .ok (.iload_n 3, 1) := by decide +kernel
theorem dX7_restingOn_28 : decode cX7_restingOn 28 = .ok (.ishl, 1) := by decide +kernel
theorem dX7_restingOn_29 : decode cX7_restingOn 29 = .ok (.goto 4, 3) := by decide +kernel
theorem dX7_restingOn_32 : decode cX7_restingOn 32 = .ok (.iconst 0, 1) := by decide +kernel
theorem dX7_restingOn_33 : decode cX7_restingOn 33 = .ok (.ior, 1) := by decide +kernel
theorem dX7_restingOn_34 : decode cX7_restingOn 34 = .ok (.istore_n 2, 1) := by decide +kernel
theorem dX7_restingOn_35 : decode cX7_restingOn 35 = .ok (.iinc 3 1, 3) := by decide +kernel
theorem dX7_restingOn_38 : decode cX7_restingOn 38 = .ok (.goto (-34), 3) := by decide +kernel
theorem dX7_restingOn_41 : decode cX7_restingOn 41 = .ok (.iload_n 2, 1) := by decide +kernel
theorem dX7_restingOn_42 : decode cX7_restingOn 42 = .ok (.ireturn, 1) := by decide +kernel
theorem dX7_rainsOn_0 : decode cX7_rainsOn 0 = .ok (.aload_n 0, 1) := by decide +kernel
theorem dX7_rainsOn_1 : decode cX7_rainsOn 1 = .ok (.aload_n 1, 1) := by decide +kernel
theorem dX7_rainsOn_2 : decode cX7_rainsOn 2 = .ok (.invokevirtual 202, 3) := by decide +kernel
theorem dX7_rainsOn_5 : decode cX7_rainsOn 5 = .ok (.istore_n 2, 1) := by decide +kernel
theorem dX7_rainsOn_6 : decode cX7_rainsOn 6 = .ok (.iconst 0, 1) := by decide +kernel
theorem dX7_rainsOn_7 : decode cX7_rainsOn 7 = .ok (.istore_n 3, 1) := by decide +kernel
theorem dX7_rainsOn_8 : decode cX7_rainsOn 8 = .ok (.iload_n 3, 1) := by decide +kernel
theorem dX7_rainsOn_9 : decode cX7_rainsOn 9 = .ok (.aload_n 0, 1) := by decide +kernel
theorem dX7_rainsOn_10 : decode cX7_rainsOn 10 = .ok (.getfield 177, 3) := by decide +kernel
theorem dX7_rainsOn_13 : decode cX7_rainsOn 13 = .ok (.if_icmp .ge 70, 3) := by decide +kernel
theorem dX7_rainsOn_16 : decode cX7_rainsOn 16 = .ok (.iload_n 2, 1) := by decide +kernel
theorem dX7_rainsOn_17 : decode cX7_rainsOn 17 = .ok (.iload_n 3, 1) := by decide +kernel
theorem dX7_rainsOn_18 : decode cX7_rainsOn 18 = .ok (.invokestatic 146, 3) := by decide +kernel
theorem dX7_rainsOn_21 : decode cX7_rainsOn 21 = .ok (.ifCond .eq 17, 3) := by decide +kernel
theorem dX7_rainsOn_24 : decode cX7_rainsOn 24 = .ok (.aload_n 0, 1) := by decide +kernel
theorem dX7_rainsOn_25 : decode cX7_rainsOn 25 = .ok (.iload_n 3, 1) := by decide +kernel
theorem dX7_rainsOn_26 : decode cX7_rainsOn 26 = .ok (.invokevirtual 214, 3) := by decide +kernel
theorem dX7_rainsOn_29 : decode cX7_rainsOn 29 = .ok (.iload_n 2, 1) := by decide +kernel
theorem dX7_rainsOn_30 : decode cX7_rainsOn 30 = .ok (.iand, 1) := by decide +kernel
theorem dX7_rainsOn_31 : decode cX7_rainsOn 31 = .ok (.ifCond .ne 7, 3) := by decide +kernel
theorem dX7_rainsOn_34 : decode cX7_rainsOn 34 = .ok (.iconst 1, 1) := by decide +kernel
theorem dX7_rainsOn_35 : decode cX7_rainsOn 35 = .ok (.goto 4, 3) := by decide +kernel
theorem dX7_rainsOn_38 : decode cX7_rainsOn 38 = .ok (.iconst 0, 1) := by decide +kernel
theorem dX7_rainsOn_39 : decode cX7_rainsOn 39 = .ok (.istore 4, 2) := by decide +kernel
theorem dX7_rainsOn_41 : decode cX7_rainsOn 41 = .ok (.aload_n 1, 1) := by decide +kernel
theorem dX7_rainsOn_42 : decode cX7_rainsOn 42 = .ok (.iload_n 3, 1) := by decide +kernel
theorem dX7_rainsOn_43 : decode cX7_rainsOn 43 = .ok (.iload 4, 2) := by decide +kernel
theorem dX7_rainsOn_45 : decode cX7_rainsOn 45 = .ok (.ifCond .eq 28, 3) := by decide +kernel
theorem dX7_rainsOn_48 : decode cX7_rainsOn 48 = .ok (.aload_n 1, 1) := by decide +kernel
theorem dX7_rainsOn_49 : decode cX7_rainsOn 49 = .ok (.iload_n 3, 1) := by decide +kernel
theorem dX7_rainsOn_50 : decode cX7_rainsOn 50 = .ok (.iaload, 1) := by decide +kernel
theorem dX7_rainsOn_51 : decode cX7_rainsOn 51 = .ok (.aload_n 0, 1) := by decide +kernel
theorem dX7_rainsOn_52 : decode cX7_rainsOn 52 = .ok (.getfield 186, 3) := by decide +kernel
theorem dX7_rainsOn_55 : decode cX7_rainsOn 55 = .ok (.if_icmp .le 14, 3) := by decide +kernel
theorem dX7_rainsOn_58 : decode cX7_rainsOn 58 = .ok (.aload_n 1, 1) := by decide +kernel
theorem dX7_rainsOn_59 : decode cX7_rainsOn 59 = .ok (.iload_n 3, 1) := by decide +kernel
theorem dX7_rainsOn_60 : decode cX7_rainsOn 60 = .ok (.iaload, 1) := by decide +kernel
theorem dX7_rainsOn_61 : decode cX7_rainsOn 61 = .ok (.aload_n 0, 1) := by decide +kernel
theorem dX7_rainsOn_62 : decode cX7_rainsOn 62 = .ok (.getfield 186, 3) := by decide +kernel
theorem dX7_rainsOn_65 : decode cX7_rainsOn 65 = .ok (.isub, 1) := by decide +kernel
theorem dX7_rainsOn_66 : decode cX7_rainsOn 66 = .ok (.goto 10, 3) := by decide +kernel
theorem dX7_rainsOn_69 : decode cX7_rainsOn 69 = .ok (.iconst 0, 1) := by decide +kernel
theorem dX7_rainsOn_70 : decode cX7_rainsOn 70 = .ok (.goto 6, 3) := by decide +kernel
theorem dX7_rainsOn_73 : decode cX7_rainsOn 73 = .ok (.aload_n 1, 1) := by decide +kernel
theorem dX7_rainsOn_74 : decode cX7_rainsOn 74 = .ok (.iload_n 3, 1) := by decide +kernel
theorem dX7_rainsOn_75 : decode cX7_rainsOn 75 = .ok (.iaload, 1) := by decide +kernel
theorem dX7_rainsOn_76 : decode cX7_rainsOn 76 = .ok (.iastore, 1) := by decide +kernel
theorem dX7_rainsOn_77 : decode cX7_rainsOn 77 = .ok (.iinc 3 1, 3) := by decide +kernel
theorem dX7_rainsOn_80 : decode cX7_rainsOn 80 = .ok (.goto (-72), 3) := by decide +kernel
theorem dX7_rainsOn_83 : decode cX7_rainsOn 83 = .ok (.return_, 1) := by decide +kernel
theorem dX7_write_0 : decode cX7_write 0 = .ok (.aload_n 0, 1) := by decide +kernel
theorem dX7_write_1 : decode cX7_write 1 = .ok (.iload_n 1, 1) := by decide +kernel
theorem dX7_write_2 : decode cX7_write 2 = .ok (.invokevirtual 217, 3) := by decide +kernel
theorem dX7_write_5 : decode cX7_write 5 = .ok (.ifCond .eq 21, 3) := by decide +kernel
theorem dX7_write_8 : decode cX7_write 8 = .ok (.iload_n 2, 1) := by decide +kernel
theorem dX7_write_9 : decode cX7_write 9 = .ok (.iconst 1, 1) := by decide +kernel
theorem dX7_write_10 : decode cX7_write 10 = .ok (.bipush 30, 2) := by decide +kernel
theorem dX7_write_12 : decode cX7_write 12 = .ok (.invokestatic 85, 3) := by decide +kernel
theorem dX7_write_15 : decode cX7_write 15 = .ok (.ifCond .eq 11, 3) := by decide +kernel
theorem dX7_write_18 : decode cX7_write 18 = .ok (.aload_n 0, 1) := by decide +kernel
theorem dX7_write_19 : decode cX7_write 19 = .ok (.iload_n 3, 1) := by decide +kernel
theorem dX7_write_20 : decode cX7_write 20 = .ok (.invokevirtual 220, 3) := by decide +kernel
theorem dX7_write_23 : decode cX7_write 23 = .ok (.ifCond .ne 6, 3) := by decide +kernel
theorem dX7_write_26 : decode cX7_write 26 = .ok (.ldc 93, 2) := by decide +kernel
theorem dX7_write_28 : decode cX7_write 28 = .ok (.ireturn, 1) := by decide +kernel
theorem dX7_write_29 : decode cX7_write 29 = .ok (.aload_n 0, 1) := by decide +kernel
theorem dX7_write_30 : decode cX7_write 30 = .ok (.aload_n 0, 1) := by decide +kernel
theorem dX7_write_31 : decode cX7_write 31 = .ok (.getfield 31, 3) := by decide +kernel
theorem dX7_write_34 : decode cX7_write 34 = .ok (.iload_n 1, 1) := by decide +kernel
theorem dX7_write_35 : decode cX7_write 35 = .ok (.iload_n 2, 1) := by decide +kernel
theorem dX7_write_36 : decode cX7_write 36 = .ok (.invokevirtual 210, 3) := by decide +kernel
theorem dX7_write_39 : decode cX7_write 39 = .ok (.istore 4, 2) := by decide +kernel
theorem dX7_write_41 : decode cX7_write 41 = .ok (.aload_n 0, 1) := by decide +kernel
theorem dX7_write_42 : decode cX7_write 42 = .ok (.getfield 31, 3) := by decide +kernel
theorem dX7_write_45 : decode cX7_write 45 = .ok (.iload_n 3, 1) := by decide +kernel
theorem dX7_write_46 : decode cX7_write 46 = .ok (.iaload, 1) := by decide +kernel
theorem dX7_write_47 : decode cX7_write 47 = .ok (.iload 4, 2) := by decide +kernel
theorem dX7_write_49 : decode cX7_write 49 = .ok (.if_icmp .ge 6, 3) := by decide +kernel
theorem dX7_write_52 : decode cX7_write 52 = .ok (.ldc 201, 2) := by decide +kernel
theorem dX7_write_54 : decode cX7_write 54 = .ok (.ireturn, 1) := by decide +kernel
theorem dX7_write_55 : decode cX7_write 55 = .ok (.aload_n 0, 1) := by decide +kernel
theorem dX7_write_56 : decode cX7_write 56 = .ok (.invokevirtual 223, 3) := by decide +kernel
theorem dX7_write_59 : decode cX7_write 59 = .ok (.aload_n 0, 1) := by decide +kernel
theorem dX7_write_60 : decode cX7_write 60 = .ok (.aload_n 0, 1) := by decide +kernel
theorem dX7_write_61 : decode cX7_write 61 = .ok (.getfield 31, 3) := by decide +kernel
theorem dX7_write_64 : decode cX7_write 64 = .ok (.iload_n 1, 1) := by decide +kernel
theorem dX7_write_65 : decode cX7_write 65 = .ok (.iload_n 2, 1) := by decide +kernel
theorem dX7_write_66 : decode cX7_write 66 = .ok (.iload_n 3, 1) := by decide +kernel
theorem dX7_write_67 : decode cX7_write 67 = .ok (.invokevirtual 226, 3) := by decide +kernel
theorem dX7_write_70 : decode cX7_write 70 = .ok (.pop, 1) := by decide +kernel
theorem dX7_write_71 : decode cX7_write 71 = .ok (.iload 4, 2) := by decide +kernel
theorem dX7_write_73 : decode cX7_write 73 = .ok (.ireturn, 1) := by decide +kernel
theorem dX7_rub_0 : decode cX7_rub 0 = .ok (.iload_n 1, 1) := by decide +kernel
theorem dX7_rub_1 : decode cX7_rub 1 = .ok (.iconst 1, 1) := by decide +kernel
theorem dX7_rub_2 : decode cX7_rub 2 = .ok (.bipush 60, 2) := by decide +kernel
theorem dX7_rub_4 : decode cX7_rub 4 = .ok (.invokestatic 85, 3) := by decide +kernel
theorem dX7_rub_7 : decode cX7_rub 7 = .ok (.ifCond .eq 11, 3) := by decide +kernel
theorem dX7_rub_10 : decode cX7_rub 10 = .ok (.aload_n 0, 1) := by decide +kernel
theorem dX7_rub_11 : decode cX7_rub 11 = .ok (.iload_n 2, 1) := by decide +kernel
theorem dX7_rub_12 : decode cX7_rub 12 = .ok (.invokevirtual 220, 3) := by decide +kernel
theorem dX7_rub_15 : decode cX7_rub 15 = .ok (.ifCond .ne 6, 3) := by decide +kernel
theorem dX7_rub_18 : decode cX7_rub 18 = .ok (.ldc 93, 2) := by decide +kernel
theorem dX7_rub_20 : decode cX7_rub 20 = .ok (.ireturn, 1) := by decide +kernel
theorem dX7_rub_21 : decode cX7_rub 21 = .ok (.aload_n 0, 1) := by decide +kernel
theorem dX7_rub_22 : decode cX7_rub 22 = .ok (.getfield 31, 3) := by decide +kernel
theorem dX7_rub_25 : decode cX7_rub 25 = .ok (.bipush 12, 2) := by decide +kernel
theorem dX7_rub_27 : decode cX7_rub 27 = .ok (.iaload, 1) := by decide +kernel
theorem dX7_rub_28 : decode cX7_rub 28 = .ok (.iload_n 1, 1) := by decide +kernel
theorem dX7_rub_29 : decode cX7_rub 29 = .ok (.if_icmp .ge 6, 3) := by decide +kernel
theorem dX7_rub_32 : decode cX7_rub 32 = .ok (.ldc 201, 2) := by decide +kernel
theorem dX7_rub_34 : decode cX7_rub 34 = .ok (.ireturn, 1) := by decide +kernel
theorem dX7_rub_35 : decode cX7_rub 35 = .ok (.aload_n 0, 1) := by decide +kernel
theorem dX7_rub_36 : decode cX7_rub 36 = .ok (.invokevirtual 223, 3) := by decide +kernel
theorem dX7_rub_39 : decode cX7_rub 39 = .ok (.aload_n 0, 1) := by decide +kernel
theorem dX7_rub_40 : decode cX7_rub 40 = .ok (.getfield 31, 3) := by decide +kernel
theorem dX7_rub_43 : decode cX7_rub 43 = .ok (.bipush 12, 2) := by decide +kernel
theorem dX7_rub_45 : decode cX7_rub 45 = .ok (.dup2, 1) := by decide +kernel
theorem dX7_rub_46 : decode cX7_rub 46 = .ok (.iaload, 1) := by decide +kernel
theorem dX7_rub_47 : decode cX7_rub 47 = .ok (.iload_n 1, 1) := by decide +kernel
theorem dX7_rub_48 : decode cX7_rub 48 = .ok (.isub, 1) := by decide +kernel
theorem dX7_rub_49 : decode cX7_rub 49 = .ok (.iastore, 1) := by decide +kernel
theorem dX7_rub_50 : decode cX7_rub 50 = .ok (.aload_n 0, 1) := by decide +kernel
theorem dX7_rub_51 : decode cX7_rub 51 = .ok (.getfield 31, 3) := by decide +kernel
theorem dX7_rub_54 : decode cX7_rub 54 = .ok (.iload_n 2, 1) := by decide +kernel
theorem dX7_rub_55 : decode cX7_rub 55 = .ok (.bipush 30, 2) := by decide +kernel
theorem dX7_rub_57 : decode cX7_rub 57 = .ok (.aload_n 0, 1) := by decide +kernel
theorem dX7_rub_58 : decode cX7_rub 58 = .ok (.getfield 31, 3) := by decide +kernel
theorem dX7_rub_61 : decode cX7_rub 61 = .ok (.iload_n 2, 1) := by decide +kernel
theorem dX7_rub_62 : decode cX7_rub 62 = .ok (.iaload, 1) := by decide +kernel
theorem dX7_rub_63 : decode cX7_rub 63 = .ok (.iload_n 1, 1) := by decide +kernel
theorem dX7_rub_64 : decode cX7_rub 64 = .ok (.aload_n 0, 1) := by decide +kernel
theorem dX7_rub_65 : decode cX7_rub 65 = .ok (.getfield 189, 3) := by decide +kernel
theorem dX7_rub_68 : decode cX7_rub 68 = .ok (.imul, 1) := by decide +kernel
theorem dX7_rub_69 : decode cX7_rub 69 = .ok (.bipush 10, 2) := by decide +kernel
theorem dX7_rub_71 : decode cX7_rub 71 = .ok (.idiv, 1) := by decide +kernel
theorem dX7_rub_72 : decode cX7_rub 72 = .ok (.iadd, 1) := by decide +kernel
theorem dX7_rub_73 : decode cX7_rub 73 = .ok (.invokestatic 198, 3) := by decide +kernel
theorem dX7_rub_76 : decode cX7_rub 76 = .ok (.iastore, 1) := by decide +kernel
theorem dX7_rub_77 : decode cX7_rub 77 = .ok (.aload_n 0, 1) := by decide +kernel
theorem dX7_rub_78 : decode cX7_rub 78 = .ok (.getfield 31, 3) := by decide +kernel
theorem dX7_rub_81 : decode cX7_rub 81 = .ok (.iload_n 2, 1) := by decide +kernel
theorem dX7_rub_82 : decode cX7_rub 82 = .ok (.iaload, 1) := by decide +kernel
theorem dX7_rub_83 : decode cX7_rub 83 = .ok (.ireturn, 1) := by decide +kernel
theorem dX7_rain_0 : decode cX7_rain 0 = .ok (.aload_n 0, 1) := by decide +kernel
theorem dX7_rain_1 : decode cX7_rain 1 = .ok (.getfield 177, 3) := by decide +kernel
theorem dX7_rain_4 : decode cX7_rain 4 = .ok (.ifCond .ne 6, 3) := by decide +kernel
theorem dX7_rain_7 : decode cX7_rain 7 = .ok (.ldc 201, 2) := by decide +kernel
theorem dX7_rain_9 : decode cX7_rain 9 = .ok (.ireturn, 1) := by decide +kernel
theorem dX7_rain_10 : decode cX7_rain 10 = .ok (.aload_n 0, 1) := by decide +kernel
theorem dX7_rain_11 : decode cX7_rain 11 = .ok (.invokevirtual 223, 3) := by decide +kernel
theorem dX7_rain_14 : decode cX7_rain 14 = .ok (.aload_n 0, 1) := by decide +kernel
theorem dX7_rain_15 : decode cX7_rain 15 = .ok (.aload_n 0, 1) := by decide +kernel
theorem dX7_rain_16 : decode cX7_rain 16 = .ok (.getfield 31, 3) := by decide +kernel
theorem dX7_rain_19 : decode cX7_rain 19 = .ok (.invokevirtual 230, 3) := by decide +kernel
theorem dX7_rain_22 : decode cX7_rain 22 = .ok (.aload_n 0, 1) := by decide +kernel
theorem dX7_rain_23 : decode cX7_rain 23 = .ok (.aload_n 0, 1) := by decide +kernel
theorem dX7_rain_24 : decode cX7_rain 24 = .ok (.getfield 31, 3) := by decide +kernel
theorem dX7_rain_27 : decode cX7_rain 27 = .ok (.invokevirtual 202, 3) := by decide +kernel
theorem dX7_rain_30 : decode cX7_rain 30 = .ok (.ireturn, 1) := by decide +kernel
theorem dX7_days_0 : decode cX7_days 0 = .ok (.aload_n 0, 1) := by decide +kernel
theorem dX7_days_1 : decode cX7_days 1 = .ok (.getfield 177, 3) := by decide +kernel
theorem dX7_days_4 : decode cX7_days 4 = .ok (.ifCond .ne 6, 3) := by decide +kernel
theorem dX7_days_7 : decode cX7_days 7 = .ok (.ldc 201, 2) := by decide +kernel
theorem dX7_days_9 : decode cX7_days 9 = .ok (.ireturn, 1) := by decide +kernel
theorem dX7_days_10 : decode cX7_days 10 = .ok (.iload_n 1, 1) := by decide +kernel
theorem dX7_days_11 : decode cX7_days 11 = .ok (.iconst 1, 1) := by decide +kernel
theorem dX7_days_12 : decode cX7_days 12 = .ok (.bipush 24, 2) := by decide +kernel
theorem dX7_days_14 : decode cX7_days 14 = .ok (.invokestatic 85, 3) := by decide +kernel
theorem dX7_days_17 : decode cX7_days 17 = .ok (.ifCond .ne 6, 3) := by decide +kernel
theorem dX7_days_20 : decode cX7_days 20 = .ok (.ldc 93, 2) := by decide +kernel
theorem dX7_days_22 : decode cX7_days 22 = .ok (.ireturn, 1) := by decide +kernel
theorem dX7_days_23 : decode cX7_days 23 = .ok (.aload_n 0, 1) := by decide +kernel
theorem dX7_days_24 : decode cX7_days 24 = .ok (.getfield 31, 3) := by decide +kernel
theorem dX7_days_27 : decode cX7_days 27 = .ok (.bipush 13, 2) := by decide +kernel
theorem dX7_days_29 : decode cX7_days 29 = .ok (.iaload, 1) := by decide +kernel
theorem dX7_days_30 : decode cX7_days 30 = .ok (.iload_n 1, 1) := by decide +kernel
theorem dX7_days_31 : decode cX7_days 31 = .ok (.iadd, 1) := by decide +kernel
theorem dX7_days_32 : decode cX7_days 32 = .ok (.sipush 999, 3) := by decide +kernel
theorem dX7_days_35 : decode cX7_days 35 = .ok (.if_icmp .le 6, 3) := by decide +kernel
theorem dX7_days_38 : decode cX7_days 38 = .ok (.ldc 111, 2) := by decide +kernel
theorem dX7_days_40 : decode cX7_days 40 = .ok (.ireturn, 1) := by decide +kernel
theorem dX7_days_41 : decode cX7_days 41 = .ok (.iconst 0, 1) := by decide +kernel
theorem dX7_days_42 : decode cX7_days 42 = .ok (.istore_n 2, 1) := by decide +kernel
theorem dX7_days_43 : decode cX7_days 43 = .ok (.iload_n 2, 1) := by decide +kernel
theorem dX7_days_44 : decode cX7_days 44 = .ok (.iload_n 1, 1) := by decide +kernel
theorem dX7_days_45 : decode cX7_days 45 = .ok (.if_icmp .ge 24, 3) := by decide +kernel
theorem dX7_days_48 : decode cX7_days 48 = .ok (.aload_n 0, 1) := by decide +kernel
theorem dX7_days_49 : decode cX7_days 49 = .ok (.invokevirtual 223, 3) := by decide +kernel
theorem dX7_days_52 : decode cX7_days 52 = .ok (.aload_n 0, 1) := by decide +kernel
theorem dX7_days_53 : decode cX7_days 53 = .ok (.getfield 31, 3) := by decide +kernel
theorem dX7_days_56 : decode cX7_days 56 = .ok (.bipush 13, 2) := by decide +kernel
theorem dX7_days_58 : decode cX7_days 58 = .ok (.dup2, 1) := by decide +kernel
theorem dX7_days_59 : decode cX7_days 59 = .ok (.iaload, 1) := by decide +kernel
theorem dX7_days_60 : decode cX7_days 60 = .ok (.iconst 1, 1) := by decide +kernel
theorem dX7_days_61 : decode cX7_days 61 = .ok (.iadd, 1) := by decide +kernel
theorem dX7_days_62 : decode cX7_days 62 = .ok (.iastore, 1) := by decide +kernel
theorem dX7_days_63 : decode cX7_days 63 = .ok (.iinc 2 1, 3) := by decide +kernel
theorem dX7_days_66 : decode cX7_days 66 = .ok (.goto (-23), 3) := by decide +kernel
theorem dX7_days_69 : decode cX7_days 69 = .ok (.aload_n 0, 1) := by decide +kernel
theorem dX7_days_70 : decode cX7_days 70 = .ok (.getfield 31, 3) := by decide +kernel
theorem dX7_days_73 : decode cX7_days 73 = .ok (.bipush 13, 2) := by decide +kernel
theorem dX7_days_75 : decode cX7_days 75 = .ok (.iaload, 1) := by decide +kernel
theorem dX7_days_76 : decode cX7_days 76 = .ok (.ireturn, 1) := by decide +kernel
theorem dX7_block_0 : decode cX7_block 0 = .ok (.aload_n 0, 1) := by decide +kernel
theorem dX7_block_1 : decode cX7_block 1 = .ok (.iload_n 1, 1) := by decide +kernel
theorem dX7_block_2 : decode cX7_block 2 = .ok (.invokevirtual 220, 3) := by decide +kernel
theorem dX7_block_5 : decode cX7_block 5 = .ok (.ifCond .eq 12, 3) := by decide +kernel
theorem dX7_block_8 : decode cX7_block 8 = .ok (.iload_n 2, 1) := by decide +kernel
theorem dX7_block_9 : decode cX7_block 9 = .ok (.iconst 0, 1) := by decide +kernel
theorem dX7_block_10 : decode cX7_block 10 = .ok (.iconst 3, 1) := by decide +kernel
theorem dX7_block_11 : decode cX7_block 11 = .ok (.invokestatic 85, 3) := by decide +kernel
theorem dX7_block_14 : decode cX7_block 14 = .ok (.ifCond .ne 6, 3) := by decide +kernel
theorem dX7_block_17 : decode cX7_block 17 = .ok (.ldc 93, 2) := by decide +kernel
theorem dX7_block_19 : decode cX7_block 19 = .ok (.ireturn, 1) := by decide +kernel
theorem dX7_block_20 : decode cX7_block 20 = .ok (.iload_n 2, 1) := by decide +kernel
theorem dX7_block_21 : decode cX7_block 21 = .ok (.tableswitch 54 0 2 #[27, 34, 47], 27) := by decide +kernel
theorem dX7_block_48 : decode cX7_block 48 = .ok (.aload_n 0, 1) := by decide +kernel
theorem dX7_block_49 : decode cX7_block 49 = .ok (.getfield 31, 3) := by decide +kernel
theorem dX7_block_52 : decode cX7_block 52 = .ok (.iload_n 1, 1) := by decide +kernel
theorem dX7_block_53 : decode cX7_block 53 = .ok (.iaload, 1) := by decide +kernel
theorem dX7_block_54 : decode cX7_block 54 = .ok (.ireturn, 1) := by decide +kernel
theorem dX7_block_55 : decode cX7_block 55 = .ok (.aload_n 0, 1) := by decide +kernel
theorem dX7_block_56 : decode cX7_block 56 = .ok (.aload_n 0, 1) := by decide +kernel
theorem dX7_block_57 : decode cX7_block 57 = .ok (.getfield 31, 3) := by decide +kernel
theorem dX7_block_60 : decode cX7_block 60 = .ok (.invokevirtual 202, 3) := by decide +kernel
theorem dX7_block_63 : decode cX7_block 63 = .ok (.iload_n 1, 1) := by decide +kernel
theorem dX7_block_64 : decode cX7_block 64 = .ok (.ishr, 1) := by decide +kernel
theorem dX7_block_65 : decode cX7_block 65 = .ok (.iconst 1, 1) := by decide +kernel
theorem dX7_block_66 : decode cX7_block 66 = .ok (.iand, 1) := by decide +kernel
theorem dX7_block_67 : decode cX7_block 67 = .ok (.ireturn, 1) := by decide +kernel
theorem dX7_block_68 : decode cX7_block 68 = .ok (.aload_n 0, 1) := by decide +kernel
theorem dX7_block_69 : decode cX7_block 69 = .ok (.getfield 22, 3) := by decide +kernel
theorem dX7_block_72 : decode cX7_block 72 = .ok (.iload_n 1, 1) := by decide +kernel
theorem dX7_block_73 : decode cX7_block 73 = .ok (.iaload, 1) := by decide +kernel
theorem dX7_block_74 : decode cX7_block 74 = .ok (.ireturn, 1) := by decide +kernel
theorem dX7_block_75 : decode cX7_block 75 = .ok (.aload_n 0, 1) := by decide +kernel
theorem dX7_block_76 : decode cX7_block 76 = .ok (.iload_n 1, 1) := by decide +kernel
theorem dX7_block_77 : decode cX7_block 77 = .ok (.invokevirtual 214, 3) := by decide +kernel
theorem dX7_block_80 : decode cX7_block 80 = .ok (.ireturn, 1) := by decide +kernel
theorem dX7_clerk_0 : decode cX7_clerk 0 = .ok (.aload_n 0, 1) := by decide +kernel
theorem dX7_clerk_1 : decode cX7_clerk 1 = .ok (.iload_n 1, 1) := by decide +kernel
theorem dX7_clerk_2 : decode cX7_clerk 2 = .ok (.invokevirtual 217, 3) := by decide +kernel
theorem dX7_clerk_5 : decode cX7_clerk 5 = .ok (.ifCond .eq 12, 3) := by decide +kernel
theorem dX7_clerk_8 : decode cX7_clerk 8 = .ok (.iload_n 2, 1) := by decide +kernel
theorem dX7_clerk_9 : decode cX7_clerk 9 = .ok (.iconst 0, 1) := by decide +kernel
theorem dX7_clerk_10 : decode cX7_clerk 10 = .ok (.iconst 1, 1) := by decide +kernel
theorem dX7_clerk_11 : decode cX7_clerk 11 = .ok (.invokestatic 85, 3) := by decide +kernel
theorem dX7_clerk_14 : decode cX7_clerk 14 = .ok (.ifCond .ne 8, 3) := by decide +kernel
theorem dX7_clerk_17 : decode cX7_clerk 17 = .ok (.ldc 93, 2) := by decide +kernel
theorem dX7_clerk_19 : decode cX7_clerk 19 = .ok (.goto 25, 3) := by decide +kernel
theorem dX7_clerk_22 : decode cX7_clerk 22 = .ok (.iload_n 2, 1) := by decide +kernel
theorem dX7_clerk_23 : decode cX7_clerk 23 = .ok (.ifCond .ne 12, 3) := by decide +kernel
theorem dX7_clerk_26 : decode cX7_clerk 26 = .ok (.aload_n 0, 1) := by decide +kernel
theorem dX7_clerk_27 : decode cX7_clerk 27 = .ok (.getfield 25, 3) := by decide +kernel
theorem dX7_clerk_30 : decode cX7_clerk 30 = .ok (.iload_n 1, 1) := by decide +kernel
theorem dX7_clerk_31 : decode cX7_clerk 31 = .ok (.iaload, 1) := by decide +kernel
theorem dX7_clerk_32 : decode cX7_clerk 32 = .ok (.goto 12, 3) := by decide +kernel
theorem dX7_clerk_35 : decode cX7_clerk 35 = .ok (.aload_n 0, 1) := by decide +kernel
theorem dX7_clerk_36 : decode cX7_clerk 36 = .ok (.getfield 31, 3) := by decide +kernel
theorem dX7_clerk_39 : decode cX7_clerk 39 = .ok (.bipush 8, 2) := by decide +kernel
theorem dX7_clerk_41 : decode cX7_clerk 41 = .ok (.iload_n 1, 1) := by decide +kernel
theorem dX7_clerk_42 : decode cX7_clerk 42 = .ok (.iadd, 1) := by decide +kernel
theorem dX7_clerk_43 : decode cX7_clerk 43 = .ok (.iaload, 1) := by decide +kernel
theorem dX7_clerk_44 : decode cX7_clerk 44 = .ok (.ireturn, 1) := by decide +kernel
theorem dX7_takes_0 : decode cX7_takes 0 = .ok (.aload_n 0, 1) := by decide +kernel
theorem dX7_takes_1 : decode cX7_takes 1 = .ok (.iload_n 1, 1) := by decide +kernel
theorem dX7_takes_2 : decode cX7_takes 2 = .ok (.invokevirtual 217, 3) := by decide +kernel
theorem dX7_takes_5 : decode cX7_takes 5 = .ok (.ifCond .eq 26, 3) := by decide +kernel
theorem dX7_takes_8 : decode cX7_takes 8 = .ok (.iload_n 2, 1) := by decide +kernel
theorem dX7_takes_9 : decode cX7_takes 9 = .ok (.iconst 1, 1) := by decide +kernel
theorem dX7_takes_10 : decode cX7_takes 10 = .ok (.bipush 30, 2) := by decide +kernel
theorem dX7_takes_12 : decode cX7_takes 12 = .ok (.invokestatic 85, 3) := by decide +kernel
theorem dX7_takes_15 : decode cX7_takes 15 = .ok (.ifCond .eq 16, 3) := by decide +kernel
theorem dX7_takes_18 : decode cX7_takes 18 = .ok (.aload_n 0, 1) := by decide +kernel
theorem dX7_takes_19 : decode cX7_takes 19 = .ok (.aload_n 0, 1) := by decide +kernel
theorem dX7_takes_20 : decode cX7_takes 20 = .ok (.getfield 31, 3) := by decide +kernel
theorem dX7_takes_23 : decode cX7_takes 23 = .ok (.iload_n 1, 1) := by decide +kernel
theorem dX7_takes_24 : decode cX7_takes 24 = .ok (.iload_n 2, 1) := by decide +kernel
theorem dX7_takes_25 : decode cX7_takes 25 = .ok (.invokevirtual 210, 3) := by decide +kernel
theorem dX7_takes_28 : decode cX7_takes 28 = .ok (.goto 5, 3) := by decide +kernel
theorem dX7_takes_31 : decode cX7_takes 31 = .ok (.ldc 93, 2) := by decide +kernel
theorem dX7_takes_33 : decode cX7_takes 33 = .ok (.ireturn, 1) := by decide +kernel
theorem dX7_allLines_0 : decode cX7_allLines 0 = .ok (.iconst 0, 1) := by decide +kernel
theorem dX7_allLines_1 : decode cX7_allLines 1 = .ok (.istore_n 1, 1) := by decide +kernel
theorem dX7_allLines_2 : decode cX7_allLines 2 = .ok (.iconst 0, 1) := by decide +kernel
theorem dX7_allLines_3 : decode cX7_allLines 3 = .ok (.istore_n 2, 1) := by decide +kernel
theorem dX7_allLines_4 : decode cX7_allLines 4 = .ok (.iload_n 2, 1) := by decide +kernel
theorem dX7_allLines_5 : decode cX7_allLines 5 = .ok (.aload_n 0, 1) := by decide +kernel
theorem dX7_allLines_6 : decode cX7_allLines 6 = .ok (.getfield 183, 3) := by decide +kernel
theorem dX7_allLines_9 : decode cX7_allLines 9 = .ok (.if_icmp .ge 21, 3) := by decide +kernel
theorem dX7_allLines_12 : decode cX7_allLines 12 = .ok (.iload_n 1, 1) := by decide +kernel
theorem dX7_allLines_13 : decode cX7_allLines 13 = .ok (.aload_n 0, 1) := by decide +kernel
theorem dX7_allLines_14 : decode cX7_allLines 14 = .ok (.getfield 31, 3) := by decide +kernel
theorem dX7_allLines_17 : decode cX7_allLines 17 = .ok (.bipush 8, 2) := by decide +kernel
theorem dX7_allLines_19 : decode cX7_allLines 19 = .ok (.iload_n 2, 1) := by decide +kernel
theorem dX7_allLines_20 : decode cX7_allLines 20 = .ok (.iadd, 1) := by decide +kernel
theorem dX7_allLines_21 : decode cX7_allLines 21 = .ok (.iaload, 1) := by decide +kernel
theorem dX7_allLines_22 : decode cX7_allLines 22 = .ok (.iadd, 1) := by decide +kernel
theorem dX7_allLines_23 : decode cX7_allLines 23 = .ok (.istore_n 1, 1) := by decide +kernel
theorem dX7_allLines_24 : decode cX7_allLines 24 = .ok (.iinc 2 1, 3) := by decide +kernel
theorem dX7_allLines_27 : decode cX7_allLines 27 = .ok (.goto (-23), 3) := by decide +kernel
theorem dX7_allLines_30 : decode cX7_allLines 30 = .ok (.iload_n 1, 1) := by decide +kernel
theorem dX7_allLines_31 : decode cX7_allLines 31 = .ok (.ireturn, 1) := by decide +kernel
theorem dX7_allChalk_0 : decode cX7_allChalk 0 = .ok (.iconst 0, 1) := by decide +kernel
theorem dX7_allChalk_1 : decode cX7_allChalk 1 = .ok (.istore_n 1, 1) := by decide +kernel
theorem dX7_allChalk_2 : decode cX7_allChalk 2 = .ok (.iconst 0, 1) := by decide +kernel
theorem dX7_allChalk_3 : decode cX7_allChalk 3 = .ok (.istore_n 2, 1) := by decide +kernel
theorem dX7_allChalk_4 : decode cX7_allChalk 4 = .ok (.iload_n 2, 1) := by decide +kernel
theorem dX7_allChalk_5 : decode cX7_allChalk 5 = .ok (.aload_n 0, 1) := by decide +kernel
theorem dX7_allChalk_6 : decode cX7_allChalk 6 = .ok (.getfield 177, 3) := by decide +kernel
theorem dX7_allChalk_9 : decode cX7_allChalk 9 = .ok (.if_icmp .ge 18, 3) := by decide +kernel
theorem dX7_allChalk_12 : decode cX7_allChalk 12 = .ok (.iload_n 1, 1) := by decide +kernel
theorem dX7_allChalk_13 : decode cX7_allChalk 13 = .ok (.aload_n 0, 1) := by decide +kernel
theorem dX7_allChalk_14 : decode cX7_allChalk 14 = .ok (.getfield 31, 3) := by decide +kernel
theorem dX7_allChalk_17 : decode cX7_allChalk 17 = .ok (.iload_n 2, 1) := by decide +kernel
theorem dX7_allChalk_18 : decode cX7_allChalk 18 = .ok (.iaload, 1) := by decide +kernel
theorem dX7_allChalk_19 : decode cX7_allChalk 19 = .ok (.iadd, 1) := by decide +kernel
theorem dX7_allChalk_20 : decode cX7_allChalk 20 = .ok (.istore_n 1, 1) := by decide +kernel
theorem dX7_allChalk_21 : decode cX7_allChalk 21 = .ok (.iinc 2 1, 3) := by decide +kernel
theorem dX7_allChalk_24 : decode cX7_allChalk 24 = .ok (.goto (-20), 3) := by decide +kernel
theorem dX7_allChalk_27 : decode cX7_allChalk 27 = .ok (.iload_n 1, 1) := by decide +kernel
theorem dX7_allChalk_28 : decode cX7_allChalk 28 = .ok (.ireturn, 1) := by decide +kernel
theorem dX7_stand_0 : decode cX7_stand 0 = .ok (.aload_n 0, 1) := by decide +kernel
theorem dX7_stand_1 : decode cX7_stand 1 = .ok (.getfield 177, 3) := by decide +kernel
theorem dX7_stand_4 : decode cX7_stand 4 = .ok (.ifCond .ne 6, 3) := by decide +kernel
theorem dX7_stand_7 : decode cX7_stand 7 = .ok (.ldc 201, 2) := by decide +kernel
theorem dX7_stand_9 : decode cX7_stand 9 = .ok (.ireturn, 1) := by decide +kernel
theorem dX7_stand_10 : decode cX7_stand 10 = .ok (.iload_n 1, 1) := by decide +kernel
theorem dX7_stand_11 : decode cX7_stand 11 = .ok (.tableswitch 69 0 4 #[33, 42, 51, 56, 64], 33) := by decide +kernel
theorem dX7_stand_44 : decode cX7_stand 44 = .ok (.aload_n 0, 1) := by decide +kernel
theorem dX7_stand_45 : decode cX7_stand 45 = .ok (.aload_n 0, 1) := by decide +kernel
theorem dX7_stand_46 : decode cX7_stand 46 = .ok (.getfield 31, 3) := by decide +kernel
theorem dX7_stand_49 : decode cX7_stand 49 = .ok (.invokevirtual 202, 3) := by decide +kernel
theorem dX7_stand_52 : decode cX7_stand 52 = .ok (.ireturn, 1) := by decide +kernel
theorem dX7_stand_53 : decode cX7_stand 53 = .ok (.aload_n 0, 1) := by decide +kernel
theorem dX7_stand_54 : decode cX7_stand 54 = .ok (.aload_n 0, 1) := by decide +kernel
theorem dX7_stand_55 : decode cX7_stand 55 = .ok (.getfield 31, 3) := by decide +kernel
theorem dX7_stand_58 : decode cX7_stand 58 = .ok (.invokevirtual 234, 3) := by decide +kernel
theorem dX7_stand_61 : decode cX7_stand 61 = .ok (.ireturn, 1) := by decide +kernel
theorem dX7_stand_62 : decode cX7_stand 62 = .ok (.aload_n 0, 1) := by decide +kernel
theorem dX7_stand_63 : decode cX7_stand 63 = .ok (.invokevirtual 237, 3) := by decide +kernel
theorem dX7_stand_66 : decode cX7_stand 66 = .ok (.ireturn, 1) := by decide +kernel
theorem dX7_stand_67 : decode cX7_stand 67 = .ok (.aload_n 0, 1) := by decide +kernel
theorem dX7_stand_68 : decode cX7_stand 68 = .ok (.getfield 31, 3) := by decide +kernel
theorem dX7_stand_71 : decode cX7_stand 71 = .ok (.bipush 12, 2) := by decide +kernel
theorem dX7_stand_73 : decode cX7_stand 73 = .ok (.iaload, 1) := by decide +kernel
theorem dX7_stand_74 : decode cX7_stand 74 = .ok (.ireturn, 1) := by decide +kernel
theorem dX7_stand_75 : decode cX7_stand 75 = .ok (.aload_n 0, 1) := by decide +kernel
theorem dX7_stand_76 : decode cX7_stand 76 = .ok (.invokevirtual 240, 3) := by decide +kernel
theorem dX7_stand_79 : decode cX7_stand 79 = .ok (.ireturn, 1) := by decide +kernel
theorem dX7_stand_80 : decode cX7_stand 80 = .ok (.ldc 93, 2) := by decide +kernel
theorem dX7_stand_82 : decode cX7_stand 82 = .ok (.ireturn, 1) := by decide +kernel
theorem dX7_copyNow_0 : decode cX7_copyNow 0 = .ok (.iconst 0, 1) := by decide +kernel
theorem dX7_copyNow_1 : decode cX7_copyNow 1 = .ok (.istore_n 1, 1) := by decide +kernel
theorem dX7_copyNow_2 : decode cX7_copyNow 2 = .ok (.iload_n 1, 1) := by decide +kernel
theorem dX7_copyNow_3 : decode cX7_copyNow 3 = .ok (.bipush 14, 2) := by decide +kernel
theorem dX7_copyNow_5 : decode cX7_copyNow 5 = .ok (.if_icmp .ge 21, 3) := by decide +kernel
theorem dX7_copyNow_8 : decode cX7_copyNow 8 = .ok (.aload_n 0, 1) := by decide +kernel
theorem dX7_copyNow_9 : decode cX7_copyNow 9 = .ok (.getfield 34, 3) := by decide +kernel
theorem dX7_copyNow_12 : decode cX7_copyNow 12 = .ok (.iload_n 1, 1) := by decide +kernel
theorem dX7_copyNow_13 : decode cX7_copyNow 13 = .ok (.aload_n 0, 1) := by decide +kernel
theorem dX7_copyNow_14 : decode cX7_copyNow 14 = .ok (.getfield 31, 3) := by decide +kernel
theorem dX7_copyNow_17 : decode cX7_copyNow 17 = .ok (.iload_n 1, 1) := by decide +kernel
theorem dX7_copyNow_18 : decode cX7_copyNow 18 = .ok (.iaload, 1) := by decide +kernel
theorem dX7_copyNow_19 : decode cX7_copyNow 19 = .ok (.iastore, 1) := by decide +kernel
theorem dX7_copyNow_20 : decode cX7_copyNow 20 = .ok (.iinc 1 1, 3) := by decide +kernel
theorem dX7_copyNow_23 : decode cX7_copyNow 23 = .ok (.goto (-21), 3) := by decide +kernel
theorem dX7_copyNow_26 : decode cX7_copyNow 26 = .ok (.return_, 1) := by decide +kernel
theorem dX7_standingWithout_0 : decode cX7_standingWithout 0 = .ok (.aload_n 0, 1) := by decide +kernel
theorem dX7_standingWithout_1 : decode cX7_standingWithout 1 = .ok (.invokevirtual 243, 3) := by decide +kernel
theorem dX7_standingWithout_4 : decode cX7_standingWithout 4 = .ok (.iconst 0, 1) := by decide +kernel
theorem dX7_standingWithout_5 : decode cX7_standingWithout 5 = .ok (.istore_n 2, 1) := by decide +kernel
theorem dX7_standingWithout_6 : decode cX7_standingWithout 6 = .ok (.iload_n 2, 1) := by decide +kernel
theorem dX7_standingWithout_7 : decode cX7_standingWithout 7 = .ok (.aload_n 0, 1) := by decide +kernel
theorem dX7_standingWithout_8 : decode cX7_standingWithout 8 = .ok (.getfield 177, 3) := by decide +kernel
theorem dX7_standingWithout_11 : decode cX7_standingWithout 11 = .ok (.if_icmp .ge 33, 3) := by decide +kernel
theorem dX7_standingWithout_14 : decode cX7_standingWithout 14 = .ok (.aload_n 0, 1) := by decide +kernel
theorem dX7_standingWithout_15 : decode cX7_standingWithout 15 = .ok (.getfield 34, 3) := by decide +kernel
theorem dX7_standingWithout_18 : decode cX7_standingWithout 18 = .ok (.iload_n 2, 1) := by decide +kernel
theorem dX7_standingWithout_19 : decode cX7_standingWithout 19 = .ok (.iload_n 1, 1) := by decide +kernel
theorem dX7_standingWithout_20 : decode cX7_standingWithout 20 = .ok (.iload_n 2, 1) := by decide +kernel
theorem dX7_standingWithout_21 : decode cX7_standingWithout 21 = .ok (.invokestatic 146, 3) := by decide +kernel
theorem dX7_standingWithout_24 : decode cX7_standingWithout 24 = .ok (.ifCond .eq 7, 3) := by decide +kernel
theorem dX7_standingWithout_27 : decode cX7_standingWithout 27 = .ok (.iconst 0, 1) := by decide +kernel
theorem dX7_standingWithout_28 : decode cX7_standingWithout 28 = .ok (.goto 9, 3) := by decide +kernel
theorem dX7_standingWithout_31 : decode cX7_standingWithout 31 = .ok (.aload_n 0, 1) := by decide +kernel
theorem dX7_standingWithout_32 : decode cX7_standingWithout 32 = .ok (.getfield 34, 3) := by decide +kernel
theorem dX7_standingWithout_35 : decode cX7_standingWithout 35 = .ok (.iload_n 2, 1) := by decide +kernel
theorem dX7_standingWithout_36 : decode cX7_standingWithout 36 = .ok (.iaload, 1) := by decide +kernel
theorem dX7_standingWithout_37 : decode cX7_standingWithout 37 = .ok (.iastore, 1) := by decide +kernel
theorem dX7_standingWithout_38 : decode cX7_standingWithout 38 = .ok (.iinc 2 1, 3) := by decide +kernel
theorem dX7_standingWithout_41 : decode cX7_standingWithout 41 = .ok (.goto (-35), 3) := by decide +kernel
theorem dX7_standingWithout_44 : decode cX7_standingWithout 44 = .ok (.aload_n 0, 1) := by decide +kernel
theorem dX7_standingWithout_45 : decode cX7_standingWithout 45 = .ok (.aload_n 0, 1) := by decide +kernel
theorem dX7_standingWithout_46 : decode cX7_standingWithout 46 = .ok (.getfield 34, 3) := by decide +kernel
theorem dX7_standingWithout_49 : decode cX7_standingWithout 49 = .ok (.invokevirtual 202, 3) := by decide +kernel
theorem dX7_standingWithout_52 : decode cX7_standingWithout 52 = .ok (.ireturn, 1) := by decide +kernel
theorem dX7_wouldFall_0 : decode cX7_wouldFall 0 = .ok (.aload_n 0, 1) := by decide +kernel
theorem dX7_wouldFall_1 : decode cX7_wouldFall 1 = .ok (.getfield 177, 3) := by decide +kernel
theorem dX7_wouldFall_4 : decode cX7_wouldFall 4 = .ok (.ifCond .ne 8, 3) := by decide +kernel
theorem dX7_wouldFall_7 : decode cX7_wouldFall 7 = .ok (.ldc 201, 2) := by decide +kernel
theorem dX7_wouldFall_9 : decode cX7_wouldFall 9 = .ok (.goto 32, 3) := by decide +kernel
theorem dX7_wouldFall_12 : decode cX7_wouldFall 12 = .ok (.aload_n 0, 1) := by decide +kernel
theorem dX7_wouldFall_13 : decode cX7_wouldFall 13 = .ok (.iload_n 1, 1) := by decide +kernel
theorem dX7_wouldFall_14 : decode cX7_wouldFall 14 = .ok (.invokevirtual 246, 3) := by decide +kernel
theorem dX7_wouldFall_17 : decode cX7_wouldFall 17 = .ok (.ifCond .eq 22, 3) := by decide +kernel
theorem dX7_wouldFall_20 : decode cX7_wouldFall 20 = .ok (.aload_n 0, 1) := by decide +kernel
theorem dX7_wouldFall_21 : decode cX7_wouldFall 21 = .ok (.aload_n 0, 1) := by decide +kernel
theorem dX7_wouldFall_22 : decode cX7_wouldFall 22 = .ok (.getfield 31, 3) := by decide +kernel
theorem dX7_wouldFall_25 : decode cX7_wouldFall 25 = .ok (.invokevirtual 202, 3) := by decide +kernel
theorem dX7_wouldFall_28 : decode cX7_wouldFall 28 = .ok (.aload_n 0, 1) := by decide +kernel
theorem dX7_wouldFall_29 : decode cX7_wouldFall 29 = .ok (.iload_n 1, 1) := by decide +kernel
theorem dX7_wouldFall_30 : decode cX7_wouldFall 30 = .ok (.invokevirtual 249, 3) := by decide +kernel
theorem dX7_wouldFall_33 : decode cX7_wouldFall 33 = .ok (.iconst (-1), 1) := by decide +kernel
theorem dX7_wouldFall_34 : decode cX7_wouldFall 34 = .ok (.ixor, 1) := by decide +kernel
theorem dX7_wouldFall_35 : decode cX7_wouldFall 35 = .ok (.iand, 1) := by decide +kernel
theorem dX7_wouldFall_36 : decode cX7_wouldFall 36 = .ok (.goto 5, 3) := by decide +kernel
theorem dX7_wouldFall_39 : decode cX7_wouldFall 39 = .ok (.ldc 93, 2) := by decide +kernel
theorem dX7_wouldFall_41 : decode cX7_wouldFall 41 = .ok (.ireturn, 1) := by decide +kernel
theorem dX7_left_0 : decode cX7_left 0 = .ok (.aload_n 0, 1) := by decide +kernel
theorem dX7_left_1 : decode cX7_left 1 = .ok (.iload_n 1, 1) := by decide +kernel
theorem dX7_left_2 : decode cX7_left 2 = .ok (.invokevirtual 217, 3) := by decide +kernel
theorem dX7_left_5 : decode cX7_left 5 = .ok (.ifCond .ne 6, 3) := by decide +kernel
theorem dX7_left_8 : decode cX7_left 8 = .ok (.ldc 93, 2) := by decide +kernel
theorem dX7_left_10 : decode cX7_left 10 = .ok (.ireturn, 1) := by decide +kernel
theorem dX7_left_11 : decode cX7_left 11 = .ok (.aload_n 0, 1) := by decide +kernel
theorem dX7_left_12 : decode cX7_left 12 = .ok (.aload_n 0, 1) := by decide +kernel
theorem dX7_left_13 : decode cX7_left 13 = .ok (.getfield 31, 3) := by decide +kernel
theorem dX7_left_16 : decode cX7_left 16 = .ok (.iload_n 1, 1) := by decide +kernel
theorem dX7_left_17 : decode cX7_left 17 = .ok (.iconst 1, 1) := by decide +kernel
theorem dX7_left_18 : decode cX7_left 18 = .ok (.invokevirtual 210, 3) := by decide +kernel
theorem dX7_left_21 : decode cX7_left 21 = .ok (.istore_n 2, 1) := by decide +kernel
theorem dX7_left_22 : decode cX7_left 22 = .ok (.iconst 0, 1) := by decide +kernel
theorem dX7_left_23 : decode cX7_left 23 = .ok (.istore_n 3, 1) := by decide +kernel
theorem dX7_left_24 : decode cX7_left 24 = .ok (.iconst 0, 1) := by decide +kernel
theorem dX7_left_25 : decode cX7_left 25 = .ok (.istore 4, 2) := by decide +kernel
theorem dX7_left_27 : decode cX7_left 27 = .ok (.iload 4, 2) := by decide +kernel
theorem dX7_left_29 : decode cX7_left 29 = .ok (.aload_n 0, 1) := by decide +kernel
theorem dX7_left_30 : decode cX7_left 30 = .ok (.getfield 177, 3) := by decide +kernel
theorem dX7_left_33 : decode cX7_left 33 = .ok (.if_icmp .ge 21, 3) := by decide +kernel
theorem dX7_left_36 : decode cX7_left 36 = .ok (.iload_n 3, 1) := by decide +kernel
theorem dX7_left_37 : decode cX7_left 37 = .ok (.aload_n 0, 1) := by decide +kernel
theorem dX7_left_38 : decode cX7_left 38 = .ok (.getfield 31, 3) := by decide +kernel
theorem dX7_left_41 : decode cX7_left 41 = .ok (.iload 4, 2) := by decide +kernel
theorem dX7_left_43 : decode cX7_left 43 = .ok (.iaload, 1) := by decide +kernel
theorem dX7_left_44 : decode cX7_left 44 = .ok (.iload_n 2, 1) := by decide +kernel
theorem dX7_left_45 : decode cX7_left 45 = .ok (.idiv, 1) := by decide +kernel
theorem dX7_left_46 : decode cX7_left 46 = .ok (.iadd, 1) := by decide +kernel
theorem dX7_left_47 : decode cX7_left 47 = .ok (.istore_n 3, 1) := by decide +kernel
theorem dX7_left_48 : decode cX7_left 48 = .ok (.iinc 4 1, 3) := by decide +kernel
theorem dX7_left_51 : decode cX7_left 51 = .ok (.goto (-24), 3) := by decide +kernel
theorem dX7_left_54 : decode cX7_left 54 = .ok (.iload_n 3, 1) := by decide +kernel
theorem dX7_left_55 : decode cX7_left 55 = .ok (.ireturn, 1) := by decide +kernel
theorem dX7_chalkBut_0 : decode cX7_chalkBut 0 = .ok (.iconst 0, 1) := by decide +kernel
theorem dX7_chalkBut_1 : decode cX7_chalkBut 1 = .ok (.istore_n 2, 1) := by decide +kernel
theorem dX7_chalkBut_2 : decode cX7_chalkBut 2 = .ok (.iconst 0, 1) := by decide +kernel
theorem dX7_chalkBut_3 : decode cX7_chalkBut 3 = .ok (.istore_n 3, 1) := by decide +kernel
theorem dX7_chalkBut_4 : decode cX7_chalkBut 4 = .ok (.iload_n 3, 1) := by decide +kernel
theorem dX7_chalkBut_5 : decode cX7_chalkBut 5 = .ok (.aload_n 0, 1) := by decide +kernel
theorem dX7_chalkBut_6 : decode cX7_chalkBut 6 = .ok (.getfield 177, 3) := by decide +kernel
theorem dX7_chalkBut_9 : decode cX7_chalkBut 9 = .ok (.if_icmp .ge 37, 3) := by decide +kernel
theorem dX7_chalkBut_12 : decode cX7_chalkBut 12 = .ok (.iload_n 2, 1) := by decide +kernel
theorem dX7_chalkBut_13 : decode cX7_chalkBut 13 = .ok (.iload_n 1, 1) := by decide +kernel
theorem dX7_chalkBut_14 : decode cX7_chalkBut 14 = .ok (.iload_n 3, 1) := by decide +kernel
theorem dX7_chalkBut_15 : decode cX7_chalkBut 15 = .ok (.invokestatic 146, 3) := by decide +kernel
theorem dX7_chalkBut_18 : decode cX7_chalkBut 18 = .ok (.ifCond .eq 14, 3) := by decide +kernel
theorem dX7_chalkBut_21 : decode cX7_chalkBut 21 = .ok (.aload_n 0, 1) := by decide +kernel
theorem dX7_chalkBut_22 : decode cX7_chalkBut 22 = .ok (.getfield 31, 3) := by decide +kernel
theorem dX7_chalkBut_25 : decode cX7_chalkBut 25 = .ok (.iload_n 3, 1) := by decide +kernel
theorem dX7_chalkBut_26 : decode cX7_chalkBut 26 = .ok (.iaload, 1) := by decide +kernel
theorem dX7_chalkBut_27 : decode cX7_chalkBut 27 = .ok (.iconst 1, 1) := by decide +kernel
theorem dX7_chalkBut_28 : decode cX7_chalkBut 28 = .ok (.isub, 1) := by decide +kernel
theorem dX7_chalkBut_29 : decode cX7_chalkBut 29 = .ok (.goto 9, 3) := by decide +kernel
theorem dX7_chalkBut_32 : decode cX7_chalkBut 32 = .ok (.aload_n 0, 1) := by decide +kernel
theorem dX7_chalkBut_33 : decode cX7_chalkBut 33 = .ok (.getfield 31, 3) := by decide +kernel
theorem dX7_chalkBut_36 : decode cX7_chalkBut 36 = .ok (.iload_n 3, 1) := by decide +kernel
theorem dX7_chalkBut_37 : decode cX7_chalkBut 37 = .ok (.iaload, 1) := by decide +kernel
theorem dX7_chalkBut_38 : decode cX7_chalkBut 38 = .ok (.iadd, 1) := by decide +kernel
theorem dX7_chalkBut_39 : decode cX7_chalkBut 39 = .ok (.istore_n 2, 1) := by decide +kernel
theorem dX7_chalkBut_40 : decode cX7_chalkBut 40 = .ok (.iinc 3 1, 3) := by decide +kernel
theorem dX7_chalkBut_43 : decode cX7_chalkBut 43 = .ok (.goto (-39), 3) := by decide +kernel
theorem dX7_chalkBut_46 : decode cX7_chalkBut 46 = .ok (.iload_n 2, 1) := by decide +kernel
theorem dX7_chalkBut_47 : decode cX7_chalkBut 47 = .ok (.ireturn, 1) := by decide +kernel
theorem dX7_leastFallen_0 : decode cX7_leastFallen 0 = .ok (.aload_n 0, 1) := by decide +kernel
theorem dX7_leastFallen_1 : decode cX7_leastFallen 1 = .ok (.getfield 177, 3) := by decide +kernel
theorem dX7_leastFallen_4 : decode cX7_leastFallen 4 = .ok (.ifCond .ne 6, 3) := by decide +kernel
theorem dX7_leastFallen_7 : decode cX7_leastFallen 7 = .ok (.ldc 201, 2) := by decide +kernel
theorem dX7_leastFallen_9 : decode cX7_leastFallen 9 = .ok (.ireturn, 1) := by decide +kernel
theorem dX7_leastFallen_10 : decode cX7_leastFallen 10 = .ok (.iload_n 1, 1) := by decide +kernel
theorem dX7_leastFallen_11 : decode cX7_leastFallen 11 = .ok (.iconst 0, 1) := by decide +kernel
theorem dX7_leastFallen_12 : decode cX7_leastFallen 12 = .ok (.sipush 240, 3) := by decide +kernel
theorem dX7_leastFallen_15 : decode cX7_leastFallen 15 = .ok (.invokestatic 85, 3) := by decide +kernel
theorem dX7_leastFallen_18 : decode cX7_leastFallen 18 = .ok (.ifCond .eq 20, 3) := by decide +kernel
theorem dX7_leastFallen_21 : decode cX7_leastFallen 21 = .ok (.aload_n 0, 1) := by decide +kernel
theorem dX7_leastFallen_22 : decode cX7_leastFallen 22 = .ok (.iload_n 2, 1) := by decide +kernel
theorem dX7_leastFallen_23 : decode cX7_leastFallen 23 = .ok (.invokevirtual 246, 3) := by decide +kernel
theorem dX7_leastFallen_26 : decode cX7_leastFallen 26 = .ok (.ifCond .eq 12, 3) := by decide +kernel
theorem dX7_leastFallen_29 : decode cX7_leastFallen 29 = .ok (.iload_n 3, 1) := by decide +kernel
theorem dX7_leastFallen_30 : decode cX7_leastFallen 30 = .ok (.iconst 0, 1) := by decide +kernel
theorem dX7_leastFallen_31 : decode cX7_leastFallen 31 = .ok (.iconst 1, 1) := by decide +kernel
theorem dX7_leastFallen_32 : decode cX7_leastFallen 32 = .ok (.invokestatic 85, 3) := by decide +kernel
theorem dX7_leastFallen_35 : decode cX7_leastFallen 35 = .ok (.ifCond .ne 6, 3) := by decide +kernel
theorem dX7_leastFallen_38 : decode cX7_leastFallen 38 = .ok (.ldc 93, 2) := by decide +kernel
theorem dX7_leastFallen_40 : decode cX7_leastFallen 40 = .ok (.ireturn, 1) := by decide +kernel
theorem dX7_leastFallen_41 : decode cX7_leastFallen 41 = .ok (.aload_n 0, 1) := by decide +kernel
theorem dX7_leastFallen_42 : decode cX7_leastFallen 42 = .ok (.aload_n 0, 1) := by decide +kernel
theorem dX7_leastFallen_43 : decode cX7_leastFallen 43 = .ok (.getfield 31, 3) := by decide +kernel
theorem dX7_leastFallen_46 : decode cX7_leastFallen 46 = .ok (.invokevirtual 202, 3) := by decide +kernel
theorem dX7_leastFallen_49 : decode cX7_leastFallen 49 = .ok (.istore 4, 2) := by decide +kernel
theorem dX7_leastFallen_51 : decode cX7_leastFallen 51 = .ok (.ldc 150, 2) := by decide +kernel
theorem dX7_leastFallen_53 : decode cX7_leastFallen 53 = .ok (.istore 5, 2) := by decide +kernel
theorem dX7_leastFallen_55 : decode cX7_leastFallen 55 = .ok (.bipush 9, 2) := by decide +kernel
theorem dX7_leastFallen_57 : decode cX7_leastFallen 57 = .ok (.istore 6, 2) := by decide +kernel
theorem dX7_leastFallen_59 : decode cX7_leastFallen 59 = .ok (.iconst 0, 1) := by decide +kernel
theorem dX7_leastFallen_60 : decode cX7_leastFallen 60 = .ok (.istore 7, 2) := by decide +kernel
theorem dX7_leastFallen_62 : decode cX7_leastFallen 62 = .ok (.iload 7, 2) := by decide +kernel
theorem dX7_leastFallen_64 : decode cX7_leastFallen 64 = .ok (.iconst 1, 1) := by decide +kernel
theorem dX7_leastFallen_65 : decode cX7_leastFallen 65 = .ok (.aload_n 0, 1) := by decide +kernel
theorem dX7_leastFallen_66 : decode cX7_leastFallen 66 = .ok (.getfield 177, 3) := by decide +kernel
theorem dX7_leastFallen_69 : decode cX7_leastFallen 69 = .ok (.ishl, 1) := by decide +kernel
theorem dX7_leastFallen_70 : decode cX7_leastFallen 70 = .ok (.if_icmp .ge 88, 3) := by decide +kernel
theorem dX7_leastFallen_73 : decode cX7_leastFallen 73 = .ok (.iload 7, 2) := by decide +kernel
theorem dX7_leastFallen_75 : decode cX7_leastFallen 75 = .ok (.iload 4, 2) := by decide +kernel
theorem dX7_leastFallen_77 : decode cX7_leastFallen 77 = .ok (.iconst (-1), 1) := by decide +kernel
theorem dX7_leastFallen_78 : decode cX7_leastFallen 78 = .ok (.ixor, 1) := by decide +kernel
theorem dX7_leastFallen_79 : decode cX7_leastFallen 79 = .ok (.iand, 1) := by decide +kernel
theorem dX7_leastFallen_80 : decode cX7_leastFallen 80 = .ok (.ifCond .ne 12, 3) := by decide +kernel
theorem dX7_leastFallen_83 : decode cX7_leastFallen 83 = .ok (.aload_n 0, 1) := by decide +kernel
theorem dX7_leastFallen_84 : decode cX7_leastFallen 84 = .ok (.iload 7, 2) := by decide +kernel
theorem dX7_leastFallen_86 : decode cX7_leastFallen 86 = .ok (.invokevirtual 249, 3) := by decide +kernel
theorem dX7_leastFallen_89 : decode cX7_leastFallen 89 = .ok (.goto 4, 3) := by decide +kernel
theorem dX7_leastFallen_92 : decode cX7_leastFallen 92 = .ok (.iconst 0, 1) := by decide +kernel
theorem dX7_leastFallen_93 : decode cX7_leastFallen 93 = .ok (.istore 8, 2) := by decide +kernel
theorem dX7_leastFallen_95 : decode cX7_leastFallen 95 = .ok (.iload 4, 2) := by decide +kernel
theorem dX7_leastFallen_97 : decode cX7_leastFallen 97 = .ok (.iload 8, 2) := by decide +kernel
theorem dX7_leastFallen_99 : decode cX7_leastFallen 99 = .ok (.iconst (-1), 1) := by decide +kernel
theorem dX7_leastFallen_100 : decode cX7_leastFallen 100 = .ok (.ixor, 1) := by decide +kernel
theorem dX7_leastFallen_101 : decode cX7_leastFallen 101 = .ok (.iand, 1) := by decide +kernel
theorem dX7_leastFallen_102 : decode cX7_leastFallen 102 = .ok (.istore 9, 2) := by decide +kernel
theorem dX7_leastFallen_104 : decode cX7_leastFallen 104 = .ok (.iload 7, 2) := by decide +kernel
theorem dX7_leastFallen_106 : decode cX7_leastFallen 106 = .ok (.iload 4, 2) := by decide +kernel
theorem dX7_leastFallen_108 : decode cX7_leastFallen 108 = .ok (.iconst (-1), 1) := by decide +kernel
theorem dX7_leastFallen_109 : decode cX7_leastFallen 109 = .ok (.ixor, 1) := by decide +kernel
theorem dX7_leastFallen_110 : decode cX7_leastFallen 110 = .ok (.iand, 1) := by decide +kernel
theorem dX7_leastFallen_111 : decode cX7_leastFallen 111 = .ok (.ifCond .ne 41, 3) := by decide +kernel
theorem dX7_leastFallen_114 : decode cX7_leastFallen 114 = .ok (.iload 9, 2) := by decide +kernel
theorem dX7_leastFallen_116 : decode cX7_leastFallen 116 = .ok (.iload_n 2, 1) := by decide +kernel
theorem dX7_leastFallen_117 : decode cX7_leastFallen 117 = .ok (.iand, 1) := by decide +kernel
theorem dX7_leastFallen_118 : decode cX7_leastFallen 118 = .ok (.ifCond .ne 34, 3) := by decide +kernel
theorem dX7_leastFallen_121 : decode cX7_leastFallen 121 = .ok (.iload 9, 2) := by decide +kernel
theorem dX7_leastFallen_123 : decode cX7_leastFallen 123 = .ok (.invokestatic 252, 3) := by decide +kernel
theorem dX7_leastFallen_126 : decode cX7_leastFallen 126 = .ok (.iload 6, 2) := by decide +kernel
theorem dX7_leastFallen_128 : decode cX7_leastFallen 128 = .ok (.if_icmp .ge 24, 3) := by decide +kernel
theorem dX7_leastFallen_131 : decode cX7_leastFallen 131 = .ok (.aload_n 0, 1) := by decide +kernel
theorem dX7_leastFallen_132 : decode cX7_leastFallen 132 = .ok (.iload 8, 2) := by decide +kernel
theorem dX7_leastFallen_134 : decode cX7_leastFallen 134 = .ok (.invokevirtual 255, 3) := by decide +kernel
theorem dX7_leastFallen_137 : decode cX7_leastFallen 137 = .ok (.iload_n 1, 1) := by decide +kernel
theorem dX7_leastFallen_138 : decode cX7_leastFallen 138 = .ok (.if_icmp .lt 14, 3) := by decide +kernel
theorem dX7_leastFallen_141 : decode cX7_leastFallen 141 = .ok (.iload 7, 2) := by decide +kernel
theorem dX7_leastFallen_143 : decode cX7_leastFallen 143 = .ok (.istore 5, 2) := by decide +kernel
theorem dX7_leastFallen_145 : decode cX7_leastFallen 145 = .ok (.iload 9, 2) := by decide +kernel
theorem dX7_leastFallen_147 : decode cX7_leastFallen 147 = .ok (.invokestatic 252, 3) := by decide +kernel
theorem dX7_leastFallen_150 : decode cX7_leastFallen 150 = .ok (.istore 6, 2) := by decide +kernel
theorem dX7_leastFallen_152 : decode cX7_leastFallen 152 = .ok (.iinc 7 1, 3) := by decide +kernel
theorem dX7_leastFallen_155 : decode cX7_leastFallen 155 = .ok (.goto (-93), 3) := by decide +kernel
theorem dX7_leastFallen_158 : decode cX7_leastFallen 158 = .ok (.iload 5, 2) := by decide +kernel
theorem dX7_leastFallen_160 : decode cX7_leastFallen 160 = .ok (.ldc 150, 2) := by decide +kernel
theorem dX7_leastFallen_162 : decode cX7_leastFallen 162 = .ok (.if_icmp .ne 8, 3) := by decide +kernel
theorem dX7_leastFallen_165 : decode cX7_leastFallen 165 = .ok (.ldc 150, 2) := by decide +kernel
theorem dX7_leastFallen_167 : decode cX7_leastFallen 167 = .ok (.goto 14, 3) := by decide +kernel
theorem dX7_leastFallen_170 : decode cX7_leastFallen 170 = .ok (.iload_n 3, 1) := by decide +kernel
theorem dX7_leastFallen_171 : decode cX7_leastFallen 171 = .ok (.ifCond .ne 8, 3) := by decide +kernel
theorem dX7_leastFallen_174 : decode cX7_leastFallen 174 = .ok (.iload 6, 2) := by decide +kernel
theorem dX7_leastFallen_176 : decode cX7_leastFallen 176 = .ok (.goto 5, 3) := by decide +kernel
theorem dX7_leastFallen_179 : decode cX7_leastFallen 179 = .ok (.iload 5, 2) := by decide +kernel
theorem dX7_leastFallen_181 : decode cX7_leastFallen 181 = .ok (.ireturn, 1) := by decide +kernel
theorem dX7_must_0 : decode cX7_must 0 = .ok (.aload_n 0, 1) := by decide +kernel
theorem dX7_must_1 : decode cX7_must 1 = .ok (.getfield 177, 3) := by decide +kernel
theorem dX7_must_4 : decode cX7_must 4 = .ok (.ifCond .ne 6, 3) := by decide +kernel
theorem dX7_must_7 : decode cX7_must 7 = .ok (.ldc 201, 2) := by decide +kernel
theorem dX7_must_9 : decode cX7_must 9 = .ok (.ireturn, 1) := by decide +kernel
theorem dX7_must_10 : decode cX7_must 10 = .ok (.aload_n 0, 1) := by decide +kernel
theorem dX7_must_11 : decode cX7_must 11 = .ok (.aload_n 0, 1) := by decide +kernel
theorem dX7_must_12 : decode cX7_must 12 = .ok (.getfield 31, 3) := by decide +kernel
theorem dX7_must_15 : decode cX7_must 15 = .ok (.invokevirtual 202, 3) := by decide +kernel
theorem dX7_must_18 : decode cX7_must 18 = .ok (.istore_n 1, 1) := by decide +kernel
theorem dX7_must_19 : decode cX7_must 19 = .ok (.iconst 0, 1) := by decide +kernel
theorem dX7_must_20 : decode cX7_must 20 = .ok (.istore_n 2, 1) := by decide +kernel
theorem dX7_must_21 : decode cX7_must 21 = .ok (.iconst 0, 1) := by decide +kernel
theorem dX7_must_22 : decode cX7_must 22 = .ok (.istore_n 3, 1) := by decide +kernel
theorem dX7_must_23 : decode cX7_must 23 = .ok (.iload_n 3, 1) := by decide +kernel
theorem dX7_must_24 : decode cX7_must 24 = .ok (.aload_n 0, 1) := by decide +kernel
theorem dX7_must_25 : decode cX7_must 25 = .ok (.getfield 177, 3) := by decide +kernel
theorem dX7_must_28 : decode cX7_must 28 = .ok (.if_icmp .ge 62, 3) := by decide +kernel
theorem dX7_must_31 : decode cX7_must 31 = .ok (.iload_n 1, 1) := by decide +kernel
theorem dX7_must_32 : decode cX7_must 32 = .ok (.iload_n 3, 1) := by decide +kernel
theorem dX7_must_33 : decode cX7_must 33 = .ok (.invokestatic 146, 3) := by decide +kernel
theorem dX7_must_36 : decode cX7_must 36 = .ok (.ifCond .eq 30, 3) := by decide +kernel
theorem dX7_must_39 : decode cX7_must 39 = .ok (.iconst 2, 1) := by decide +kernel
end
section
theorem dX7_must_40 : decode cX7_must 40 = .ok (.iload_n 1, 1) := by decide +kernel
theorem dX7_must_41 : decode cX7_must 41 = .ok (.aload_n 0, 1) := by decide +kernel
theorem dX7_must_42 : decode cX7_must 42 = .ok (.iconst 1, 1) := by decide +kernel
theorem dX7_must_43 : decode cX7_must 43 = .ok (.iload_n 3, 1) := by decide +kernel
theorem dX7_must_44 : decode cX7_must 44 = .ok (.ishl, 1) := by decide +kernel
theorem dX7_must_45 : decode cX7_must 45 = .ok (.invokevirtual 249, 3) := by decide +kernel
theorem dX7_must_48 : decode cX7_must 48 = .ok (.iconst (-1), 1) := by decide +kernel
theorem dX7_must_49 : decode cX7_must 49 = .ok (.ixor, 1) := by decide +kernel
theorem dX7_must_50 : decode cX7_must 50 = .ok (.iand, 1) := by decide +kernel
theorem dX7_must_51 : decode cX7_must 51 = .ok (.invokestatic 252, 3) := by decide +kernel
theorem dX7_must_54 : decode cX7_must 54 = .ok (.imul, 1) := by decide +kernel
theorem dX7_must_55 : decode cX7_must 55 = .ok (.iload_n 1, 1) := by decide +kernel
theorem dX7_must_56 : decode cX7_must 56 = .ok (.invokestatic 252, 3) := by decide +kernel
theorem dX7_must_59 : decode cX7_must 59 = .ok (.if_icmp .le 7, 3) := by decide +kernel
theorem dX7_must_62 : decode cX7_must 62 = .ok (.iconst 1, 1) := by decide +kernel
theorem dX7_must_63 : decode cX7_must 63 = .ok (.goto 4, 3) := by decide +kernel
theorem dX7_must_66 : decode cX7_must 66 = .ok (.iconst 0, 1) := by decide +kernel
theorem dX7_must_67 : decode cX7_must 67 = .ok (.istore 4, 2) := by decide +kernel
theorem dX7_must_69 : decode cX7_must 69 = .ok (.iload_n 2, 1) := by decide +kernel
theorem dX7_must_70 : decode cX7_must 70 = .ok (.iload 4, 2) := by decide +kernel
theorem dX7_must_72 : decode cX7_must 72 = .ok (.ifCond .eq 9, 3) := by decide +kernel
theorem dX7_must_75 : decode cX7_must 75 = .ok (.iconst 1, 1) := by decide +kernel
theorem dX7_must_76 : decode cX7_must 76 = .ok (.iload_n 3, 1) := by decide +kernel
theorem dX7_must_77 : decode cX7_must 77 = .ok (.ishl, 1) := by decide +kernel
theorem dX7_must_78 : decode cX7_must 78 = .ok (.goto 4, 3) := by decide +kernel
theorem dX7_must_81 : decode cX7_must 81 = .ok (.iconst 0, 1) := by decide +kernel
theorem dX7_must_82 : decode cX7_must 82 = .ok (.ior, 1) := by decide +kernel
theorem dX7_must_83 : decode cX7_must 83 = .ok (.istore_n 2, 1) := by decide +kernel
theorem dX7_must_84 : decode cX7_must 84 = .ok (.iinc 3 1, 3) := by decide +kernel
theorem dX7_must_87 : decode cX7_must 87 = .ok (.goto (-64), 3) := by decide +kernel
theorem dX7_must_90 : decode cX7_must 90 = .ok (.iload_n 2, 1) := by decide +kernel
theorem dX7_must_91 : decode cX7_must 91 = .ok (.ireturn, 1) := by decide +kernel
theorem dX7_standingBy_0 : decode cX7_standingBy 0 = .ok (.aload_n 0, 1) := by decide +kernel
theorem dX7_standingBy_1 : decode cX7_standingBy 1 = .ok (.invokevirtual 243, 3) := by decide +kernel
theorem dX7_standingBy_4 : decode cX7_standingBy 4 = .ok (.iconst 1, 1) := by decide +kernel
theorem dX7_standingBy_5 : decode cX7_standingBy 5 = .ok (.istore 5, 2) := by decide +kernel
theorem dX7_standingBy_7 : decode cX7_standingBy 7 = .ok (.iconst 1, 1) := by decide +kernel
theorem dX7_standingBy_8 : decode cX7_standingBy 8 = .ok (.istore 6, 2) := by decide +kernel
theorem dX7_standingBy_10 : decode cX7_standingBy 10 = .ok (.iload 6, 2) := by decide +kernel
theorem dX7_standingBy_12 : decode cX7_standingBy 12 = .ok (.iload_n 3, 1) := by decide +kernel
theorem dX7_standingBy_13 : decode cX7_standingBy 13 = .ok (.if_icmp .ge 18, 3) := by decide +kernel
theorem dX7_standingBy_16 : decode cX7_standingBy 16 = .ok (.iload 5, 2) := by decide +kernel
theorem dX7_standingBy_18 : decode cX7_standingBy 18 = .ok (.aload_n 0, 1) := by decide +kernel
theorem dX7_standingBy_19 : decode cX7_standingBy 19 = .ok (.getfield 177, 3) := by decide +kernel
theorem dX7_standingBy_22 : decode cX7_standingBy 22 = .ok (.imul, 1) := by decide +kernel
theorem dX7_standingBy_23 : decode cX7_standingBy 23 = .ok (.istore 5, 2) := by decide +kernel
theorem dX7_standingBy_25 : decode cX7_standingBy 25 = .ok (.iinc 6 1, 3) := by decide +kernel
theorem dX7_standingBy_28 : decode cX7_standingBy 28 = .ok (.goto (-18), 3) := by decide +kernel
theorem dX7_standingBy_31 : decode cX7_standingBy 31 = .ok (.iconst 0, 1) := by decide +kernel
theorem dX7_standingBy_32 : decode cX7_standingBy 32 = .ok (.istore 6, 2) := by decide +kernel
theorem dX7_standingBy_34 : decode cX7_standingBy 34 = .ok (.iload 6, 2) := by decide +kernel
theorem dX7_standingBy_36 : decode cX7_standingBy 36 = .ok (.iload_n 3, 1) := by decide +kernel
theorem dX7_standingBy_37 : decode cX7_standingBy 37 = .ok (.if_icmp .ge 75, 3) := by decide +kernel
theorem dX7_standingBy_40 : decode cX7_standingBy 40 = .ok (.aload_n 0, 1) := by decide +kernel
theorem dX7_standingBy_41 : decode cX7_standingBy 41 = .ok (.aload_n 0, 1) := by decide +kernel
theorem dX7_standingBy_42 : decode cX7_standingBy 42 = .ok (.getfield 34, 3) := by decide +kernel
theorem dX7_standingBy_45 : decode cX7_standingBy 45 = .ok (.aload_n 0, 1) := by decide +kernel
theorem dX7_standingBy_46 : decode cX7_standingBy 46 = .ok (.iload_n 1, 1) := by decide +kernel
theorem dX7_standingBy_47 : decode cX7_standingBy 47 = .ok (.iload_n 2, 1) := by decide +kernel
theorem dX7_standingBy_48 : decode cX7_standingBy 48 = .ok (.iconst 2, 1) := by decide +kernel
theorem dX7_standingBy_49 : decode cX7_standingBy 49 = .ok (.iload 6, 2) := by decide +kernel
theorem dX7_standingBy_51 : decode cX7_standingBy 51 = .ok (.imul, 1) := by decide +kernel
theorem dX7_standingBy_52 : decode cX7_standingBy 52 = .ok (.iadd, 1) := by decide +kernel
theorem dX7_standingBy_53 : decode cX7_standingBy 53 = .ok (.invokevirtual 258, 3) := by decide +kernel
theorem dX7_standingBy_56 : decode cX7_standingBy 56 = .ok (.aload_n 0, 1) := by decide +kernel
theorem dX7_standingBy_57 : decode cX7_standingBy 57 = .ok (.iload_n 1, 1) := by decide +kernel
theorem dX7_standingBy_58 : decode cX7_standingBy 58 = .ok (.iload_n 2, 1) := by decide +kernel
theorem dX7_standingBy_59 : decode cX7_standingBy 59 = .ok (.iconst 2, 1) := by decide +kernel
theorem dX7_standingBy_60 : decode cX7_standingBy 60 = .ok (.iload 6, 2) := by decide +kernel
theorem dX7_standingBy_62 : decode cX7_standingBy 62 = .ok (.imul, 1) := by decide +kernel
theorem dX7_standingBy_63 : decode cX7_standingBy 63 = .ok (.iadd, 1) := by decide +kernel
theorem dX7_standingBy_64 : decode cX7_standingBy 64 = .ok (.iconst 1, 1) := by decide +kernel
theorem dX7_standingBy_65 : decode cX7_standingBy 65 = .ok (.iadd, 1) := by decide +kernel
theorem dX7_standingBy_66 : decode cX7_standingBy 66 = .ok (.invokevirtual 258, 3) := by decide +kernel
theorem dX7_standingBy_69 : decode cX7_standingBy 69 = .ok (.iload 4, 2) := by decide +kernel
theorem dX7_standingBy_71 : decode cX7_standingBy 71 = .ok (.iload 5, 2) := by decide +kernel
theorem dX7_standingBy_73 : decode cX7_standingBy 73 = .ok (.idiv, 1) := by decide +kernel
theorem dX7_standingBy_74 : decode cX7_standingBy 74 = .ok (.aload_n 0, 1) := by decide +kernel
theorem dX7_standingBy_75 : decode cX7_standingBy 75 = .ok (.getfield 177, 3) := by decide +kernel
theorem dX7_standingBy_78 : decode cX7_standingBy 78 = .ok (.irem, 1) := by decide +kernel
theorem dX7_standingBy_79 : decode cX7_standingBy 79 = .ok (.invokevirtual 226, 3) := by decide +kernel
theorem dX7_standingBy_82 : decode cX7_standingBy 82 = .ok (.ifCond .ne 5, 3) := by decide +kernel
theorem dX7_standingBy_85 : decode cX7_standingBy 85 = .ok (.iconst (-1), 1) := by decide +kernel
theorem dX7_standingBy_86 : decode cX7_standingBy 86 = .ok (.ireturn, 1) := by decide +kernel
theorem dX7_standingBy_87 : decode cX7_standingBy 87 = .ok (.iload 5, 2) := by decide +kernel
theorem dX7_standingBy_89 : decode cX7_standingBy 89 = .ok (.iconst 1, 1) := by decide +kernel
theorem dX7_standingBy_90 : decode cX7_standingBy 90 = .ok (.if_icmp .le 13, 3) := by decide +kernel
theorem dX7_standingBy_93 : decode cX7_standingBy 93 = .ok (.iload 5, 2) := by decide +kernel
theorem dX7_standingBy_95 : decode cX7_standingBy 95 = .ok (.aload_n 0, 1) := by decide +kernel
theorem dX7_standingBy_96 : decode cX7_standingBy 96 = .ok (.getfield 177, 3) := by decide +kernel
theorem dX7_standingBy_99 : decode cX7_standingBy 99 = .ok (.idiv, 1) := by decide +kernel
theorem dX7_standingBy_100 : decode cX7_standingBy 100 = .ok (.goto 4, 3) := by decide +kernel
theorem dX7_standingBy_103 : decode cX7_standingBy 103 = .ok (.iconst 1, 1) := by decide +kernel
theorem dX7_standingBy_104 : decode cX7_standingBy 104 = .ok (.istore 5, 2) := by decide +kernel
theorem dX7_standingBy_106 : decode cX7_standingBy 106 = .ok (.iinc 6 1, 3) := by decide +kernel
theorem dX7_standingBy_109 : decode cX7_standingBy 109 = .ok (.goto (-75), 3) := by decide +kernel
theorem dX7_standingBy_112 : decode cX7_standingBy 112 = .ok (.aload_n 0, 1) := by decide +kernel
theorem dX7_standingBy_113 : decode cX7_standingBy 113 = .ok (.aload_n 0, 1) := by decide +kernel
theorem dX7_standingBy_114 : decode cX7_standingBy 114 = .ok (.getfield 34, 3) := by decide +kernel
theorem dX7_standingBy_117 : decode cX7_standingBy 117 = .ok (.invokevirtual 202, 3) := by decide +kernel
theorem dX7_standingBy_120 : decode cX7_standingBy 120 = .ok (.invokestatic 252, 3) := by decide +kernel
theorem dX7_standingBy_123 : decode cX7_standingBy 123 = .ok (.ireturn, 1) := by decide +kernel
theorem dX7_writings_0 : decode cX7_writings 0 = .ok (.aload_n 0, 1) := by decide +kernel
theorem dX7_writings_1 : decode cX7_writings 1 = .ok (.getfield 177, 3) := by decide +kernel
theorem dX7_writings_4 : decode cX7_writings 4 = .ok (.ifCond .ne 6, 3) := by decide +kernel
theorem dX7_writings_7 : decode cX7_writings 7 = .ok (.ldc 201, 2) := by decide +kernel
theorem dX7_writings_9 : decode cX7_writings 9 = .ok (.ireturn, 1) := by decide +kernel
theorem dX7_writings_10 : decode cX7_writings 10 = .ok (.iload_n 1, 1) := by decide +kernel
theorem dX7_writings_11 : decode cX7_writings 11 = .ok (.invokestatic 89, 3) := by decide +kernel
theorem dX7_writings_14 : decode cX7_writings 14 = .ok (.ifCond .eq 18, 3) := by decide +kernel
theorem dX7_writings_17 : decode cX7_writings 17 = .ok (.iload_n 3, 1) := by decide +kernel
theorem dX7_writings_18 : decode cX7_writings 18 = .ok (.iconst 1, 1) := by decide +kernel
theorem dX7_writings_19 : decode cX7_writings 19 = .ok (.iconst 4, 1) := by decide +kernel
theorem dX7_writings_20 : decode cX7_writings 20 = .ok (.invokestatic 85, 3) := by decide +kernel
theorem dX7_writings_23 : decode cX7_writings 23 = .ok (.ifCond .eq 9, 3) := by decide +kernel
theorem dX7_writings_26 : decode cX7_writings 26 = .ok (.iload 4, 2) := by decide +kernel
theorem dX7_writings_28 : decode cX7_writings 28 = .ok (.iconst (-1), 1) := by decide +kernel
theorem dX7_writings_29 : decode cX7_writings 29 = .ok (.if_icmp .ge 6, 3) := by decide +kernel
theorem dX7_writings_32 : decode cX7_writings 32 = .ok (.ldc 93, 2) := by decide +kernel
theorem dX7_writings_34 : decode cX7_writings 34 = .ok (.ireturn, 1) := by decide +kernel
theorem dX7_writings_35 : decode cX7_writings 35 = .ok (.aload_n 0, 1) := by decide +kernel
theorem dX7_writings_36 : decode cX7_writings 36 = .ok (.getfield 7, 3) := by decide +kernel
theorem dX7_writings_39 : decode cX7_writings 39 = .ok (.iload_n 1, 1) := by decide +kernel
theorem dX7_writings_40 : decode cX7_writings 40 = .ok (.iaload, 1) := by decide +kernel
theorem dX7_writings_41 : decode cX7_writings 41 = .ok (.ifCond .ge 9, 3) := by decide +kernel
theorem dX7_writings_44 : decode cX7_writings 44 = .ok (.aload_n 0, 1) := by decide +kernel
theorem dX7_writings_45 : decode cX7_writings 45 = .ok (.iconst 1, 1) := by decide +kernel
theorem dX7_writings_46 : decode cX7_writings 46 = .ok (.invokevirtual 94, 3) := by decide +kernel
theorem dX7_writings_49 : decode cX7_writings 49 = .ok (.ireturn, 1) := by decide +kernel
theorem dX7_writings_50 : decode cX7_writings 50 = .ok (.aload_n 0, 1) := by decide +kernel
theorem dX7_writings_51 : decode cX7_writings 51 = .ok (.iload_n 1, 1) := by decide +kernel
theorem dX7_writings_52 : decode cX7_writings 52 = .ok (.iload_n 2, 1) := by decide +kernel
theorem dX7_writings_53 : decode cX7_writings 53 = .ok (.iconst 2, 1) := by decide +kernel
theorem dX7_writings_54 : decode cX7_writings 54 = .ok (.iload_n 3, 1) := by decide +kernel
theorem dX7_writings_55 : decode cX7_writings 55 = .ok (.imul, 1) := by decide +kernel
theorem dX7_writings_56 : decode cX7_writings 56 = .ok (.invokevirtual 105, 3) := by decide +kernel
theorem dX7_writings_59 : decode cX7_writings 59 = .ok (.ifCond .ne 9, 3) := by decide +kernel
theorem dX7_writings_62 : decode cX7_writings 62 = .ok (.aload_n 0, 1) := by decide +kernel
theorem dX7_writings_63 : decode cX7_writings 63 = .ok (.iconst 2, 1) := by decide +kernel
theorem dX7_writings_64 : decode cX7_writings 64 = .ok (.invokevirtual 94, 3) := by decide +kernel
theorem dX7_writings_67 : decode cX7_writings 67 = .ok (.ireturn, 1) := by decide +kernel
theorem dX7_writings_68 : decode cX7_writings 68 = .ok (.iconst 0, 1) := by decide +kernel
theorem dX7_writings_69 : decode cX7_writings 69 = .ok (.istore 5, 2) := by decide +kernel
theorem dX7_writings_71 : decode cX7_writings 71 = .ok (.iload 5, 2) := by decide +kernel
theorem dX7_writings_73 : decode cX7_writings 73 = .ok (.iload_n 3, 1) := by decide +kernel
theorem dX7_writings_74 : decode cX7_writings 74 = .ok (.if_icmp .ge 52, 3) := by decide +kernel
theorem dX7_writings_77 : decode cX7_writings 77 = .ok (.aload_n 0, 1) := by decide +kernel
theorem dX7_writings_78 : decode cX7_writings 78 = .ok (.aload_n 0, 1) := by decide +kernel
theorem dX7_writings_79 : decode cX7_writings 79 = .ok (.iload_n 1, 1) := by decide +kernel
theorem dX7_writings_80 : decode cX7_writings 80 = .ok (.iload_n 2, 1) := by decide +kernel
theorem dX7_writings_81 : decode cX7_writings 81 = .ok (.iconst 2, 1) := by decide +kernel
theorem dX7_writings_82 : decode cX7_writings 82 = .ok (.iload 5, 2) := by decide +kernel
theorem dX7_writings_84 : decode cX7_writings 84 = .ok (.imul, 1) := by decide +kernel
theorem dX7_writings_85 : decode cX7_writings 85 = .ok (.iadd, 1) := by decide +kernel
theorem dX7_writings_86 : decode cX7_writings 86 = .ok (.invokevirtual 258, 3) := by decide +kernel
theorem dX7_writings_89 : decode cX7_writings 89 = .ok (.invokevirtual 217, 3) := by decide +kernel
theorem dX7_writings_92 : decode cX7_writings 92 = .ok (.ifCond .eq 25, 3) := by decide +kernel
theorem dX7_writings_95 : decode cX7_writings 95 = .ok (.aload_n 0, 1) := by decide +kernel
theorem dX7_writings_96 : decode cX7_writings 96 = .ok (.iload_n 1, 1) := by decide +kernel
theorem dX7_writings_97 : decode cX7_writings 97 = .ok (.iload_n 2, 1) := by decide +kernel
theorem dX7_writings_98 : decode cX7_writings 98 = .ok (.iconst 2, 1) := by decide +kernel
theorem dX7_writings_99 : decode cX7_writings 99 = .ok (.iload 5, 2) := by decide +kernel
theorem dX7_writings_101 : decode cX7_writings 101 = .ok (.imul, 1) := by decide +kernel
theorem dX7_writings_102 : decode cX7_writings 102 = .ok (.iadd, 1) := by decide +kernel
theorem dX7_writings_103 : decode cX7_writings 103 = .ok (.iconst 1, 1) := by decide +kernel
theorem dX7_writings_104 : decode cX7_writings 104 = .ok (.iadd, 1) := by decide +kernel
theorem dX7_writings_105 : decode cX7_writings 105 = .ok (.invokevirtual 258, 3) := by decide +kernel
theorem dX7_writings_108 : decode cX7_writings 108 = .ok (.iconst 1, 1) := by decide +kernel
theorem dX7_writings_109 : decode cX7_writings 109 = .ok (.bipush 30, 2) := by decide +kernel
theorem dX7_writings_111 : decode cX7_writings 111 = .ok (.invokestatic 85, 3) := by decide +kernel
theorem dX7_writings_114 : decode cX7_writings 114 = .ok (.ifCond .ne 6, 3) := by decide +kernel
theorem dX7_writings_117 : decode cX7_writings 117 = .ok (.ldc 93, 2) := by decide +kernel
theorem dX7_writings_119 : decode cX7_writings 119 = .ok (.ireturn, 1) := by decide +kernel
theorem dX7_writings_120 : decode cX7_writings 120 = .ok (.iinc 5 1, 3) := by decide +kernel
theorem dX7_writings_123 : decode cX7_writings 123 = .ok (.goto (-52), 3) := by decide +kernel
theorem dX7_writings_126 : decode cX7_writings 126 = .ok (.iconst (-1), 1) := by decide +kernel
theorem dX7_writings_127 : decode cX7_writings 127 = .ok (.istore 5, 2) := by decide +kernel
theorem dX7_writings_129 : decode cX7_writings 129 = .ok (.iconst 0, 1) := by decide +kernel
theorem dX7_writings_130 : decode cX7_writings 130 = .ok (.istore 6, 2) := by decide +kernel
theorem dX7_writings_132 : decode cX7_writings 132 = .ok (.iconst 1, 1) := by decide +kernel
theorem dX7_writings_133 : decode cX7_writings 133 = .ok (.istore 7, 2) := by decide +kernel
theorem dX7_writings_135 : decode cX7_writings 135 = .ok (.iconst 0, 1) := by decide +kernel
theorem dX7_writings_136 : decode cX7_writings 136 = .ok (.istore 8, 2) := by decide +kernel
theorem dX7_writings_138 : decode cX7_writings 138 = .ok (.iload 8, 2) := by decide +kernel
theorem dX7_writings_140 : decode cX7_writings 140 = .ok (.iload_n 3, 1) := by decide +kernel
theorem dX7_writings_141 : decode cX7_writings 141 = .ok (.if_icmp .ge 18, 3) := by decide +kernel
theorem dX7_writings_144 : decode cX7_writings 144 = .ok (.iload 7, 2) := by decide +kernel
theorem dX7_writings_146 : decode cX7_writings 146 = .ok (.aload_n 0, 1) := by decide +kernel
theorem dX7_writings_147 : decode cX7_writings 147 = .ok (.getfield 177, 3) := by decide +kernel
theorem dX7_writings_150 : decode cX7_writings 150 = .ok (.imul, 1) := by decide +kernel
theorem dX7_writings_151 : decode cX7_writings 151 = .ok (.istore 7, 2) := by decide +kernel
theorem dX7_writings_153 : decode cX7_writings 153 = .ok (.iinc 8 1, 3) := by decide +kernel
theorem dX7_writings_156 : decode cX7_writings 156 = .ok (.goto (-18), 3) := by decide +kernel
theorem dX7_writings_159 : decode cX7_writings 159 = .ok (.iconst 0, 1) := by decide +kernel
theorem dX7_writings_160 : decode cX7_writings 160 = .ok (.istore 8, 2) := by decide +kernel
theorem dX7_writings_162 : decode cX7_writings 162 = .ok (.iload 8, 2) := by decide +kernel
theorem dX7_writings_164 : decode cX7_writings 164 = .ok (.iload 7, 2) := by decide +kernel
theorem dX7_writings_166 : decode cX7_writings 166 = .ok (.if_icmp .ge 52, 3) := by decide +kernel
theorem dX7_writings_169 : decode cX7_writings 169 = .ok (.aload_n 0, 1) := by decide +kernel
theorem dX7_writings_170 : decode cX7_writings 170 = .ok (.iload_n 1, 1) := by decide +kernel
theorem dX7_writings_171 : decode cX7_writings 171 = .ok (.iload_n 2, 1) := by decide +kernel
theorem dX7_writings_172 : decode cX7_writings 172 = .ok (.iload_n 3, 1) := by decide +kernel
theorem dX7_writings_173 : decode cX7_writings 173 = .ok (.iload 8, 2) := by decide +kernel
theorem dX7_writings_175 : decode cX7_writings 175 = .ok (.invokevirtual 261, 3) := by decide +kernel
theorem dX7_writings_178 : decode cX7_writings 178 = .ok (.istore 9, 2) := by decide +kernel
theorem dX7_writings_180 : decode cX7_writings 180 = .ok (.iload 9, 2) := by decide +kernel
theorem dX7_writings_182 : decode cX7_writings 182 = .ok (.iload 5, 2) := by decide +kernel
theorem dX7_writings_184 : decode cX7_writings 184 = .ok (.if_icmp .le 8, 3) := by decide +kernel
theorem dX7_writings_187 : decode cX7_writings 187 = .ok (.iload 8, 2) := by decide +kernel
theorem dX7_writings_189 : decode cX7_writings 189 = .ok (.goto 5, 3) := by decide +kernel
theorem dX7_writings_192 : decode cX7_writings 192 = .ok (.iload 6, 2) := by decide +kernel
theorem dX7_writings_194 : decode cX7_writings 194 = .ok (.istore 6, 2) := by decide +kernel
theorem dX7_writings_196 : decode cX7_writings 196 = .ok (.iload 9, 2) := by decide +kernel
theorem dX7_writings_198 : decode cX7_writings 198 = .ok (.iload 5, 2) := by decide +kernel
theorem dX7_writings_200 : decode cX7_writings 200 = .ok (.if_icmp .le 8, 3) := by decide +kernel
theorem dX7_writings_203 : decode cX7_writings 203 = .ok (.iload 9, 2) := by decide +kernel
theorem dX7_writings_205 : decode cX7_writings 205 = .ok (.goto 5, 3) := by decide +kernel
theorem dX7_writings_208 : decode cX7_writings 208 = .ok (.iload 5, 2) := by decide +kernel
theorem dX7_writings_210 : decode cX7_writings 210 = .ok (.istore 5, 2) := by decide +kernel
theorem dX7_writings_212 : decode cX7_writings 212 = .ok (.iinc 8 1, 3) := by decide +kernel
theorem dX7_writings_215 : decode cX7_writings 215 = .ok (.goto (-53), 3) := by decide +kernel
theorem dX7_writings_218 : decode cX7_writings 218 = .ok (.iload_n 3, 1) := by decide +kernel
theorem dX7_writings_219 : decode cX7_writings 219 = .ok (.iconst 1, 1) := by decide +kernel
theorem dX7_writings_220 : decode cX7_writings 220 = .ok (.isub, 1) := by decide +kernel
theorem dX7_writings_221 : decode cX7_writings 221 = .ok (.istore 8, 2) := by decide +kernel
theorem dX7_writings_223 : decode cX7_writings 223 = .ok (.iload 8, 2) := by decide +kernel
theorem dX7_writings_225 : decode cX7_writings 225 = .ok (.iload 4, 2) := by decide +kernel
theorem dX7_writings_227 : decode cX7_writings 227 = .ok (.if_icmp .le 23, 3) := by decide +kernel
theorem dX7_writings_230 : decode cX7_writings 230 = .ok (.iload 4, 2) := by decide +kernel
theorem dX7_writings_232 : decode cX7_writings 232 = .ok (.ifCond .lt 18, 3) := by decide +kernel
theorem dX7_writings_235 : decode cX7_writings 235 = .ok (.iload 6, 2) := by decide +kernel
theorem dX7_writings_237 : decode cX7_writings 237 = .ok (.aload_n 0, 1) := by decide +kernel
theorem dX7_writings_238 : decode cX7_writings 238 = .ok (.getfield 177, 3) := by decide +kernel
theorem dX7_writings_241 : decode cX7_writings 241 = .ok (.idiv, 1) := by decide +kernel
theorem dX7_writings_242 : decode cX7_writings 242 = .ok (.istore 6, 2) := by decide +kernel
theorem dX7_writings_244 : decode cX7_writings 244 = .ok (.iinc 8 (-1), 3) := by decide +kernel
theorem dX7_writings_247 : decode cX7_writings 247 = .ok (.goto (-24), 3) := by decide +kernel
theorem dX7_writings_250 : decode cX7_writings 250 = .ok (.aload_n 0, 1) := by decide +kernel
theorem dX7_writings_251 : decode cX7_writings 251 = .ok (.iload 5, 2) := by decide +kernel
theorem dX7_writings_253 : decode cX7_writings 253 = .ok (.ifCond .lt 9, 3) := by decide +kernel
theorem dX7_writings_256 : decode cX7_writings 256 = .ok (.iload 4, 2) := by decide +kernel
theorem dX7_writings_258 : decode cX7_writings 258 = .ok (.iload_n 3, 1) := by decide +kernel
theorem dX7_writings_259 : decode cX7_writings 259 = .ok (.if_icmp .lt 8, 3) := by decide +kernel
theorem dX7_writings_262 : decode cX7_writings 262 = .ok (.ldc 150, 2) := by decide +kernel
theorem dX7_writings_264 : decode cX7_writings 264 = .ok (.goto 20, 3) := by decide +kernel
theorem dX7_writings_267 : decode cX7_writings 267 = .ok (.iload 4, 2) := by decide +kernel
theorem dX7_writings_269 : decode cX7_writings 269 = .ok (.ifCond .ge 8, 3) := by decide +kernel
theorem dX7_writings_272 : decode cX7_writings 272 = .ok (.iload 5, 2) := by decide +kernel
theorem dX7_writings_274 : decode cX7_writings 274 = .ok (.goto 10, 3) := by decide +kernel
theorem dX7_writings_277 : decode cX7_writings 277 = .ok (.iload 6, 2) := by decide +kernel
theorem dX7_writings_279 : decode cX7_writings 279 = .ok (.aload_n 0, 1) := by decide +kernel
theorem dX7_writings_280 : decode cX7_writings 280 = .ok (.getfield 177, 3) := by decide +kernel
theorem dX7_writings_283 : decode cX7_writings 283 = .ok (.irem, 1) := by decide +kernel
theorem dX7_writings_284 : decode cX7_writings 284 = .ok (.invokevirtual 98, 3) := by decide +kernel
theorem dX7_writings_287 : decode cX7_writings 287 = .ok (.ireturn, 1) := by decide +kernel
theorem dX7_isLeft_0 : decode cX7_isLeft 0 = .ok (.aload_n 0, 1) := by decide +kernel
theorem dX7_isLeft_1 : decode cX7_isLeft 1 = .ok (.getfield 31, 3) := by decide +kernel
theorem dX7_isLeft_4 : decode cX7_isLeft 4 = .ok (.iload_n 3, 1) := by decide +kernel
theorem dX7_isLeft_5 : decode cX7_isLeft 5 = .ok (.iaload, 1) := by decide +kernel
theorem dX7_isLeft_6 : decode cX7_isLeft 6 = .ok (.iload 4, 2) := by decide +kernel
theorem dX7_isLeft_8 : decode cX7_isLeft 8 = .ok (.if_icmp .lt 7, 3) := by decide +kernel
theorem dX7_isLeft_11 : decode cX7_isLeft 11 = .ok (.iconst 1, 1) := by decide +kernel
theorem dX7_isLeft_12 : decode cX7_isLeft 12 = .ok (.goto 4, 3) := by decide +kernel
theorem dX7_isLeft_15 : decode cX7_isLeft 15 = .ok (.iconst 0, 1) := by decide +kernel
theorem dX7_isLeft_16 : decode cX7_isLeft 16 = .ok (.istore 5, 2) := by decide +kernel
theorem dX7_isLeft_18 : decode cX7_isLeft 18 = .ok (.iconst 0, 1) := by decide +kernel
theorem dX7_isLeft_19 : decode cX7_isLeft 19 = .ok (.istore 6, 2) := by decide +kernel
theorem dX7_isLeft_21 : decode cX7_isLeft 21 = .ok (.iload 6, 2) := by decide +kernel
theorem dX7_isLeft_23 : decode cX7_isLeft 23 = .ok (.aload_n 0, 1) := by decide +kernel
theorem dX7_isLeft_24 : decode cX7_isLeft 24 = .ok (.getfield 177, 3) := by decide +kernel
theorem dX7_isLeft_27 : decode cX7_isLeft 27 = .ok (.if_icmp .ge 59, 3) := by decide +kernel
theorem dX7_isLeft_30 : decode cX7_isLeft 30 = .ok (.iload 5, 2) := by decide +kernel
theorem dX7_isLeft_32 : decode cX7_isLeft 32 = .ok (.ifCond .eq 45, 3) := by decide +kernel
theorem dX7_isLeft_35 : decode cX7_isLeft 35 = .ok (.aload_n 0, 1) := by decide +kernel
theorem dX7_isLeft_36 : decode cX7_isLeft 36 = .ok (.iload_n 1, 1) := by decide +kernel
theorem dX7_isLeft_37 : decode cX7_isLeft 37 = .ok (.iload_n 2, 1) := by decide +kernel
theorem dX7_isLeft_38 : decode cX7_isLeft 38 = .ok (.iload 6, 2) := by decide +kernel
theorem dX7_isLeft_40 : decode cX7_isLeft 40 = .ok (.iadd, 1) := by decide +kernel
theorem dX7_isLeft_41 : decode cX7_isLeft 41 = .ok (.invokevirtual 258, 3) := by decide +kernel
theorem dX7_isLeft_44 : decode cX7_isLeft 44 = .ok (.iload 6, 2) := by decide +kernel
theorem dX7_isLeft_46 : decode cX7_isLeft 46 = .ok (.iload_n 3, 1) := by decide +kernel
theorem dX7_isLeft_47 : decode cX7_isLeft 47 = .ok (.if_icmp .ne 16, 3) := by decide +kernel
theorem dX7_isLeft_50 : decode cX7_isLeft 50 = .ok (.aload_n 0, 1) := by decide +kernel
theorem dX7_isLeft_51 : decode cX7_isLeft 51 = .ok (.getfield 31, 3) := by decide +kernel
theorem dX7_isLeft_54 : decode cX7_isLeft 54 = .ok (.iload 6, 2) := by decide +kernel
theorem dX7_isLeft_56 : decode cX7_isLeft 56 = .ok (.iaload, 1) := by decide +kernel
theorem dX7_isLeft_57 : decode cX7_isLeft 57 = .ok (.iload 4, 2) := by decide +kernel
theorem dX7_isLeft_59 : decode cX7_isLeft 59 = .ok (.isub, 1) := by decide +kernel
theorem dX7_isLeft_60 : decode cX7_isLeft 60 = .ok (.goto 10, 3) := by decide +kernel
theorem dX7_isLeft_63 : decode cX7_isLeft 63 = .ok (.aload_n 0, 1) := by decide +kernel
theorem dX7_isLeft_64 : decode cX7_isLeft 64 = .ok (.getfield 31, 3) := by decide +kernel
theorem dX7_isLeft_67 : decode cX7_isLeft 67 = .ok (.iload 6, 2) := by decide +kernel
theorem dX7_isLeft_69 : decode cX7_isLeft 69 = .ok (.iaload, 1) := by decide +kernel
theorem dX7_isLeft_70 : decode cX7_isLeft 70 = .ok (.if_icmp .ne 7, 3) := by decide +kernel
theorem dX7_isLeft_73 : decode cX7_isLeft 73 = .ok (.iconst 1, 1) := by decide +kernel
theorem dX7_isLeft_74 : decode cX7_isLeft 74 = .ok (.goto 4, 3) := by decide +kernel
theorem dX7_isLeft_77 : decode cX7_isLeft 77 = .ok (.iconst 0, 1) := by decide +kernel
theorem dX7_isLeft_78 : decode cX7_isLeft 78 = .ok (.istore 5, 2) := by decide +kernel
theorem dX7_isLeft_80 : decode cX7_isLeft 80 = .ok (.iinc 6 1, 3) := by decide +kernel
theorem dX7_isLeft_83 : decode cX7_isLeft 83 = .ok (.goto (-62), 3) := by decide +kernel
theorem dX7_isLeft_86 : decode cX7_isLeft 86 = .ok (.iload 5, 2) := by decide +kernel
theorem dX7_isLeft_88 : decode cX7_isLeft 88 = .ok (.ireturn, 1) := by decide +kernel
theorem dX7_from_0 : decode cX7_from 0 = .ok (.aload_n 0, 1) := by decide +kernel
theorem dX7_from_1 : decode cX7_from 1 = .ok (.getfield 177, 3) := by decide +kernel
theorem dX7_from_4 : decode cX7_from 4 = .ok (.ifCond .ne 6, 3) := by decide +kernel
theorem dX7_from_7 : decode cX7_from 7 = .ok (.ldc 201, 2) := by decide +kernel
theorem dX7_from_9 : decode cX7_from 9 = .ok (.ireturn, 1) := by decide +kernel
theorem dX7_from_10 : decode cX7_from 10 = .ok (.iload_n 1, 1) := by decide +kernel
theorem dX7_from_11 : decode cX7_from 11 = .ok (.invokestatic 89, 3) := by decide +kernel
theorem dX7_from_14 : decode cX7_from 14 = .ok (.ifCond .eq 12, 3) := by decide +kernel
theorem dX7_from_17 : decode cX7_from 17 = .ok (.iload_n 3, 1) := by decide +kernel
theorem dX7_from_18 : decode cX7_from 18 = .ok (.iconst 0, 1) := by decide +kernel
theorem dX7_from_19 : decode cX7_from 19 = .ok (.iconst 1, 1) := by decide +kernel
theorem dX7_from_20 : decode cX7_from 20 = .ok (.invokestatic 85, 3) := by decide +kernel
theorem dX7_from_23 : decode cX7_from 23 = .ok (.ifCond .ne 6, 3) := by decide +kernel
theorem dX7_from_26 : decode cX7_from 26 = .ok (.ldc 93, 2) := by decide +kernel
theorem dX7_from_28 : decode cX7_from 28 = .ok (.ireturn, 1) := by decide +kernel
theorem dX7_from_29 : decode cX7_from 29 = .ok (.aload_n 0, 1) := by decide +kernel
theorem dX7_from_30 : decode cX7_from 30 = .ok (.getfield 7, 3) := by decide +kernel
theorem dX7_from_33 : decode cX7_from 33 = .ok (.iload_n 1, 1) := by decide +kernel
theorem dX7_from_34 : decode cX7_from 34 = .ok (.iaload, 1) := by decide +kernel
theorem dX7_from_35 : decode cX7_from 35 = .ok (.ifCond .ge 9, 3) := by decide +kernel
theorem dX7_from_38 : decode cX7_from 38 = .ok (.aload_n 0, 1) := by decide +kernel
theorem dX7_from_39 : decode cX7_from 39 = .ok (.iconst 1, 1) := by decide +kernel
theorem dX7_from_40 : decode cX7_from 40 = .ok (.invokevirtual 94, 3) := by decide +kernel
theorem dX7_from_43 : decode cX7_from 43 = .ok (.ireturn, 1) := by decide +kernel
theorem dX7_from_44 : decode cX7_from 44 = .ok (.aload_n 0, 1) := by decide +kernel
theorem dX7_from_45 : decode cX7_from 45 = .ok (.iload_n 1, 1) := by decide +kernel
theorem dX7_from_46 : decode cX7_from 46 = .ok (.iload_n 2, 1) := by decide +kernel
theorem dX7_from_47 : decode cX7_from 47 = .ok (.aload_n 0, 1) := by decide +kernel
theorem dX7_from_48 : decode cX7_from 48 = .ok (.getfield 177, 3) := by decide +kernel
theorem dX7_from_51 : decode cX7_from 51 = .ok (.invokevirtual 105, 3) := by decide +kernel
theorem dX7_from_54 : decode cX7_from 54 = .ok (.ifCond .ne 9, 3) := by decide +kernel
theorem dX7_from_57 : decode cX7_from 57 = .ok (.aload_n 0, 1) := by decide +kernel
theorem dX7_from_58 : decode cX7_from 58 = .ok (.iconst 2, 1) := by decide +kernel
theorem dX7_from_59 : decode cX7_from 59 = .ok (.invokevirtual 94, 3) := by decide +kernel
theorem dX7_from_62 : decode cX7_from 62 = .ok (.ireturn, 1) := by decide +kernel
theorem dX7_from_63 : decode cX7_from 63 = .ok (.iconst 0, 1) := by decide +kernel
theorem dX7_from_64 : decode cX7_from 64 = .ok (.istore 4, 2) := by decide +kernel
theorem dX7_from_66 : decode cX7_from 66 = .ok (.ldc 150, 2) := by decide +kernel
theorem dX7_from_68 : decode cX7_from 68 = .ok (.istore 5, 2) := by decide +kernel
theorem dX7_from_70 : decode cX7_from 70 = .ok (.iconst 0, 1) := by decide +kernel
theorem dX7_from_71 : decode cX7_from 71 = .ok (.istore 6, 2) := by decide +kernel
theorem dX7_from_73 : decode cX7_from 73 = .ok (.iload 6, 2) := by decide +kernel
theorem dX7_from_75 : decode cX7_from 75 = .ok (.aload_n 0, 1) := by decide +kernel
theorem dX7_from_76 : decode cX7_from 76 = .ok (.getfield 183, 3) := by decide +kernel
theorem dX7_from_79 : decode cX7_from 79 = .ok (.if_icmp .ge 89, 3) := by decide +kernel
theorem dX7_from_82 : decode cX7_from 82 = .ok (.iconst 0, 1) := by decide +kernel
theorem dX7_from_83 : decode cX7_from 83 = .ok (.istore 7, 2) := by decide +kernel
theorem dX7_from_85 : decode cX7_from 85 = .ok (.iload 7, 2) := by decide +kernel
theorem dX7_from_87 : decode cX7_from 87 = .ok (.aload_n 0, 1) := by decide +kernel
theorem dX7_from_88 : decode cX7_from 88 = .ok (.getfield 177, 3) := by decide +kernel
theorem dX7_from_91 : decode cX7_from 91 = .ok (.if_icmp .ge 71, 3) := by decide +kernel
theorem dX7_from_94 : decode cX7_from 94 = .ok (.iconst 1, 1) := by decide +kernel
theorem dX7_from_95 : decode cX7_from 95 = .ok (.istore 8, 2) := by decide +kernel
theorem dX7_from_97 : decode cX7_from 97 = .ok (.iload 8, 2) := by decide +kernel
theorem dX7_from_99 : decode cX7_from 99 = .ok (.bipush 30, 2) := by decide +kernel
theorem dX7_from_101 : decode cX7_from 101 = .ok (.if_icmp .gt 55, 3) := by decide +kernel
theorem dX7_from_104 : decode cX7_from 104 = .ok (.aload_n 0, 1) := by decide +kernel
theorem dX7_from_105 : decode cX7_from 105 = .ok (.iload_n 1, 1) := by decide +kernel
theorem dX7_from_106 : decode cX7_from 106 = .ok (.iload_n 2, 1) := by decide +kernel
theorem dX7_from_107 : decode cX7_from 107 = .ok (.iload 7, 2) := by decide +kernel
theorem dX7_from_109 : decode cX7_from 109 = .ok (.aload_n 0, 1) := by decide +kernel
theorem dX7_from_110 : decode cX7_from 110 = .ok (.aload_n 0, 1) := by decide +kernel
theorem dX7_from_111 : decode cX7_from 111 = .ok (.getfield 31, 3) := by decide +kernel
theorem dX7_from_114 : decode cX7_from 114 = .ok (.iload 6, 2) := by decide +kernel
theorem dX7_from_116 : decode cX7_from 116 = .ok (.iload 8, 2) := by decide +kernel
theorem dX7_from_118 : decode cX7_from 118 = .ok (.invokevirtual 210, 3) := by decide +kernel
theorem dX7_from_121 : decode cX7_from 121 = .ok (.invokevirtual 264, 3) := by decide +kernel
theorem dX7_from_124 : decode cX7_from 124 = .ok (.ifCond .eq 26, 3) := by decide +kernel
theorem dX7_from_127 : decode cX7_from 127 = .ok (.iload 4, 2) := by decide +kernel
theorem dX7_from_129 : decode cX7_from 129 = .ok (.ifCond .ne 14, 3) := by decide +kernel
theorem dX7_from_132 : decode cX7_from 132 = .ok (.bipush 10, 2) := by decide +kernel
theorem dX7_from_134 : decode cX7_from 134 = .ok (.iload 6, 2) := by decide +kernel
theorem dX7_from_136 : decode cX7_from 136 = .ok (.imul, 1) := by decide +kernel
theorem dX7_from_137 : decode cX7_from 137 = .ok (.iload 7, 2) := by decide +kernel
theorem dX7_from_139 : decode cX7_from 139 = .ok (.iadd, 1) := by decide +kernel
theorem dX7_from_140 : decode cX7_from 140 = .ok (.goto 5, 3) := by decide +kernel
theorem dX7_from_143 : decode cX7_from 143 = .ok (.iload 5, 2) := by decide +kernel
theorem dX7_from_145 : decode cX7_from 145 = .ok (.istore 5, 2) := by decide +kernel
theorem dX7_from_147 : decode cX7_from 147 = .ok (.iinc 4 1, 3) := by decide +kernel
theorem dX7_from_150 : decode cX7_from 150 = .ok (.iinc 8 1, 3) := by decide +kernel
theorem dX7_from_153 : decode cX7_from 153 = .ok (.goto (-56), 3) := by decide +kernel
theorem dX7_from_156 : decode cX7_from 156 = .ok (.iinc 7 1, 3) := by decide +kernel
theorem dX7_from_159 : decode cX7_from 159 = .ok (.goto (-74), 3) := by decide +kernel
theorem dX7_from_162 : decode cX7_from 162 = .ok (.iinc 6 1, 3) := by decide +kernel
theorem dX7_from_165 : decode cX7_from 165 = .ok (.goto (-92), 3) := by decide +kernel
theorem dX7_from_168 : decode cX7_from 168 = .ok (.aload_n 0, 1) := by decide +kernel
theorem dX7_from_169 : decode cX7_from 169 = .ok (.iload_n 3, 1) := by decide +kernel
theorem dX7_from_170 : decode cX7_from 170 = .ok (.ifCond .ne 8, 3) := by decide +kernel
theorem dX7_from_173 : decode cX7_from 173 = .ok (.iload 4, 2) := by decide +kernel
theorem dX7_from_175 : decode cX7_from 175 = .ok (.goto 5, 3) := by decide +kernel
theorem dX7_from_178 : decode cX7_from 178 = .ok (.iload 5, 2) := by decide +kernel
theorem dX7_from_180 : decode cX7_from 180 = .ok (.invokevirtual 98, 3) := by decide +kernel
theorem dX7_from_183 : decode cX7_from 183 = .ok (.ireturn, 1) := by decide +kernel
theorem dX7_who_0 : decode cX7_who 0 = .ok (.aload_n 0, 1) := by decide +kernel
theorem dX7_who_1 : decode cX7_who 1 = .ok (.iload_n 1, 1) := by decide +kernel
theorem dX7_who_2 : decode cX7_who 2 = .ok (.invokevirtual 217, 3) := by decide +kernel
theorem dX7_who_5 : decode cX7_who 5 = .ok (.ifCond .eq 21, 3) := by decide +kernel
theorem dX7_who_8 : decode cX7_who 8 = .ok (.iload_n 2, 1) := by decide +kernel
theorem dX7_who_9 : decode cX7_who 9 = .ok (.invokestatic 89, 3) := by decide +kernel
theorem dX7_who_12 : decode cX7_who 12 = .ok (.ifCond .eq 14, 3) := by decide +kernel
theorem dX7_who_15 : decode cX7_who 15 = .ok (.iload 4, 2) := by decide +kernel
theorem dX7_who_17 : decode cX7_who 17 = .ok (.iconst 1, 1) := by decide +kernel
theorem dX7_who_18 : decode cX7_who 18 = .ok (.bipush 8, 2) := by decide +kernel
theorem dX7_who_20 : decode cX7_who 20 = .ok (.invokestatic 85, 3) := by decide +kernel
theorem dX7_who_23 : decode cX7_who 23 = .ok (.ifCond .ne 6, 3) := by decide +kernel
theorem dX7_who_26 : decode cX7_who 26 = .ok (.ldc 93, 2) := by decide +kernel
theorem dX7_who_28 : decode cX7_who 28 = .ok (.ireturn, 1) := by decide +kernel
theorem dX7_who_29 : decode cX7_who 29 = .ok (.aload_n 0, 1) := by decide +kernel
theorem dX7_who_30 : decode cX7_who 30 = .ok (.getfield 7, 3) := by decide +kernel
theorem dX7_who_33 : decode cX7_who 33 = .ok (.iload_n 2, 1) := by decide +kernel
theorem dX7_who_34 : decode cX7_who 34 = .ok (.iaload, 1) := by decide +kernel
theorem dX7_who_35 : decode cX7_who 35 = .ok (.ifCond .ge 9, 3) := by decide +kernel
theorem dX7_who_38 : decode cX7_who 38 = .ok (.aload_n 0, 1) := by decide +kernel
theorem dX7_who_39 : decode cX7_who 39 = .ok (.iconst 1, 1) := by decide +kernel
theorem dX7_who_40 : decode cX7_who 40 = .ok (.invokevirtual 94, 3) := by decide +kernel
theorem dX7_who_43 : decode cX7_who 43 = .ok (.ireturn, 1) := by decide +kernel
theorem dX7_who_44 : decode cX7_who 44 = .ok (.aload_n 0, 1) := by decide +kernel
theorem dX7_who_45 : decode cX7_who 45 = .ok (.iload_n 2, 1) := by decide +kernel
theorem dX7_who_46 : decode cX7_who 46 = .ok (.iload_n 3, 1) := by decide +kernel
theorem dX7_who_47 : decode cX7_who 47 = .ok (.iconst 2, 1) := by decide +kernel
theorem dX7_who_48 : decode cX7_who 48 = .ok (.iload 4, 2) := by decide +kernel
theorem dX7_who_50 : decode cX7_who 50 = .ok (.imul, 1) := by decide +kernel
theorem dX7_who_51 : decode cX7_who 51 = .ok (.invokevirtual 105, 3) := by decide +kernel
theorem dX7_who_54 : decode cX7_who 54 = .ok (.ifCond .ne 9, 3) := by decide +kernel
theorem dX7_who_57 : decode cX7_who 57 = .ok (.aload_n 0, 1) := by decide +kernel
theorem dX7_who_58 : decode cX7_who 58 = .ok (.iconst 2, 1) := by decide +kernel
theorem dX7_who_59 : decode cX7_who 59 = .ok (.invokevirtual 94, 3) := by decide +kernel
theorem dX7_who_62 : decode cX7_who 62 = .ok (.ireturn, 1) := by decide +kernel
theorem dX7_who_63 : decode cX7_who 63 = .ok (.iconst 0, 1) := by decide +kernel
theorem dX7_who_64 : decode cX7_who 64 = .ok (.istore 5, 2) := by decide +kernel
theorem dX7_who_66 : decode cX7_who 66 = .ok (.iload 5, 2) := by decide +kernel
theorem dX7_who_68 : decode cX7_who 68 = .ok (.iload 4, 2) := by decide +kernel
theorem dX7_who_70 : decode cX7_who 70 = .ok (.if_icmp .ge 32, 3) := by decide +kernel
theorem dX7_who_73 : decode cX7_who 73 = .ok (.aload_n 0, 1) := by decide +kernel
theorem dX7_who_74 : decode cX7_who 74 = .ok (.iload_n 2, 1) := by decide +kernel
theorem dX7_who_75 : decode cX7_who 75 = .ok (.iload_n 3, 1) := by decide +kernel
theorem dX7_who_76 : decode cX7_who 76 = .ok (.iconst 2, 1) := by decide +kernel
theorem dX7_who_77 : decode cX7_who 77 = .ok (.iload 5, 2) := by decide +kernel
theorem dX7_who_79 : decode cX7_who 79 = .ok (.imul, 1) := by decide +kernel
theorem dX7_who_80 : decode cX7_who 80 = .ok (.iadd, 1) := by decide +kernel
theorem dX7_who_81 : decode cX7_who 81 = .ok (.invokevirtual 258, 3) := by decide +kernel
theorem dX7_who_84 : decode cX7_who 84 = .ok (.iconst 1, 1) := by decide +kernel
theorem dX7_who_85 : decode cX7_who 85 = .ok (.bipush 30, 2) := by decide +kernel
theorem dX7_who_87 : decode cX7_who 87 = .ok (.invokestatic 85, 3) := by decide +kernel
theorem dX7_who_90 : decode cX7_who 90 = .ok (.ifCond .ne 6, 3) := by decide +kernel
theorem dX7_who_93 : decode cX7_who 93 = .ok (.ldc 93, 2) := by decide +kernel
theorem dX7_who_95 : decode cX7_who 95 = .ok (.ireturn, 1) := by decide +kernel
theorem dX7_who_96 : decode cX7_who 96 = .ok (.iinc 5 1, 3) := by decide +kernel
theorem dX7_who_99 : decode cX7_who 99 = .ok (.goto (-33), 3) := by decide +kernel
theorem dX7_who_102 : decode cX7_who 102 = .ok (.iconst 0, 1) := by decide +kernel
theorem dX7_who_103 : decode cX7_who 103 = .ok (.istore 5, 2) := by decide +kernel
theorem dX7_who_105 : decode cX7_who 105 = .ok (.iconst 1, 1) := by decide +kernel
theorem dX7_who_106 : decode cX7_who 106 = .ok (.istore 6, 2) := by decide +kernel
theorem dX7_who_108 : decode cX7_who 108 = .ok (.iload 6, 2) := by decide +kernel
theorem dX7_who_110 : decode cX7_who 110 = .ok (.iconst 5, 1) := by decide +kernel
theorem dX7_who_111 : decode cX7_who 111 = .ok (.if_icmp .gt 104, 3) := by decide +kernel
theorem dX7_who_114 : decode cX7_who 114 = .ok (.iconst 1, 1) := by decide +kernel
theorem dX7_who_115 : decode cX7_who 115 = .ok (.istore 7, 2) := by decide +kernel
theorem dX7_who_117 : decode cX7_who 117 = .ok (.iconst 0, 1) := by decide +kernel
theorem dX7_who_118 : decode cX7_who 118 = .ok (.istore 8, 2) := by decide +kernel
theorem dX7_who_120 : decode cX7_who 120 = .ok (.iload 8, 2) := by decide +kernel
theorem dX7_who_122 : decode cX7_who 122 = .ok (.iload 4, 2) := by decide +kernel
theorem dX7_who_124 : decode cX7_who 124 = .ok (.if_icmp .ge 67, 3) := by decide +kernel
theorem dX7_who_127 : decode cX7_who 127 = .ok (.iload 7, 2) := by decide +kernel
theorem dX7_who_129 : decode cX7_who 129 = .ok (.ifCond .eq 53, 3) := by decide +kernel
theorem dX7_who_132 : decode cX7_who 132 = .ok (.aload_n 0, 1) := by decide +kernel
theorem dX7_who_133 : decode cX7_who 133 = .ok (.iload 6, 2) := by decide +kernel
theorem dX7_who_135 : decode cX7_who 135 = .ok (.aload_n 0, 1) := by decide +kernel
theorem dX7_who_136 : decode cX7_who 136 = .ok (.getfield 25, 3) := by decide +kernel
theorem dX7_who_139 : decode cX7_who 139 = .ok (.iload_n 1, 1) := by decide +kernel
theorem dX7_who_140 : decode cX7_who 140 = .ok (.iaload, 1) := by decide +kernel
theorem dX7_who_141 : decode cX7_who 141 = .ok (.aload_n 0, 1) := by decide +kernel
theorem dX7_who_142 : decode cX7_who 142 = .ok (.iload_n 2, 1) := by decide +kernel
theorem dX7_who_143 : decode cX7_who 143 = .ok (.iload_n 3, 1) := by decide +kernel
theorem dX7_who_144 : decode cX7_who 144 = .ok (.iconst 2, 1) := by decide +kernel
theorem dX7_who_145 : decode cX7_who 145 = .ok (.iload 8, 2) := by decide +kernel
theorem dX7_who_147 : decode cX7_who 147 = .ok (.imul, 1) := by decide +kernel
theorem dX7_who_148 : decode cX7_who 148 = .ok (.iadd, 1) := by decide +kernel
theorem dX7_who_149 : decode cX7_who 149 = .ok (.invokevirtual 258, 3) := by decide +kernel
theorem dX7_who_152 : decode cX7_who 152 = .ok (.aload_n 0, 1) := by decide +kernel
theorem dX7_who_153 : decode cX7_who 153 = .ok (.getfield 31, 3) := by decide +kernel
theorem dX7_who_156 : decode cX7_who 156 = .ok (.bipush 13, 2) := by decide +kernel
theorem dX7_who_158 : decode cX7_who 158 = .ok (.iaload, 1) := by decide +kernel
theorem dX7_who_159 : decode cX7_who 159 = .ok (.invokevirtual 206, 3) := by decide +kernel
theorem dX7_who_162 : decode cX7_who 162 = .ok (.aload_n 0, 1) := by decide +kernel
theorem dX7_who_163 : decode cX7_who 163 = .ok (.iload_n 2, 1) := by decide +kernel
theorem dX7_who_164 : decode cX7_who 164 = .ok (.iload_n 3, 1) := by decide +kernel
theorem dX7_who_165 : decode cX7_who 165 = .ok (.iconst 2, 1) := by decide +kernel
theorem dX7_who_166 : decode cX7_who 166 = .ok (.iload 8, 2) := by decide +kernel
theorem dX7_who_168 : decode cX7_who 168 = .ok (.imul, 1) := by decide +kernel
theorem dX7_who_169 : decode cX7_who 169 = .ok (.iadd, 1) := by decide +kernel
theorem dX7_who_170 : decode cX7_who 170 = .ok (.iconst 1, 1) := by decide +kernel
theorem dX7_who_171 : decode cX7_who 171 = .ok (.iadd, 1) := by decide +kernel
theorem dX7_who_172 : decode cX7_who 172 = .ok (.invokevirtual 258, 3) := by decide +kernel
theorem dX7_who_175 : decode cX7_who 175 = .ok (.if_icmp .ne 7, 3) := by decide +kernel
theorem dX7_who_178 : decode cX7_who 178 = .ok (.iconst 1, 1) := by decide +kernel
theorem dX7_who_179 : decode cX7_who 179 = .ok (.goto 4, 3) := by decide +kernel
theorem dX7_who_182 : decode cX7_who 182 = .ok (.iconst 0, 1) := by decide +kernel
theorem dX7_who_183 : decode cX7_who 183 = .ok (.istore 7, 2) := by decide +kernel
theorem dX7_who_185 : decode cX7_who 185 = .ok (.iinc 8 1, 3) := by decide +kernel
theorem dX7_who_188 : decode cX7_who 188 = .ok (.goto (-68), 3) := by decide +kernel
theorem dX7_who_191 : decode cX7_who 191 = .ok (.iload 5, 2) := by decide +kernel
theorem dX7_who_193 : decode cX7_who 193 = .ok (.iload 7, 2) := by decide +kernel
theorem dX7_who_195 : decode cX7_who 195 = .ok (.ifCond .eq 10, 3) := by decide +kernel
theorem dX7_who_198 : decode cX7_who 198 = .ok (.iconst 1, 1) := by decide +kernel
theorem dX7_who_199 : decode cX7_who 199 = .ok (.iload 6, 2) := by decide +kernel
theorem dX7_who_201 : decode cX7_who 201 = .ok (.ishl, 1) := by decide +kernel
theorem dX7_who_202 : decode cX7_who 202 = .ok (.goto 4, 3) := by decide +kernel
theorem dX7_who_205 : decode cX7_who 205 = .ok (.iconst 0, 1) := by decide +kernel
theorem dX7_who_206 : decode cX7_who 206 = .ok (.ior, 1) := by decide +kernel
theorem dX7_who_207 : decode cX7_who 207 = .ok (.istore 5, 2) := by decide +kernel
theorem dX7_who_209 : decode cX7_who 209 = .ok (.iinc 6 1, 3) := by decide +kernel
theorem dX7_who_212 : decode cX7_who 212 = .ok (.goto (-104), 3) := by decide +kernel
theorem dX7_who_215 : decode cX7_who 215 = .ok (.aload_n 0, 1) := by decide +kernel
theorem dX7_who_216 : decode cX7_who 216 = .ok (.iload 5, 2) := by decide +kernel
theorem dX7_who_218 : decode cX7_who 218 = .ok (.invokevirtual 98, 3) := by decide +kernel
theorem dX7_who_221 : decode cX7_who 221 = .ok (.ireturn, 1) := by decide +kernel
theorem dX7_layer_0 : decode cX7_layer 0 = .ok (.aload_n 0, 1) := by decide +kernel
theorem dX7_layer_1 : decode cX7_layer 1 = .ok (.iload_n 1, 1) := by decide +kernel
theorem dX7_layer_2 : decode cX7_layer 2 = .ok (.invokevirtual 220, 3) := by decide +kernel
theorem dX7_layer_5 : decode cX7_layer 5 = .ok (.ifCond .ne 6, 3) := by decide +kernel
theorem dX7_layer_8 : decode cX7_layer 8 = .ok (.ldc 93, 2) := by decide +kernel
theorem dX7_layer_10 : decode cX7_layer 10 = .ok (.ireturn, 1) := by decide +kernel
theorem dX7_layer_11 : decode cX7_layer 11 = .ok (.iconst 0, 1) := by decide +kernel
theorem dX7_layer_12 : decode cX7_layer 12 = .ok (.istore_n 2, 1) := by decide +kernel
theorem dX7_layer_13 : decode cX7_layer 13 = .ok (.iload_n 2, 1) := by decide +kernel
theorem dX7_layer_14 : decode cX7_layer 14 = .ok (.iload_n 1, 1) := by decide +kernel
theorem dX7_layer_15 : decode cX7_layer 15 = .ok (.if_icmp .gt 72, 3) := by decide +kernel
theorem dX7_layer_18 : decode cX7_layer 18 = .ok (.iconst (-1), 1) := by decide +kernel
theorem dX7_layer_19 : decode cX7_layer 19 = .ok (.istore_n 3, 1) := by decide +kernel
theorem dX7_layer_20 : decode cX7_layer 20 = .ok (.iconst 0, 1) := by decide +kernel
theorem dX7_layer_21 : decode cX7_layer 21 = .ok (.istore 4, 2) := by decide +kernel
theorem dX7_layer_23 : decode cX7_layer 23 = .ok (.iload 4, 2) := by decide +kernel
theorem dX7_layer_25 : decode cX7_layer 25 = .ok (.iload_n 2, 1) := by decide +kernel
theorem dX7_layer_26 : decode cX7_layer 26 = .ok (.if_icmp .ge 46, 3) := by decide +kernel
theorem dX7_layer_29 : decode cX7_layer 29 = .ok (.aload_n 0, 1) := by decide +kernel
theorem dX7_layer_30 : decode cX7_layer 30 = .ok (.getfield 22, 3) := by decide +kernel
theorem dX7_layer_33 : decode cX7_layer 33 = .ok (.iload_n 2, 1) := by decide +kernel
theorem dX7_layer_34 : decode cX7_layer 34 = .ok (.iaload, 1) := by decide +kernel
theorem dX7_layer_35 : decode cX7_layer 35 = .ok (.iload 4, 2) := by decide +kernel
theorem dX7_layer_37 : decode cX7_layer 37 = .ok (.invokestatic 146, 3) := by decide +kernel
theorem dX7_layer_40 : decode cX7_layer 40 = .ok (.ifCond .eq 24, 3) := by decide +kernel
theorem dX7_layer_43 : decode cX7_layer 43 = .ok (.aload_n 0, 1) := by decide +kernel
theorem dX7_layer_44 : decode cX7_layer 44 = .ok (.getfield 55, 3) := by decide +kernel
theorem dX7_layer_47 : decode cX7_layer 47 = .ok (.iload 4, 2) := by decide +kernel
theorem dX7_layer_49 : decode cX7_layer 49 = .ok (.iaload, 1) := by decide +kernel
theorem dX7_layer_50 : decode cX7_layer 50 = .ok (.iload_n 3, 1) := by decide +kernel
theorem dX7_layer_51 : decode cX7_layer 51 = .ok (.if_icmp .le 13, 3) := by decide +kernel
theorem dX7_layer_54 : decode cX7_layer 54 = .ok (.aload_n 0, 1) := by decide +kernel
theorem dX7_layer_55 : decode cX7_layer 55 = .ok (.getfield 55, 3) := by decide +kernel
theorem dX7_layer_58 : decode cX7_layer 58 = .ok (.iload 4, 2) := by decide +kernel
theorem dX7_layer_60 : decode cX7_layer 60 = .ok (.iaload, 1) := by decide +kernel
theorem dX7_layer_61 : decode cX7_layer 61 = .ok (.goto 4, 3) := by decide +kernel
theorem dX7_layer_64 : decode cX7_layer 64 = .ok (.iload_n 3, 1) := by decide +kernel
theorem dX7_layer_65 : decode cX7_layer 65 = .ok (.istore_n 3, 1) := by decide +kernel
theorem dX7_layer_66 : decode cX7_layer 66 = .ok (.iinc 4 1, 3) := by decide +kernel
theorem dX7_layer_69 : decode cX7_layer 69 = .ok (.goto (-46), 3) := by decide +kernel
theorem dX7_layer_72 : decode cX7_layer 72 = .ok (.aload_n 0, 1) := by decide +kernel
theorem dX7_layer_73 : decode cX7_layer 73 = .ok (.getfield 55, 3) := by decide +kernel
theorem dX7_layer_76 : decode cX7_layer 76 = .ok (.iload_n 2, 1) := by decide +kernel
theorem dX7_layer_77 : decode cX7_layer 77 = .ok (.iload_n 3, 1) := by decide +kernel
theorem dX7_layer_78 : decode cX7_layer 78 = .ok (.iconst 1, 1) := by decide +kernel
theorem dX7_layer_79 : decode cX7_layer 79 = .ok (.iadd, 1) := by decide +kernel
theorem dX7_layer_80 : decode cX7_layer 80 = .ok (.iastore, 1) := by decide +kernel
theorem dX7_layer_81 : decode cX7_layer 81 = .ok (.iinc 2 1, 3) := by decide +kernel
theorem dX7_layer_84 : decode cX7_layer 84 = .ok (.goto (-71), 3) := by decide +kernel
theorem dX7_layer_87 : decode cX7_layer 87 = .ok (.aload_n 0, 1) := by decide +kernel
theorem dX7_layer_88 : decode cX7_layer 88 = .ok (.getfield 55, 3) := by decide +kernel
theorem dX7_layer_91 : decode cX7_layer 91 = .ok (.iload_n 1, 1) := by decide +kernel
theorem dX7_layer_92 : decode cX7_layer 92 = .ok (.iaload, 1) := by decide +kernel
theorem dX7_layer_93 : decode cX7_layer 93 = .ok (.ireturn, 1) := by decide +kernel
theorem dX7_longest_0 : decode cX7_longest 0 = .ok (.aload_n 0, 1) := by decide +kernel
theorem dX7_longest_1 : decode cX7_longest 1 = .ok (.iload_n 1, 1) := by decide +kernel
theorem dX7_longest_2 : decode cX7_longest 2 = .ok (.invokevirtual 217, 3) := by decide +kernel
theorem dX7_longest_5 : decode cX7_longest 5 = .ok (.ifCond .eq 12, 3) := by decide +kernel
theorem dX7_longest_8 : decode cX7_longest 8 = .ok (.iload_n 2, 1) := by decide +kernel
theorem dX7_longest_9 : decode cX7_longest 9 = .ok (.iconst 0, 1) := by decide +kernel
theorem dX7_longest_10 : decode cX7_longest 10 = .ok (.iconst 1, 1) := by decide +kernel
theorem dX7_longest_11 : decode cX7_longest 11 = .ok (.invokestatic 85, 3) := by decide +kernel
theorem dX7_longest_14 : decode cX7_longest 14 = .ok (.ifCond .ne 6, 3) := by decide +kernel
theorem dX7_longest_17 : decode cX7_longest 17 = .ok (.ldc 93, 2) := by decide +kernel
theorem dX7_longest_19 : decode cX7_longest 19 = .ok (.ireturn, 1) := by decide +kernel
theorem dX7_longest_20 : decode cX7_longest 20 = .ok (.iconst 0, 1) := by decide +kernel
theorem dX7_longest_21 : decode cX7_longest 21 = .ok (.istore_n 3, 1) := by decide +kernel
theorem dX7_longest_22 : decode cX7_longest 22 = .ok (.iconst (-1), 1) := by decide +kernel
theorem dX7_longest_23 : decode cX7_longest 23 = .ok (.istore 4, 2) := by decide +kernel
theorem dX7_longest_25 : decode cX7_longest 25 = .ok (.iconst 0, 1) := by decide +kernel
theorem dX7_longest_26 : decode cX7_longest 26 = .ok (.istore 5, 2) := by decide +kernel
theorem dX7_longest_28 : decode cX7_longest 28 = .ok (.iload 5, 2) := by decide +kernel
theorem dX7_longest_30 : decode cX7_longest 30 = .ok (.aload_n 0, 1) := by decide +kernel
theorem dX7_longest_31 : decode cX7_longest 31 = .ok (.getfield 177, 3) := by decide +kernel
theorem dX7_longest_34 : decode cX7_longest 34 = .ok (.if_icmp .ge 78, 3) := by decide +kernel
theorem dX7_longest_37 : decode cX7_longest 37 = .ok (.iconst 0, 1) := by decide +kernel
theorem dX7_longest_38 : decode cX7_longest 38 = .ok (.istore 6, 2) := by decide +kernel
theorem dX7_longest_40 : decode cX7_longest 40 = .ok (.iload 6, 2) := by decide +kernel
theorem dX7_longest_42 : decode cX7_longest 42 = .ok (.bipush 30, 2) := by decide +kernel
theorem dX7_longest_44 : decode cX7_longest 44 = .ok (.if_icmp .ge 32, 3) := by decide +kernel
theorem dX7_longest_47 : decode cX7_longest 47 = .ok (.aload_n 0, 1) := by decide +kernel
theorem dX7_longest_48 : decode cX7_longest 48 = .ok (.aload_n 0, 1) := by decide +kernel
theorem dX7_longest_49 : decode cX7_longest 49 = .ok (.getfield 31, 3) := by decide +kernel
theorem dX7_longest_52 : decode cX7_longest 52 = .ok (.iload_n 1, 1) := by decide +kernel
theorem dX7_longest_53 : decode cX7_longest 53 = .ok (.iload 6, 2) := by decide +kernel
theorem dX7_longest_55 : decode cX7_longest 55 = .ok (.iconst 1, 1) := by decide +kernel
theorem dX7_longest_56 : decode cX7_longest 56 = .ok (.iadd, 1) := by decide +kernel
theorem dX7_longest_57 : decode cX7_longest 57 = .ok (.invokevirtual 210, 3) := by decide +kernel
theorem dX7_longest_60 : decode cX7_longest 60 = .ok (.aload_n 0, 1) := by decide +kernel
theorem dX7_longest_61 : decode cX7_longest 61 = .ok (.getfield 31, 3) := by decide +kernel
theorem dX7_longest_64 : decode cX7_longest 64 = .ok (.iload 5, 2) := by decide +kernel
theorem dX7_longest_66 : decode cX7_longest 66 = .ok (.iaload, 1) := by decide +kernel
theorem dX7_longest_67 : decode cX7_longest 67 = .ok (.if_icmp .gt 9, 3) := by decide +kernel
theorem dX7_longest_70 : decode cX7_longest 70 = .ok (.iinc 6 1, 3) := by decide +kernel
theorem dX7_longest_73 : decode cX7_longest 73 = .ok (.goto (-33), 3) := by decide +kernel
theorem dX7_longest_76 : decode cX7_longest 76 = .ok (.iload 6, 2) := by decide +kernel
theorem dX7_longest_78 : decode cX7_longest 78 = .ok (.iload 4, 2) := by decide +kernel
theorem dX7_longest_80 : decode cX7_longest 80 = .ok (.if_icmp .le 8, 3) := by decide +kernel
theorem dX7_longest_83 : decode cX7_longest 83 = .ok (.iload 5, 2) := by decide +kernel
theorem dX7_longest_85 : decode cX7_longest 85 = .ok (.goto 4, 3) := by decide +kernel
theorem dX7_longest_88 : decode cX7_longest 88 = .ok (.iload_n 3, 1) := by decide +kernel
theorem dX7_longest_89 : decode cX7_longest 89 = .ok (.istore_n 3, 1) := by decide +kernel
theorem dX7_longest_90 : decode cX7_longest 90 = .ok (.iload 6, 2) := by decide +kernel
theorem dX7_longest_92 : decode cX7_longest 92 = .ok (.iload 4, 2) := by decide +kernel
theorem dX7_longest_94 : decode cX7_longest 94 = .ok (.if_icmp .le 8, 3) := by decide +kernel
theorem dX7_longest_97 : decode cX7_longest 97 = .ok (.iload 6, 2) := by decide +kernel
theorem dX7_longest_99 : decode cX7_longest 99 = .ok (.goto 5, 3) := by decide +kernel
theorem dX7_longest_102 : decode cX7_longest 102 = .ok (.iload 4, 2) := by decide +kernel
theorem dX7_longest_104 : decode cX7_longest 104 = .ok (.istore 4, 2) := by decide +kernel
theorem dX7_longest_106 : decode cX7_longest 106 = .ok (.iinc 5 1, 3) := by decide +kernel
theorem dX7_longest_109 : decode cX7_longest 109 = .ok (.goto (-81), 3) := by decide +kernel
theorem dX7_longest_112 : decode cX7_longest 112 = .ok (.iload_n 2, 1) := by decide +kernel
theorem dX7_longest_113 : decode cX7_longest 113 = .ok (.ifCond .ne 8, 3) := by decide +kernel
theorem dX7_longest_116 : decode cX7_longest 116 = .ok (.iload 4, 2) := by decide +kernel
theorem dX7_longest_118 : decode cX7_longest 118 = .ok (.goto 4, 3) := by decide +kernel
theorem dX7_longest_121 : decode cX7_longest 121 = .ok (.iload_n 3, 1) := by decide +kernel
theorem dX7_longest_122 : decode cX7_longest 122 = .ok (.ireturn, 1) := by decide +kernel
theorem dX7_common_0 : decode cX7_common 0 = .ok (.lload_n 0, 1) := by decide +kernel
theorem dX7_common_1 : decode cX7_common 1 = .ok (.lstore 4, 2) := by decide +kernel
theorem dX7_common_3 : decode cX7_common 3 = .ok (.lload_n 2, 1) := by decide +kernel
theorem dX7_common_4 : decode cX7_common 4 = .ok (.lstore 6, 2) := by decide +kernel
theorem dX7_common_6 : decode cX7_common 6 = .ok (.lload 6, 2) := by decide +kernel
theorem dX7_common_8 : decode cX7_common 8 = .ok (.lconst 0, 1) := by decide +kernel
theorem dX7_common_9 : decode cX7_common 9 = .ok (.lcmp, 1) := by decide +kernel
theorem dX7_common_10 : decode cX7_common 10 = .ok (.ifCond .eq 21, 3) := by decide +kernel
theorem dX7_common_13 : decode cX7_common 13 = .ok (.lload 4, 2) := by decide +kernel
theorem dX7_common_15 : decode cX7_common 15 = .ok (.lload 6, 2) := by decide +kernel
theorem dX7_common_17 : decode cX7_common 17 = .ok (.lrem, 1) := by decide +kernel
theorem dX7_common_18 : decode cX7_common 18 = .ok (.lstore 8, 2) := by decide +kernel
theorem dX7_common_20 : decode cX7_common 20 = .ok (.lload 6, 2) := by decide +kernel
theorem dX7_common_22 : decode cX7_common 22 = .ok (.lstore 4, 2) := by decide +kernel
theorem dX7_common_24 : decode cX7_common 24 = .ok (.lload 8, 2) := by decide +kernel
theorem dX7_common_26 : decode cX7_common 26 = .ok (.lstore 6, 2) := by decide +kernel
theorem dX7_common_28 : decode cX7_common 28 = .ok (.goto (-22), 3) := by decide +kernel
theorem dX7_common_31 : decode cX7_common 31 = .ok (.lload 4, 2) := by decide +kernel
theorem dX7_common_33 : decode cX7_common 33 = .ok (.lreturn, 1) := by decide +kernel
theorem dX7_rains_0 : decode cX7_rains 0 = .ok (.aload_n 0, 1) := by decide +kernel
theorem dX7_rains_1 : decode cX7_rains 1 = .ok (.iload_n 1, 1) := by decide +kernel
theorem dX7_rains_2 : decode cX7_rains 2 = .ok (.invokevirtual 220, 3) := by decide +kernel
theorem dX7_rains_5 : decode cX7_rains 5 = .ok (.ifCond .eq 22, 3) := by decide +kernel
theorem dX7_rains_8 : decode cX7_rains 8 = .ok (.iload_n 2, 1) := by decide +kernel
theorem dX7_rains_9 : decode cX7_rains 9 = .ok (.iconst 0, 1) := by decide +kernel
theorem dX7_rains_10 : decode cX7_rains 10 = .ok (.bipush 10, 2) := by decide +kernel
theorem dX7_rains_12 : decode cX7_rains 12 = .ok (.invokestatic 85, 3) := by decide +kernel
theorem dX7_rains_15 : decode cX7_rains 15 = .ok (.ifCond .eq 12, 3) := by decide +kernel
theorem dX7_rains_18 : decode cX7_rains 18 = .ok (.iload_n 3, 1) := by decide +kernel
theorem dX7_rains_19 : decode cX7_rains 19 = .ok (.iconst 0, 1) := by decide +kernel
theorem dX7_rains_20 : decode cX7_rains 20 = .ok (.iconst 1, 1) := by decide +kernel
theorem dX7_rains_21 : decode cX7_rains 21 = .ok (.invokestatic 85, 3) := by decide +kernel
theorem dX7_rains_24 : decode cX7_rains 24 = .ok (.ifCond .ne 7, 3) := by decide +kernel
theorem dX7_rains_27 : decode cX7_rains 27 = .ok (.ldc2_w 268, 3) := by decide +kernel
theorem dX7_rains_30 : decode cX7_rains 30 = .ok (.lreturn, 1) := by decide +kernel
theorem dX7_rains_31 : decode cX7_rains 31 = .ok (.lconst 0, 1) := by decide +kernel
theorem dX7_rains_32 : decode cX7_rains 32 = .ok (.lstore 4, 2) := by decide +kernel
theorem dX7_rains_34 : decode cX7_rains 34 = .ok (.lconst 1, 1) := by decide +kernel
theorem dX7_rains_35 : decode cX7_rains 35 = .ok (.lstore 6, 2) := by decide +kernel
theorem dX7_rains_37 : decode cX7_rains 37 = .ok (.iconst 0, 1) := by decide +kernel
theorem dX7_rains_38 : decode cX7_rains 38 = .ok (.istore 8, 2) := by decide +kernel
theorem dX7_rains_40 : decode cX7_rains 40 = .ok (.iload 8, 2) := by decide +kernel
theorem dX7_rains_42 : decode cX7_rains 42 = .ok (.aload_n 0, 1) := by decide +kernel
theorem dX7_rains_43 : decode cX7_rains 43 = .ok (.getfield 177, 3) := by decide +kernel
theorem dX7_rains_46 : decode cX7_rains 46 = .ok (.if_icmp .ge 17, 3) := by decide +kernel
theorem dX7_rains_49 : decode cX7_rains 49 = .ok (.lload 6, 2) := by decide +kernel
theorem dX7_rains_51 : decode cX7_rains 51 = .ok (.ldc2_w 270, 3) := by decide +kernel
theorem dX7_rains_54 : decode cX7_rains 54 = .ok (.lmul, 1) := by decide +kernel
theorem dX7_rains_55 : decode cX7_rains 55 = .ok (.lstore 6, 2) := by decide +kernel
theorem dX7_rains_57 : decode cX7_rains 57 = .ok (.iinc 8 1, 3) := by decide +kernel
theorem dX7_rains_60 : decode cX7_rains 60 = .ok (.goto (-20), 3) := by decide +kernel
theorem dX7_rains_63 : decode cX7_rains 63 = .ok (.iconst 0, 1) := by decide +kernel
theorem dX7_rains_64 : decode cX7_rains 64 = .ok (.istore 8, 2) := by decide +kernel
theorem dX7_rains_66 : decode cX7_rains 66 = .ok (.iload 8, 2) := by decide +kernel
theorem dX7_rains_68 : decode cX7_rains 68 = .ok (.iconst 1, 1) := by decide +kernel
theorem dX7_rains_69 : decode cX7_rains 69 = .ok (.aload_n 0, 1) := by decide +kernel
theorem dX7_rains_70 : decode cX7_rains 70 = .ok (.getfield 177, 3) := by decide +kernel
theorem dX7_rains_73 : decode cX7_rains 73 = .ok (.ishl, 1) := by decide +kernel
theorem dX7_rains_74 : decode cX7_rains 74 = .ok (.if_icmp .ge 79, 3) := by decide +kernel
theorem dX7_rains_77 : decode cX7_rains 77 = .ok (.lconst 1, 1) := by decide +kernel
theorem dX7_rains_78 : decode cX7_rains 78 = .ok (.lstore 9, 2) := by decide +kernel
theorem dX7_rains_80 : decode cX7_rains 80 = .ok (.iconst 0, 1) := by decide +kernel
theorem dX7_rains_81 : decode cX7_rains 81 = .ok (.istore 11, 2) := by decide +kernel
theorem dX7_rains_83 : decode cX7_rains 83 = .ok (.iload 11, 2) := by decide +kernel
theorem dX7_rains_85 : decode cX7_rains 85 = .ok (.aload_n 0, 1) := by decide +kernel
theorem dX7_rains_86 : decode cX7_rains 86 = .ok (.getfield 177, 3) := by decide +kernel
theorem dX7_rains_89 : decode cX7_rains 89 = .ok (.if_icmp .ge 34, 3) := by decide +kernel
theorem dX7_rains_92 : decode cX7_rains 92 = .ok (.lload 9, 2) := by decide +kernel
theorem dX7_rains_94 : decode cX7_rains 94 = .ok (.iload 8, 2) := by decide +kernel
theorem dX7_rains_96 : decode cX7_rains 96 = .ok (.iload 11, 2) := by decide +kernel
theorem dX7_rains_98 : decode cX7_rains 98 = .ok (.invokestatic 146, 3) := by decide +kernel
theorem dX7_rains_101 : decode cX7_rains 101 = .ok (.ifCond .eq 8, 3) := by decide +kernel
theorem dX7_rains_104 : decode cX7_rains 104 = .ok (.iload_n 2, 1) := by decide +kernel
theorem dX7_rains_105 : decode cX7_rains 105 = .ok (.i2l, 1) := by decide +kernel
theorem dX7_rains_106 : decode cX7_rains 106 = .ok (.goto 8, 3) := by decide +kernel
theorem dX7_rains_109 : decode cX7_rains 109 = .ok (.bipush 10, 2) := by decide +kernel
theorem dX7_rains_111 : decode cX7_rains 111 = .ok (.iload_n 2, 1) := by decide +kernel
theorem dX7_rains_112 : decode cX7_rains 112 = .ok (.isub, 1) := by decide +kernel
theorem dX7_rains_113 : decode cX7_rains 113 = .ok (.i2l, 1) := by decide +kernel
theorem dX7_rains_114 : decode cX7_rains 114 = .ok (.lmul, 1) := by decide +kernel
theorem dX7_rains_115 : decode cX7_rains 115 = .ok (.lstore 9, 2) := by decide +kernel
theorem dX7_rains_117 : decode cX7_rains 117 = .ok (.iinc 11 1, 3) := by decide +kernel
theorem dX7_rains_120 : decode cX7_rains 120 = .ok (.goto (-37), 3) := by decide +kernel
theorem dX7_rains_123 : decode cX7_rains 123 = .ok (.lload 4, 2) := by decide +kernel
theorem dX7_rains_125 : decode cX7_rains 125 = .ok (.aload_n 0, 1) := by decide +kernel
theorem dX7_rains_126 : decode cX7_rains 126 = .ok (.iload 8, 2) := by decide +kernel
theorem dX7_rains_128 : decode cX7_rains 128 = .ok (.invokevirtual 249, 3) := by decide +kernel
theorem dX7_rains_131 : decode cX7_rains 131 = .ok (.iload_n 1, 1) := by decide +kernel
theorem dX7_rains_132 : decode cX7_rains 132 = .ok (.invokestatic 146, 3) := by decide +kernel
theorem dX7_rains_135 : decode cX7_rains 135 = .ok (.ifCond .eq 8, 3) := by decide +kernel
theorem dX7_rains_138 : decode cX7_rains 138 = .ok (.lload 9, 2) := by decide +kernel
theorem dX7_rains_140 : decode cX7_rains 140 = .ok (.goto 4, 3) := by decide +kernel
theorem dX7_rains_143 : decode cX7_rains 143 = .ok (.lconst 0, 1) := by decide +kernel
theorem dX7_rains_144 : decode cX7_rains 144 = .ok (.ladd, 1) := by decide +kernel
theorem dX7_rains_145 : decode cX7_rains 145 = .ok (.lstore 4, 2) := by decide +kernel
theorem dX7_rains_147 : decode cX7_rains 147 = .ok (.iinc 8 1, 3) := by decide +kernel
theorem dX7_rains_150 : decode cX7_rains 150 = .ok (.goto (-84), 3) := by decide +kernel
theorem dX7_rains_153 : decode cX7_rains 153 = .ok (.lload 4, 2) := by decide +kernel
theorem dX7_rains_155 : decode cX7_rains 155 = .ok (.lload 6, 2) := by decide +kernel
theorem dX7_rains_157 : decode cX7_rains 157 = .ok (.invokestatic 272, 3) := by decide +kernel
theorem dX7_rains_160 : decode cX7_rains 160 = .ok (.lstore 8, 2) := by decide +kernel
theorem dX7_rains_162 : decode cX7_rains 162 = .ok (.iload_n 3, 1) := by decide +kernel
theorem dX7_rains_163 : decode cX7_rains 163 = .ok (.ifCond .ne 11, 3) := by decide +kernel
theorem dX7_rains_166 : decode cX7_rains 166 = .ok (.lload 4, 2) := by decide +kernel
theorem dX7_rains_168 : decode cX7_rains 168 = .ok (.lload 8, 2) := by decide +kernel
theorem dX7_rains_170 : decode cX7_rains 170 = .ok (.ldiv, 1) := by decide +kernel
theorem dX7_rains_171 : decode cX7_rains 171 = .ok (.goto 8, 3) := by decide +kernel
theorem dX7_rains_174 : decode cX7_rains 174 = .ok (.lload 6, 2) := by decide +kernel
theorem dX7_rains_176 : decode cX7_rains 176 = .ok (.lload 8, 2) := by decide +kernel
theorem dX7_rains_178 : decode cX7_rains 178 = .ok (.ldiv, 1) := by decide +kernel
theorem dX7_rains_179 : decode cX7_rains 179 = .ok (.lreturn, 1) := by decide +kernel
theorem dX7_share_0 : decode cX7_share 0 = .ok (.aload_n 0, 1) := by decide +kernel
theorem dX7_share_1 : decode cX7_share 1 = .ok (.iload_n 1, 1) := by decide +kernel
theorem dX7_share_2 : decode cX7_share 2 = .ok (.invokevirtual 217, 3) := by decide +kernel
theorem dX7_share_5 : decode cX7_share 5 = .ok (.ifCond .eq 12, 3) := by decide +kernel
theorem dX7_share_8 : decode cX7_share 8 = .ok (.iload_n 2, 1) := by decide +kernel
theorem dX7_share_9 : decode cX7_share 9 = .ok (.iconst 0, 1) := by decide +kernel
theorem dX7_share_10 : decode cX7_share 10 = .ok (.iconst 1, 1) := by decide +kernel
theorem dX7_share_11 : decode cX7_share 11 = .ok (.invokestatic 85, 3) := by decide +kernel
theorem dX7_share_14 : decode cX7_share 14 = .ok (.ifCond .ne 6, 3) := by decide +kernel
theorem dX7_share_17 : decode cX7_share 17 = .ok (.ldc 93, 2) := by decide +kernel
theorem dX7_share_19 : decode cX7_share 19 = .ok (.ireturn, 1) := by decide +kernel
theorem dX7_share_20 : decode cX7_share 20 = .ok (.aload_n 0, 1) := by decide +kernel
theorem dX7_share_21 : decode cX7_share 21 = .ok (.invokevirtual 240, 3) := by decide +kernel
theorem dX7_share_24 : decode cX7_share 24 = .ok (.istore_n 3, 1) := by decide +kernel
theorem dX7_share_25 : decode cX7_share 25 = .ok (.aload_n 0, 1) := by decide +kernel
theorem dX7_share_26 : decode cX7_share 26 = .ok (.getfield 31, 3) := by decide +kernel
theorem dX7_share_29 : decode cX7_share 29 = .ok (.bipush 8, 2) := by decide +kernel
theorem dX7_share_31 : decode cX7_share 31 = .ok (.iload_n 1, 1) := by decide +kernel
theorem dX7_share_32 : decode cX7_share 32 = .ok (.iadd, 1) := by decide +kernel
theorem dX7_share_33 : decode cX7_share 33 = .ok (.iaload, 1) := by decide +kernel
theorem dX7_share_34 : decode cX7_share 34 = .ok (.istore 4, 2) := by decide +kernel
theorem dX7_share_36 : decode cX7_share 36 = .ok (.iload_n 3, 1) := by decide +kernel
theorem dX7_share_37 : decode cX7_share 37 = .ok (.ifCond .ne 7, 3) := by decide +kernel
theorem dX7_share_40 : decode cX7_share 40 = .ok (.iconst 1, 1) := by decide +kernel
theorem dX7_share_41 : decode cX7_share 41 = .ok (.goto 12, 3) := by decide +kernel
theorem dX7_share_44 : decode cX7_share 44 = .ok (.iload 4, 2) := by decide +kernel
theorem dX7_share_46 : decode cX7_share 46 = .ok (.i2l, 1) := by decide +kernel
theorem dX7_share_47 : decode cX7_share 47 = .ok (.iload_n 3, 1) := by decide +kernel
theorem dX7_share_48 : decode cX7_share 48 = .ok (.i2l, 1) := by decide +kernel
theorem dX7_share_49 : decode cX7_share 49 = .ok (.invokestatic 272, 3) := by decide +kernel
theorem dX7_share_52 : decode cX7_share 52 = .ok (.l2i, 1) := by decide +kernel
theorem dX7_share_53 : decode cX7_share 53 = .ok (.istore 5, 2) := by decide +kernel
theorem dX7_share_55 : decode cX7_share 55 = .ok (.iload_n 2, 1) := by decide +kernel
theorem dX7_share_56 : decode cX7_share 56 = .ok (.ifCond .ne 11, 3) := by decide +kernel
theorem dX7_share_59 : decode cX7_share 59 = .ok (.iload 4, 2) := by decide +kernel
theorem dX7_share_61 : decode cX7_share 61 = .ok (.iload 5, 2) := by decide +kernel
theorem dX7_share_63 : decode cX7_share 63 = .ok (.idiv, 1) := by decide +kernel
theorem dX7_share_64 : decode cX7_share 64 = .ok (.goto 15, 3) := by decide +kernel
theorem dX7_share_67 : decode cX7_share 67 = .ok (.iload_n 3, 1) := by decide +kernel
theorem dX7_share_68 : decode cX7_share 68 = .ok (.ifCond .ne 7, 3) := by decide +kernel
theorem dX7_share_71 : decode cX7_share 71 = .ok (.iconst 1, 1) := by decide +kernel
theorem dX7_share_72 : decode cX7_share 72 = .ok (.goto 7, 3) := by decide +kernel
theorem dX7_share_75 : decode cX7_share 75 = .ok (.iload_n 3, 1) := by decide +kernel
theorem dX7_share_76 : decode cX7_share 76 = .ok (.iload 5, 2) := by decide +kernel
theorem dX7_share_78 : decode cX7_share 78 = .ok (.idiv, 1) := by decide +kernel
theorem dX7_share_79 : decode cX7_share 79 = .ok (.ireturn, 1) := by decide +kernel
theorem dX7_drawn_0 : decode cX7_drawn 0 = .ok (.aload_n 0, 1) := by decide +kernel
theorem dX7_drawn_1 : decode cX7_drawn 1 = .ok (.getfield 177, 3) := by decide +kernel
theorem dX7_drawn_4 : decode cX7_drawn 4 = .ok (.ifCond .ne 6, 3) := by decide +kernel
theorem dX7_drawn_7 : decode cX7_drawn 7 = .ok (.ldc 201, 2) := by decide +kernel
theorem dX7_drawn_9 : decode cX7_drawn 9 = .ok (.ireturn, 1) := by decide +kernel
theorem dX7_drawn_10 : decode cX7_drawn 10 = .ok (.iload_n 1, 1) := by decide +kernel
theorem dX7_drawn_11 : decode cX7_drawn 11 = .ok (.iconst 0, 1) := by decide +kernel
theorem dX7_drawn_12 : decode cX7_drawn 12 = .ok (.bipush 60, 2) := by decide +kernel
theorem dX7_drawn_14 : decode cX7_drawn 14 = .ok (.invokestatic 85, 3) := by decide +kernel
theorem dX7_drawn_17 : decode cX7_drawn 17 = .ok (.ifCond .eq 23, 3) := by decide +kernel
theorem dX7_drawn_20 : decode cX7_drawn 20 = .ok (.iload_n 2, 1) := by decide +kernel
theorem dX7_drawn_21 : decode cX7_drawn 21 = .ok (.iconst 1, 1) := by decide +kernel
theorem dX7_drawn_22 : decode cX7_drawn 22 = .ok (.ldc_w 276, 3) := by decide +kernel
theorem dX7_drawn_25 : decode cX7_drawn 25 = .ok (.invokestatic 85, 3) := by decide +kernel
theorem dX7_drawn_28 : decode cX7_drawn 28 = .ok (.ifCond .eq 12, 3) := by decide +kernel
theorem dX7_drawn_31 : decode cX7_drawn 31 = .ok (.iload_n 3, 1) := by decide +kernel
theorem dX7_drawn_32 : decode cX7_drawn 32 = .ok (.iconst 0, 1) := by decide +kernel
theorem dX7_drawn_33 : decode cX7_drawn 33 = .ok (.iconst 1, 1) := by decide +kernel
theorem dX7_drawn_34 : decode cX7_drawn 34 = .ok (.invokestatic 85, 3) := by decide +kernel
theorem dX7_drawn_37 : decode cX7_drawn 37 = .ok (.ifCond .ne 6, 3) := by decide +kernel
theorem dX7_drawn_40 : decode cX7_drawn 40 = .ok (.ldc 93, 2) := by decide +kernel
theorem dX7_drawn_42 : decode cX7_drawn 42 = .ok (.ireturn, 1) := by decide +kernel
theorem dX7_drawn_43 : decode cX7_drawn 43 = .ok (.aload_n 0, 1) := by decide +kernel
theorem dX7_drawn_44 : decode cX7_drawn 44 = .ok (.invokevirtual 243, 3) := by decide +kernel
theorem dX7_drawn_47 : decode cX7_drawn 47 = .ok (.iload_n 2, 1) := by decide +kernel
theorem dX7_drawn_48 : decode cX7_drawn 48 = .ok (.i2l, 1) := by decide +kernel
theorem dX7_drawn_49 : decode cX7_drawn 49 = .ok (.lstore 4, 2) := by decide +kernel
theorem dX7_drawn_51 : decode cX7_drawn 51 = .ok (.iconst 0, 1) := by decide +kernel
theorem dX7_drawn_52 : decode cX7_drawn 52 = .ok (.istore 6, 2) := by decide +kernel
theorem dX7_drawn_54 : decode cX7_drawn 54 = .ok (.iload 6, 2) := by decide +kernel
theorem dX7_drawn_56 : decode cX7_drawn 56 = .ok (.iload_n 1, 1) := by decide +kernel
theorem dX7_drawn_57 : decode cX7_drawn 57 = .ok (.if_icmp .ge 94, 3) := by decide +kernel
theorem dX7_drawn_60 : decode cX7_drawn 60 = .ok (.lload 4, 2) := by decide +kernel
theorem dX7_drawn_62 : decode cX7_drawn 62 = .ok (.ldc2_w 277, 3) := by decide +kernel
theorem dX7_drawn_65 : decode cX7_drawn 65 = .ok (.lmul, 1) := by decide +kernel
theorem dX7_drawn_66 : decode cX7_drawn 66 = .ok (.ldc2_w 279, 3) := by decide +kernel
theorem dX7_drawn_69 : decode cX7_drawn 69 = .ok (.lrem, 1) := by decide +kernel
theorem dX7_drawn_70 : decode cX7_drawn 70 = .ok (.lstore 4, 2) := by decide +kernel
theorem dX7_drawn_72 : decode cX7_drawn 72 = .ok (.aload_n 0, 1) := by decide +kernel
theorem dX7_drawn_73 : decode cX7_drawn 73 = .ok (.getfield 183, 3) := by decide +kernel
theorem dX7_drawn_76 : decode cX7_drawn 76 = .ok (.ifCond .le 39, 3) := by decide +kernel
theorem dX7_drawn_79 : decode cX7_drawn 79 = .ok (.aload_n 0, 1) := by decide +kernel
theorem dX7_drawn_80 : decode cX7_drawn 80 = .ok (.aload_n 0, 1) := by decide +kernel
theorem dX7_drawn_81 : decode cX7_drawn 81 = .ok (.getfield 34, 3) := by decide +kernel
theorem dX7_drawn_84 : decode cX7_drawn 84 = .ok (.lload 4, 2) := by decide +kernel
theorem dX7_drawn_86 : decode cX7_drawn 86 = .ok (.aload_n 0, 1) := by decide +kernel
theorem dX7_drawn_87 : decode cX7_drawn 87 = .ok (.getfield 183, 3) := by decide +kernel
theorem dX7_drawn_90 : decode cX7_drawn 90 = .ok (.i2l, 1) := by decide +kernel
theorem dX7_drawn_91 : decode cX7_drawn 91 = .ok (.lrem, 1) := by decide +kernel
theorem dX7_drawn_92 : decode cX7_drawn 92 = .ok (.l2i, 1) := by decide +kernel
theorem dX7_drawn_93 : decode cX7_drawn 93 = .ok (.lload 4, 2) := by decide +kernel
theorem dX7_drawn_95 : decode cX7_drawn 95 = .ok (.ldc2_w 281, 3) := by decide +kernel
theorem dX7_drawn_98 : decode cX7_drawn 98 = .ok (.lrem, 1) := by decide +kernel
theorem dX7_drawn_99 : decode cX7_drawn 99 = .ok (.l2i, 1) := by decide +kernel
theorem dX7_drawn_100 : decode cX7_drawn 100 = .ok (.iconst 1, 1) := by decide +kernel
theorem dX7_drawn_101 : decode cX7_drawn 101 = .ok (.iadd, 1) := by decide +kernel
theorem dX7_drawn_102 : decode cX7_drawn 102 = .ok (.lload 4, 2) := by decide +kernel
theorem dX7_drawn_104 : decode cX7_drawn 104 = .ok (.aload_n 0, 1) := by decide +kernel
theorem dX7_drawn_105 : decode cX7_drawn 105 = .ok (.getfield 177, 3) := by decide +kernel
theorem dX7_drawn_108 : decode cX7_drawn 108 = .ok (.i2l, 1) := by decide +kernel
theorem dX7_drawn_109 : decode cX7_drawn 109 = .ok (.lrem, 1) := by decide +kernel
theorem dX7_drawn_110 : decode cX7_drawn 110 = .ok (.l2i, 1) := by decide +kernel
theorem dX7_drawn_111 : decode cX7_drawn 111 = .ok (.invokevirtual 226, 3) := by decide +kernel
theorem dX7_drawn_114 : decode cX7_drawn 114 = .ok (.pop, 1) := by decide +kernel
theorem dX7_drawn_115 : decode cX7_drawn 115 = .ok (.lload 4, 2) := by decide +kernel
theorem dX7_drawn_117 : decode cX7_drawn 117 = .ok (.ldc2_w 283, 3) := by decide +kernel
theorem dX7_drawn_120 : decode cX7_drawn 120 = .ok (.lrem, 1) := by decide +kernel
theorem dX7_drawn_121 : decode cX7_drawn 121 = .ok (.lconst 0, 1) := by decide +kernel
theorem dX7_drawn_122 : decode cX7_drawn 122 = .ok (.lcmp, 1) := by decide +kernel
theorem dX7_drawn_123 : decode cX7_drawn 123 = .ok (.ifCond .ne 11, 3) := by decide +kernel
theorem dX7_drawn_126 : decode cX7_drawn 126 = .ok (.aload_n 0, 1) := by decide +kernel
theorem dX7_drawn_127 : decode cX7_drawn 127 = .ok (.aload_n 0, 1) := by decide +kernel
theorem dX7_drawn_128 : decode cX7_drawn 128 = .ok (.getfield 34, 3) := by decide +kernel
theorem dX7_drawn_131 : decode cX7_drawn 131 = .ok (.invokevirtual 230, 3) := by decide +kernel
theorem dX7_drawn_134 : decode cX7_drawn 134 = .ok (.aload_n 0, 1) := by decide +kernel
theorem dX7_drawn_135 : decode cX7_drawn 135 = .ok (.getfield 34, 3) := by decide +kernel
theorem dX7_drawn_138 : decode cX7_drawn 138 = .ok (.bipush 13, 2) := by decide +kernel
theorem dX7_drawn_140 : decode cX7_drawn 140 = .ok (.dup2, 1) := by decide +kernel
theorem dX7_drawn_141 : decode cX7_drawn 141 = .ok (.iaload, 1) := by decide +kernel
theorem dX7_drawn_142 : decode cX7_drawn 142 = .ok (.iconst 1, 1) := by decide +kernel
theorem dX7_drawn_143 : decode cX7_drawn 143 = .ok (.iadd, 1) := by decide +kernel
theorem dX7_drawn_144 : decode cX7_drawn 144 = .ok (.iastore, 1) := by decide +kernel
theorem dX7_drawn_145 : decode cX7_drawn 145 = .ok (.iinc 6 1, 3) := by decide +kernel
theorem dX7_drawn_148 : decode cX7_drawn 148 = .ok (.goto (-94), 3) := by decide +kernel
theorem dX7_drawn_151 : decode cX7_drawn 151 = .ok (.iload_n 3, 1) := by decide +kernel
theorem dX7_drawn_152 : decode cX7_drawn 152 = .ok (.ifCond .ne 14, 3) := by decide +kernel
theorem dX7_drawn_155 : decode cX7_drawn 155 = .ok (.aload_n 0, 1) := by decide +kernel
theorem dX7_drawn_156 : decode cX7_drawn 156 = .ok (.aload_n 0, 1) := by decide +kernel
theorem dX7_drawn_157 : decode cX7_drawn 157 = .ok (.getfield 34, 3) := by decide +kernel
theorem dX7_drawn_160 : decode cX7_drawn 160 = .ok (.invokevirtual 202, 3) := by decide +kernel
theorem dX7_drawn_163 : decode cX7_drawn 163 = .ok (.goto 18, 3) := by decide +kernel
theorem dX7_drawn_166 : decode cX7_drawn 166 = .ok (.aload_n 0, 1) := by decide +kernel
theorem dX7_drawn_167 : decode cX7_drawn 167 = .ok (.getfield 34, 3) := by decide +kernel
theorem dX7_drawn_170 : decode cX7_drawn 170 = .ok (.bipush 12, 2) := by decide +kernel
theorem dX7_drawn_172 : decode cX7_drawn 172 = .ok (.iaload, 1) := by decide +kernel
theorem dX7_drawn_173 : decode cX7_drawn 173 = .ok (.aload_n 0, 1) := by decide +kernel
theorem dX7_drawn_174 : decode cX7_drawn 174 = .ok (.getfield 31, 3) := by decide +kernel
theorem dX7_drawn_177 : decode cX7_drawn 177 = .ok (.bipush 12, 2) := by decide +kernel
theorem dX7_drawn_179 : decode cX7_drawn 179 = .ok (.iaload, 1) := by decide +kernel
theorem dX7_drawn_180 : decode cX7_drawn 180 = .ok (.isub, 1) := by decide +kernel
theorem dX7_drawn_181 : decode cX7_drawn 181 = .ok (.ireturn, 1) := by decide +kernel
theorem dX7_image_0 : decode cX7_image 0 = .ok (.iload_n 1, 1) := by decide +kernel
theorem dX7_image_1 : decode cX7_image 1 = .ok (.iconst 0, 1) := by decide +kernel
theorem dX7_image_2 : decode cX7_image 2 = .ok (.iconst 1, 1) := by decide +kernel
theorem dX7_image_3 : decode cX7_image 3 = .ok (.invokestatic 85, 3) := by decide +kernel
theorem dX7_image_6 : decode cX7_image 6 = .ok (.ifCond .ne 6, 3) := by decide +kernel
theorem dX7_image_9 : decode cX7_image 9 = .ok (.ldc 93, 2) := by decide +kernel
theorem dX7_image_11 : decode cX7_image 11 = .ok (.ireturn, 1) := by decide +kernel
theorem dX7_image_12 : decode cX7_image 12 = .ok (.aload_n 0, 1) := by decide +kernel
theorem dX7_image_13 : decode cX7_image 13 = .ok (.getfield 177, 3) := by decide +kernel
theorem dX7_image_16 : decode cX7_image 16 = .ok (.ifCond .ne 6, 3) := by decide +kernel
theorem dX7_image_19 : decode cX7_image 19 = .ok (.ldc 201, 2) := by decide +kernel
theorem dX7_image_21 : decode cX7_image 21 = .ok (.ireturn, 1) := by decide +kernel
theorem dX7_image_22 : decode cX7_image 22 = .ok (.aload_n 0, 1) := by decide +kernel
theorem dX7_image_23 : decode cX7_image 23 = .ok (.getfield 58, 3) := by decide +kernel
theorem dX7_image_26 : decode cX7_image 26 = .ok (.iload_n 1, 1) := by decide +kernel
theorem dX7_image_27 : decode cX7_image 27 = .ok (.iconst 1, 1) := by decide +kernel
theorem dX7_image_28 : decode cX7_image 28 = .ok (.bastore, 1) := by decide +kernel
theorem dX7_image_29 : decode cX7_image 29 = .ok (.aload_n 0, 1) := by decide +kernel
theorem dX7_image_30 : decode cX7_image 30 = .ok (.getfield 62, 3) := by decide +kernel
theorem dX7_image_33 : decode cX7_image 33 = .ok (.iconst 5, 1) := by decide +kernel
theorem dX7_image_34 : decode cX7_image 34 = .ok (.iload_n 1, 1) := by decide +kernel
theorem dX7_image_35 : decode cX7_image 35 = .ok (.imul, 1) := by decide +kernel
theorem dX7_image_36 : decode cX7_image 36 = .ok (.aload_n 0, 1) := by decide +kernel
theorem dX7_image_37 : decode cX7_image 37 = .ok (.getfield 177, 3) := by decide +kernel
theorem dX7_image_40 : decode cX7_image 40 = .ok (.iastore, 1) := by decide +kernel
theorem dX7_image_41 : decode cX7_image 41 = .ok (.aload_n 0, 1) := by decide +kernel
theorem dX7_image_42 : decode cX7_image 42 = .ok (.getfield 62, 3) := by decide +kernel
theorem dX7_image_45 : decode cX7_image 45 = .ok (.iconst 5, 1) := by decide +kernel
theorem dX7_image_46 : decode cX7_image 46 = .ok (.iload_n 1, 1) := by decide +kernel
theorem dX7_image_47 : decode cX7_image 47 = .ok (.imul, 1) := by decide +kernel
theorem dX7_image_48 : decode cX7_image 48 = .ok (.iconst 1, 1) := by decide +kernel
theorem dX7_image_49 : decode cX7_image 49 = .ok (.iadd, 1) := by decide +kernel
theorem dX7_image_50 : decode cX7_image 50 = .ok (.aload_n 0, 1) := by decide +kernel
theorem dX7_image_51 : decode cX7_image 51 = .ok (.getfield 180, 3) := by decide +kernel
theorem dX7_image_54 : decode cX7_image 54 = .ok (.iastore, 1) := by decide +kernel
theorem dX7_image_55 : decode cX7_image 55 = .ok (.aload_n 0, 1) := by decide +kernel
theorem dX7_image_56 : decode cX7_image 56 = .ok (.getfield 62, 3) := by decide +kernel
theorem dX7_image_59 : decode cX7_image 59 = .ok (.iconst 5, 1) := by decide +kernel
theorem dX7_image_60 : decode cX7_image 60 = .ok (.iload_n 1, 1) := by decide +kernel
theorem dX7_image_61 : decode cX7_image 61 = .ok (.imul, 1) := by decide +kernel
theorem dX7_image_62 : decode cX7_image 62 = .ok (.iconst 2, 1) := by decide +kernel
theorem dX7_image_63 : decode cX7_image 63 = .ok (.iadd, 1) := by decide +kernel
theorem dX7_image_64 : decode cX7_image 64 = .ok (.aload_n 0, 1) := by decide +kernel
theorem dX7_image_65 : decode cX7_image 65 = .ok (.getfield 183, 3) := by decide +kernel
theorem dX7_image_68 : decode cX7_image 68 = .ok (.iastore, 1) := by decide +kernel
theorem dX7_image_69 : decode cX7_image 69 = .ok (.aload_n 0, 1) := by decide +kernel
theorem dX7_image_70 : decode cX7_image 70 = .ok (.getfield 62, 3) := by decide +kernel
theorem dX7_image_73 : decode cX7_image 73 = .ok (.iconst 5, 1) := by decide +kernel
theorem dX7_image_74 : decode cX7_image 74 = .ok (.iload_n 1, 1) := by decide +kernel
theorem dX7_image_75 : decode cX7_image 75 = .ok (.imul, 1) := by decide +kernel
theorem dX7_image_76 : decode cX7_image 76 = .ok (.iconst 3, 1) := by decide +kernel
theorem dX7_image_77 : decode cX7_image 77 = .ok (.iadd, 1) := by decide +kernel
theorem dX7_image_78 : decode cX7_image 78 = .ok (.aload_n 0, 1) := by decide +kernel
theorem dX7_image_79 : decode cX7_image 79 = .ok (.getfield 186, 3) := by decide +kernel
theorem dX7_image_82 : decode cX7_image 82 = .ok (.iastore, 1) := by decide +kernel
theorem dX7_image_83 : decode cX7_image 83 = .ok (.aload_n 0, 1) := by decide +kernel
theorem dX7_image_84 : decode cX7_image 84 = .ok (.getfield 62, 3) := by decide +kernel
theorem dX7_image_87 : decode cX7_image 87 = .ok (.iconst 5, 1) := by decide +kernel
theorem dX7_image_88 : decode cX7_image 88 = .ok (.iload_n 1, 1) := by decide +kernel
theorem dX7_image_89 : decode cX7_image 89 = .ok (.imul, 1) := by decide +kernel
theorem dX7_image_90 : decode cX7_image 90 = .ok (.iconst 4, 1) := by decide +kernel
theorem dX7_image_91 : decode cX7_image 91 = .ok (.iadd, 1) := by decide +kernel
theorem dX7_image_92 : decode cX7_image 92 = .ok (.aload_n 0, 1) := by decide +kernel
theorem dX7_image_93 : decode cX7_image 93 = .ok (.getfield 189, 3) := by decide +kernel
theorem dX7_image_96 : decode cX7_image 96 = .ok (.iastore, 1) := by decide +kernel
theorem dX7_image_97 : decode cX7_image 97 = .ok (.iconst 0, 1) := by decide +kernel
theorem dX7_image_98 : decode cX7_image 98 = .ok (.istore_n 2, 1) := by decide +kernel
theorem dX7_image_99 : decode cX7_image 99 = .ok (.iload_n 2, 1) := by decide +kernel
theorem dX7_image_100 : decode cX7_image 100 = .ok (.bipush 8, 2) := by decide +kernel
theorem dX7_image_102 : decode cX7_image 102 = .ok (.if_icmp .ge 26, 3) := by decide +kernel
theorem dX7_image_105 : decode cX7_image 105 = .ok (.aload_n 0, 1) := by decide +kernel
theorem dX7_image_106 : decode cX7_image 106 = .ok (.getfield 65, 3) := by decide +kernel
theorem dX7_image_109 : decode cX7_image 109 = .ok (.bipush 8, 2) := by decide +kernel
theorem dX7_image_111 : decode cX7_image 111 = .ok (.iload_n 1, 1) := by decide +kernel
theorem dX7_image_112 : decode cX7_image 112 = .ok (.imul, 1) := by decide +kernel
theorem dX7_image_113 : decode cX7_image 113 = .ok (.iload_n 2, 1) := by decide +kernel
theorem dX7_image_114 : decode cX7_image 114 = .ok (.iadd, 1) := by decide +kernel
theorem dX7_image_115 : decode cX7_image 115 = .ok (.aload_n 0, 1) := by decide +kernel
theorem dX7_image_116 : decode cX7_image 116 = .ok (.getfield 22, 3) := by decide +kernel
theorem dX7_image_119 : decode cX7_image 119 = .ok (.iload_n 2, 1) := by decide +kernel
theorem dX7_image_120 : decode cX7_image 120 = .ok (.iaload, 1) := by decide +kernel
theorem dX7_image_121 : decode cX7_image 121 = .ok (.iastore, 1) := by decide +kernel
theorem dX7_image_122 : decode cX7_image 122 = .ok (.iinc 2 1, 3) := by decide +kernel
theorem dX7_image_125 : decode cX7_image 125 = .ok (.goto (-26), 3) := by decide +kernel
theorem dX7_image_128 : decode cX7_image 128 = .ok (.iconst 0, 1) := by decide +kernel
theorem dX7_image_129 : decode cX7_image 129 = .ok (.istore_n 2, 1) := by decide +kernel
theorem dX7_image_130 : decode cX7_image 130 = .ok (.iload_n 2, 1) := by decide +kernel
theorem dX7_image_131 : decode cX7_image 131 = .ok (.iconst 4, 1) := by decide +kernel
theorem dX7_image_132 : decode cX7_image 132 = .ok (.if_icmp .ge 41, 3) := by decide +kernel
theorem dX7_image_135 : decode cX7_image 135 = .ok (.aload_n 0, 1) := by decide +kernel
theorem dX7_image_136 : decode cX7_image 136 = .ok (.getfield 68, 3) := by decide +kernel
theorem dX7_image_139 : decode cX7_image 139 = .ok (.iconst 4, 1) := by decide +kernel
theorem dX7_image_140 : decode cX7_image 140 = .ok (.iload_n 1, 1) := by decide +kernel
theorem dX7_image_141 : decode cX7_image 141 = .ok (.imul, 1) := by decide +kernel
theorem dX7_image_142 : decode cX7_image 142 = .ok (.iload_n 2, 1) := by decide +kernel
theorem dX7_image_143 : decode cX7_image 143 = .ok (.iadd, 1) := by decide +kernel
theorem dX7_image_144 : decode cX7_image 144 = .ok (.aload_n 0, 1) := by decide +kernel
theorem dX7_image_145 : decode cX7_image 145 = .ok (.getfield 25, 3) := by decide +kernel
theorem dX7_image_148 : decode cX7_image 148 = .ok (.iload_n 2, 1) := by decide +kernel
theorem dX7_image_149 : decode cX7_image 149 = .ok (.iaload, 1) := by decide +kernel
theorem dX7_image_150 : decode cX7_image 150 = .ok (.iastore, 1) := by decide +kernel
theorem dX7_image_151 : decode cX7_image 151 = .ok (.aload_n 0, 1) := by decide +kernel
theorem dX7_image_152 : decode cX7_image 152 = .ok (.getfield 71, 3) := by decide +kernel
theorem dX7_image_155 : decode cX7_image 155 = .ok (.iconst 4, 1) := by decide +kernel
theorem dX7_image_156 : decode cX7_image 156 = .ok (.iload_n 1, 1) := by decide +kernel
theorem dX7_image_157 : decode cX7_image 157 = .ok (.imul, 1) := by decide +kernel
theorem dX7_image_158 : decode cX7_image 158 = .ok (.iload_n 2, 1) := by decide +kernel
theorem dX7_image_159 : decode cX7_image 159 = .ok (.iadd, 1) := by decide +kernel
theorem dX7_image_160 : decode cX7_image 160 = .ok (.aload_n 0, 1) := by decide +kernel
theorem dX7_image_161 : decode cX7_image 161 = .ok (.getfield 28, 3) := by decide +kernel
theorem dX7_image_164 : decode cX7_image 164 = .ok (.iload_n 2, 1) := by decide +kernel
theorem dX7_image_165 : decode cX7_image 165 = .ok (.iaload, 1) := by decide +kernel
theorem dX7_image_166 : decode cX7_image 166 = .ok (.iastore, 1) := by decide +kernel
theorem dX7_image_167 : decode cX7_image 167 = .ok (.iinc 2 1, 3) := by decide +kernel
theorem dX7_image_170 : decode cX7_image 170 = .ok (.goto (-40), 3) := by decide +kernel
theorem dX7_image_173 : decode cX7_image 173 = .ok (.iconst 0, 1) := by decide +kernel
theorem dX7_image_174 : decode cX7_image 174 = .ok (.istore_n 2, 1) := by decide +kernel
theorem dX7_image_175 : decode cX7_image 175 = .ok (.iload_n 2, 1) := by decide +kernel
theorem dX7_image_176 : decode cX7_image 176 = .ok (.bipush 14, 2) := by decide +kernel
theorem dX7_image_178 : decode cX7_image 178 = .ok (.if_icmp .ge 26, 3) := by decide +kernel
theorem dX7_image_181 : decode cX7_image 181 = .ok (.aload_n 0, 1) := by decide +kernel
theorem dX7_image_182 : decode cX7_image 182 = .ok (.getfield 74, 3) := by decide +kernel
theorem dX7_image_185 : decode cX7_image 185 = .ok (.bipush 14, 2) := by decide +kernel
theorem dX7_image_187 : decode cX7_image 187 = .ok (.iload_n 1, 1) := by decide +kernel
theorem dX7_image_188 : decode cX7_image 188 = .ok (.imul, 1) := by decide +kernel
theorem dX7_image_189 : decode cX7_image 189 = .ok (.iload_n 2, 1) := by decide +kernel
theorem dX7_image_190 : decode cX7_image 190 = .ok (.iadd, 1) := by decide +kernel
theorem dX7_image_191 : decode cX7_image 191 = .ok (.aload_n 0, 1) := by decide +kernel
theorem dX7_image_192 : decode cX7_image 192 = .ok (.getfield 31, 3) := by decide +kernel
theorem dX7_image_195 : decode cX7_image 195 = .ok (.iload_n 2, 1) := by decide +kernel
theorem dX7_image_196 : decode cX7_image 196 = .ok (.iaload, 1) := by decide +kernel
theorem dX7_image_197 : decode cX7_image 197 = .ok (.iastore, 1) := by decide +kernel
theorem dX7_image_198 : decode cX7_image 198 = .ok (.iinc 2 1, 3) := by decide +kernel
theorem dX7_image_201 : decode cX7_image 201 = .ok (.goto (-26), 3) := by decide +kernel
theorem dX7_image_204 : decode cX7_image 204 = .ok (.iconst 1, 1) := by decide +kernel
theorem dX7_image_205 : decode cX7_image 205 = .ok (.ireturn, 1) := by decide +kernel
theorem dX7_restore_0 : decode cX7_restore 0 = .ok (.iload_n 1, 1) := by decide +kernel
theorem dX7_restore_1 : decode cX7_restore 1 = .ok (.iconst 0, 1) := by decide +kernel
theorem dX7_restore_2 : decode cX7_restore 2 = .ok (.iconst 1, 1) := by decide +kernel
theorem dX7_restore_3 : decode cX7_restore 3 = .ok (.invokestatic 85, 3) := by decide +kernel
theorem dX7_restore_6 : decode cX7_restore 6 = .ok (.ifCond .ne 6, 3) := by decide +kernel
theorem dX7_restore_9 : decode cX7_restore 9 = .ok (.ldc 93, 2) := by decide +kernel
theorem dX7_restore_11 : decode cX7_restore 11 = .ok (.ireturn, 1) := by decide +kernel
theorem dX7_restore_12 : decode cX7_restore 12 = .ok (.aload_n 0, 1) := by decide +kernel
theorem dX7_restore_13 : decode cX7_restore 13 = .ok (.getfield 58, 3) := by decide +kernel
theorem dX7_restore_16 : decode cX7_restore 16 = .ok (.iload_n 1, 1) := by decide +kernel
theorem dX7_restore_17 : decode cX7_restore 17 = .ok (.baload, 1) := by decide +kernel
theorem dX7_restore_18 : decode cX7_restore 18 = .ok (.ifCond .ne 6, 3) := by decide +kernel
theorem dX7_restore_21 : decode cX7_restore 21 = .ok (.ldc 201, 2) := by decide +kernel
theorem dX7_restore_23 : decode cX7_restore 23 = .ok (.ireturn, 1) := by decide +kernel
theorem dX7_restore_24 : decode cX7_restore 24 = .ok (.aload_n 0, 1) := by decide +kernel
theorem dX7_restore_25 : decode cX7_restore 25 = .ok (.aload_n 0, 1) := by decide +kernel
theorem dX7_restore_26 : decode cX7_restore 26 = .ok (.getfield 62, 3) := by decide +kernel
theorem dX7_restore_29 : decode cX7_restore 29 = .ok (.iconst 5, 1) := by decide +kernel
theorem dX7_restore_30 : decode cX7_restore 30 = .ok (.iload_n 1, 1) := by decide +kernel
theorem dX7_restore_31 : decode cX7_restore 31 = .ok (.imul, 1) := by decide +kernel
theorem dX7_restore_32 : decode cX7_restore 32 = .ok (.iaload, 1) := by decide +kernel
theorem dX7_restore_33 : decode cX7_restore 33 = .ok (.putfield 177, 3) := by decide +kernel
theorem dX7_restore_36 : decode cX7_restore 36 = .ok (.aload_n 0, 1) := by decide +kernel
theorem dX7_restore_37 : decode cX7_restore 37 = .ok (.aload_n 0, 1) := by decide +kernel
theorem dX7_restore_38 : decode cX7_restore 38 = .ok (.getfield 62, 3) := by decide +kernel
theorem dX7_restore_41 : decode cX7_restore 41 = .ok (.iconst 5, 1) := by decide +kernel
theorem dX7_restore_42 : decode cX7_restore 42 = .ok (.iload_n 1, 1) := by decide +kernel
theorem dX7_restore_43 : decode cX7_restore 43 = .ok (.imul, 1) := by decide +kernel
theorem dX7_restore_44 : decode cX7_restore 44 = .ok (.iconst 1, 1) := by decide +kernel
theorem dX7_restore_45 : decode cX7_restore 45 = .ok (.iadd, 1) := by decide +kernel
theorem dX7_restore_46 : decode cX7_restore 46 = .ok (.iaload, 1) := by decide +kernel
theorem dX7_restore_47 : decode cX7_restore 47 = .ok (.putfield 180, 3) := by decide +kernel
theorem dX7_restore_50 : decode cX7_restore 50 = .ok (.aload_n 0, 1) := by decide +kernel
theorem dX7_restore_51 : decode cX7_restore 51 = .ok (.aload_n 0, 1) := by decide +kernel
theorem dX7_restore_52 : decode cX7_restore 52 = .ok (.getfield 62, 3) := by decide +kernel
theorem dX7_restore_55 : decode cX7_restore 55 = .ok (.iconst 5, 1) := by decide +kernel
theorem dX7_restore_56 : decode cX7_restore 56 = .ok (.iload_n 1, 1) := by decide +kernel
theorem dX7_restore_57 : decode cX7_restore 57 = .ok (.imul, 1) := by decide +kernel
theorem dX7_restore_58 : decode cX7_restore 58 = .ok (.iconst 2, 1) := by decide +kernel
theorem dX7_restore_59 : decode cX7_restore 59 = .ok (.iadd, 1) := by decide +kernel
theorem dX7_restore_60 : decode cX7_restore 60 = .ok (.iaload, 1) := by decide +kernel
theorem dX7_restore_61 : decode cX7_restore 61 = .ok (.putfield 183, 3) := by decide +kernel
theorem dX7_restore_64 : decode cX7_restore 64 = .ok (.aload_n 0, 1) := by decide +kernel
theorem dX7_restore_65 : decode cX7_restore 65 = .ok (.aload_n 0, 1) := by decide +kernel
theorem dX7_restore_66 : decode cX7_restore 66 = .ok (.getfield 62, 3) := by decide +kernel
theorem dX7_restore_69 : decode cX7_restore 69 = .ok (.iconst 5, 1) := by decide +kernel
theorem dX7_restore_70 : decode cX7_restore 70 = .ok (.iload_n 1, 1) := by decide +kernel
theorem dX7_restore_71 : decode cX7_restore 71 = .ok (.imul, 1) := by decide +kernel
theorem dX7_restore_72 : decode cX7_restore 72 = .ok (.iconst 3, 1) := by decide +kernel
theorem dX7_restore_73 : decode cX7_restore 73 = .ok (.iadd, 1) := by decide +kernel
theorem dX7_restore_74 : decode cX7_restore 74 = .ok (.iaload, 1) := by decide +kernel
theorem dX7_restore_75 : decode cX7_restore 75 = .ok (.putfield 186, 3) := by decide +kernel
theorem dX7_restore_78 : decode cX7_restore 78 = .ok (.aload_n 0, 1) := by decide +kernel
theorem dX7_restore_79 : decode cX7_restore 79 = .ok (.aload_n 0, 1) := by decide +kernel
theorem dX7_restore_80 : decode cX7_restore 80 = .ok (.getfield 62, 3) := by decide +kernel
theorem dX7_restore_83 : decode cX7_restore 83 = .ok (.iconst 5, 1) := by decide +kernel
theorem dX7_restore_84 : decode cX7_restore 84 = .ok (.iload_n 1, 1) := by decide +kernel
theorem dX7_restore_85 : decode cX7_restore 85 = .ok (.imul, 1) := by decide +kernel
theorem dX7_restore_86 : decode cX7_restore 86 = .ok (.iconst 4, 1) := by decide +kernel
theorem dX7_restore_87 : decode cX7_restore 87 = .ok (.iadd, 1) := by decide +kernel
theorem dX7_restore_88 : decode cX7_restore 88 = .ok (.iaload, 1) := by decide +kernel
theorem dX7_restore_89 : decode cX7_restore 89 = .ok (.putfield 189, 3) := by decide +kernel
theorem dX7_restore_92 : decode cX7_restore 92 = .ok (.iconst 0, 1) := by decide +kernel
theorem dX7_restore_93 : decode cX7_restore 93 = .ok (.istore_n 2, 1) := by decide +kernel
theorem dX7_restore_94 : decode cX7_restore 94 = .ok (.iload_n 2, 1) := by decide +kernel
theorem dX7_restore_95 : decode cX7_restore 95 = .ok (.bipush 8, 2) := by decide +kernel
theorem dX7_restore_97 : decode cX7_restore 97 = .ok (.if_icmp .ge 26, 3) := by decide +kernel
theorem dX7_restore_100 : decode cX7_restore 100 = .ok (.aload_n 0, 1) := by decide +kernel
theorem dX7_restore_101 : decode cX7_restore 101 = .ok (.getfield 22, 3) := by decide +kernel
theorem dX7_restore_104 : decode cX7_restore 104 = .ok (.iload_n 2, 1) := by decide +kernel
theorem dX7_restore_105 : decode cX7_restore 105 = .ok (.aload_n 0, 1) := by decide +kernel
theorem dX7_restore_106 : decode cX7_restore 106 = .ok (.getfield 65, 3) := by decide +kernel
theorem dX7_restore_109 : decode cX7_restore 109 = .ok (.bipush 8, 2) := by decide +kernel
theorem dX7_restore_111 : decode cX7_restore 111 = .ok (.iload_n 1, 1) := by decide +kernel
theorem dX7_restore_112 : decode cX7_restore 112 = .ok (.imul, 1) := by decide +kernel
theorem dX7_restore_113 : decode cX7_restore 113 = .ok (.iload_n 2, 1) := by decide +kernel
theorem dX7_restore_114 : decode cX7_restore 114 = .ok (.iadd, 1) := by decide +kernel
theorem dX7_restore_115 : decode cX7_restore 115 = .ok (.iaload, 1) := by decide +kernel
theorem dX7_restore_116 : decode cX7_restore 116 = .ok (.iastore, 1) := by decide +kernel
theorem dX7_restore_117 : decode cX7_restore 117 = .ok (.iinc 2 1, 3) := by decide +kernel
theorem dX7_restore_120 : decode cX7_restore 120 = .ok (.goto (-26), 3) := by decide +kernel
theorem dX7_restore_123 : decode cX7_restore 123 = .ok (.iconst 0, 1) := by decide +kernel
theorem dX7_restore_124 : decode cX7_restore 124 = .ok (.istore_n 2, 1) := by decide +kernel
theorem dX7_restore_125 : decode cX7_restore 125 = .ok (.iload_n 2, 1) := by decide +kernel
theorem dX7_restore_126 : decode cX7_restore 126 = .ok (.iconst 4, 1) := by decide +kernel
theorem dX7_restore_127 : decode cX7_restore 127 = .ok (.if_icmp .ge 41, 3) := by decide +kernel
theorem dX7_restore_130 : decode cX7_restore 130 = .ok (.aload_n 0, 1) := by decide +kernel
theorem dX7_restore_131 : decode cX7_restore 131 = .ok (.getfield 25, 3) := by decide +kernel
theorem dX7_restore_134 : decode cX7_restore 134 = .ok (.iload_n 2, 1) := by decide +kernel
theorem dX7_restore_135 : decode cX7_restore 135 = .ok (.aload_n 0, 1) := by decide +kernel
theorem dX7_restore_136 : decode cX7_restore 136 = .ok (.getfield 68, 3) := by decide +kernel
theorem dX7_restore_139 : decode cX7_restore 139 = .ok (.iconst 4, 1) := by decide +kernel
theorem dX7_restore_140 : decode cX7_restore 140 = .ok (.iload_n 1, 1) := by decide +kernel
theorem dX7_restore_141 : decode cX7_restore 141 = .ok (.imul, 1) := by decide +kernel
theorem dX7_restore_142 : decode cX7_restore 142 = .ok (.iload_n 2, 1) := by decide +kernel
theorem dX7_restore_143 : decode cX7_restore 143 = .ok (.iadd, 1) := by decide +kernel
theorem dX7_restore_144 : decode cX7_restore 144 = .ok (.iaload, 1) := by decide +kernel
theorem dX7_restore_145 : decode cX7_restore 145 = .ok (.iastore, 1) := by decide +kernel
theorem dX7_restore_146 : decode cX7_restore 146 = .ok (.aload_n 0, 1) := by decide +kernel
theorem dX7_restore_147 : decode cX7_restore 147 = .ok (.getfield 28, 3) := by decide +kernel
theorem dX7_restore_150 : decode cX7_restore 150 = .ok (.iload_n 2, 1) := by decide +kernel
theorem dX7_restore_151 : decode cX7_restore 151 = .ok (.aload_n 0, 1) := by decide +kernel
theorem dX7_restore_152 : decode cX7_restore 152 = .ok (.getfield 71, 3) := by decide +kernel
theorem dX7_restore_155 : decode cX7_restore 155 = .ok (.iconst 4, 1) := by decide +kernel
theorem dX7_restore_156 : decode cX7_restore 156 = .ok (.iload_n 1, 1) := by decide +kernel
theorem dX7_restore_157 : decode cX7_restore 157 = .ok (.imul, 1) := by decide +kernel
theorem dX7_restore_158 : decode cX7_restore 158 = .ok (.iload_n 2, 1) := by decide +kernel
theorem dX7_restore_159 : decode cX7_restore 159 = .ok (.iadd, 1) := by decide +kernel
theorem dX7_restore_160 : decode cX7_restore 160 = .ok (.iaload, 1) := by decide +kernel
theorem dX7_restore_161 : decode cX7_restore 161 = .ok (.iastore, 1) := by decide +kernel
theorem dX7_restore_162 : decode cX7_restore 162 = .ok (.iinc 2 1, 3) := by decide +kernel
theorem dX7_restore_165 : decode cX7_restore 165 = .ok (.goto (-40), 3) := by decide +kernel
theorem dX7_restore_168 : decode cX7_restore 168 = .ok (.iconst 0, 1) := by decide +kernel
theorem dX7_restore_169 : decode cX7_restore 169 = .ok (.istore_n 2, 1) := by decide +kernel
theorem dX7_restore_170 : decode cX7_restore 170 = .ok (.iload_n 2, 1) := by decide +kernel
theorem dX7_restore_171 : decode cX7_restore 171 = .ok (.bipush 14, 2) := by decide +kernel
theorem dX7_restore_173 : decode cX7_restore 173 = .ok (.if_icmp .ge 26, 3) := by decide +kernel
theorem dX7_restore_176 : decode cX7_restore 176 = .ok (.aload_n 0, 1) := by decide +kernel
theorem dX7_restore_177 : decode cX7_restore 177 = .ok (.getfield 31, 3) := by decide +kernel
theorem dX7_restore_180 : decode cX7_restore 180 = .ok (.iload_n 2, 1) := by decide +kernel
theorem dX7_restore_181 : decode cX7_restore 181 = .ok (.aload_n 0, 1) := by decide +kernel
theorem dX7_restore_182 : decode cX7_restore 182 = .ok (.getfield 74, 3) := by decide +kernel
theorem dX7_restore_185 : decode cX7_restore 185 = .ok (.bipush 14, 2) := by decide +kernel
theorem dX7_restore_187 : decode cX7_restore 187 = .ok (.iload_n 1, 1) := by decide +kernel
theorem dX7_restore_188 : decode cX7_restore 188 = .ok (.imul, 1) := by decide +kernel
theorem dX7_restore_189 : decode cX7_restore 189 = .ok (.iload_n 2, 1) := by decide +kernel
theorem dX7_restore_190 : decode cX7_restore 190 = .ok (.iadd, 1) := by decide +kernel
theorem dX7_restore_191 : decode cX7_restore 191 = .ok (.iaload, 1) := by decide +kernel
theorem dX7_restore_192 : decode cX7_restore 192 = .ok (.iastore, 1) := by decide +kernel
theorem dX7_restore_193 : decode cX7_restore 193 = .ok (.iinc 2 1, 3) := by decide +kernel
theorem dX7_restore_196 : decode cX7_restore 196 = .ok (.goto (-26), 3) := by decide +kernel
theorem dX7_restore_199 : decode cX7_restore 199 = .ok (.aload_n 0, 1) := by decide +kernel
theorem dX7_restore_200 : decode cX7_restore 200 = .ok (.iconst 0, 1) := by decide +kernel
theorem dX7_restore_201 : decode cX7_restore 201 = .ok (.putfield 192, 3) := by decide +kernel
theorem dX7_restore_204 : decode cX7_restore 204 = .ok (.iconst 1, 1) := by decide +kernel
theorem dX7_restore_205 : decode cX7_restore 205 = .ok (.ireturn, 1) := by decide +kernel
theorem dX7_kind_0 : decode cX7_kind 0 = .ok (.aload_n 0, 1) := by decide +kernel
theorem dX7_kind_1 : decode cX7_kind 1 = .ok (.iload_n 1, 1) := by decide +kernel
theorem dX7_kind_2 : decode cX7_kind 2 = .ok (.invokevirtual 217, 3) := by decide +kernel
theorem dX7_kind_5 : decode cX7_kind 5 = .ok (.ifCond .eq 12, 3) := by decide +kernel
theorem dX7_kind_8 : decode cX7_kind 8 = .ok (.aload_n 0, 1) := by decide +kernel
theorem dX7_kind_9 : decode cX7_kind 9 = .ok (.getfield 28, 3) := by decide +kernel
theorem dX7_kind_12 : decode cX7_kind 12 = .ok (.iload_n 1, 1) := by decide +kernel
theorem dX7_kind_13 : decode cX7_kind 13 = .ok (.iaload, 1) := by decide +kernel
theorem dX7_kind_14 : decode cX7_kind 14 = .ok (.goto 5, 3) := by decide +kernel
theorem dX7_kind_17 : decode cX7_kind 17 = .ok (.ldc 93, 2) := by decide +kernel
theorem dX7_kind_19 : decode cX7_kind 19 = .ok (.ireturn, 1) := by decide +kernel
theorem dX7_isOf_0 : decode cX7_isOf 0 = .ok (.iload_n 1, 1) := by decide +kernel
theorem dX7_isOf_1 : decode cX7_isOf 1 = .ok (.iconst 1, 1) := by decide +kernel
theorem dX7_isOf_2 : decode cX7_isOf 2 = .ok (.if_icmp .eq 13, 3) := by decide +kernel
theorem dX7_isOf_5 : decode cX7_isOf 5 = .ok (.iload_n 1, 1) := by decide +kernel
theorem dX7_isOf_6 : decode cX7_isOf 6 = .ok (.iconst 2, 1) := by decide +kernel
theorem dX7_isOf_7 : decode cX7_isOf 7 = .ok (.if_icmp .eq 8, 3) := by decide +kernel
theorem dX7_isOf_10 : decode cX7_isOf 10 = .ok (.iload_n 1, 1) := by decide +kernel
theorem dX7_isOf_11 : decode cX7_isOf 11 = .ok (.iconst 3, 1) := by decide +kernel
theorem dX7_isOf_12 : decode cX7_isOf 12 = .ok (.if_icmp .ne 7, 3) := by decide +kernel
theorem dX7_isOf_15 : decode cX7_isOf 15 = .ok (.iconst 1, 1) := by decide +kernel
theorem dX7_isOf_16 : decode cX7_isOf 16 = .ok (.goto 4, 3) := by decide +kernel
theorem dX7_isOf_19 : decode cX7_isOf 19 = .ok (.iconst 0, 1) := by decide +kernel
theorem dX7_isOf_20 : decode cX7_isOf 20 = .ok (.istore_n 3, 1) := by decide +kernel
theorem dX7_isOf_21 : decode cX7_isOf 21 = .ok (.iload_n 2, 1) := by decide +kernel
theorem dX7_isOf_22 : decode cX7_isOf 22 = .ok (.ifCond .eq 27, 3) := by decide +kernel
theorem dX7_isOf_25 : decode cX7_isOf 25 = .ok (.iload_n 2, 1) := by decide +kernel
theorem dX7_isOf_26 : decode cX7_isOf 26 = .ok (.iload_n 1, 1) := by decide +kernel
theorem dX7_isOf_27 : decode cX7_isOf 27 = .ok (.if_icmp .eq 22, 3) := by decide +kernel
theorem dX7_isOf_30 : decode cX7_isOf 30 = .ok (.iload_n 2, 1) := by decide +kernel
theorem dX7_isOf_31 : decode cX7_isOf 31 = .ok (.iconst 1, 1) := by decide +kernel
theorem dX7_isOf_32 : decode cX7_isOf 32 = .ok (.if_icmp .ne 7, 3) := by decide +kernel
theorem dX7_isOf_35 : decode cX7_isOf 35 = .ok (.iload_n 3, 1) := by decide +kernel
theorem dX7_isOf_36 : decode cX7_isOf 36 = .ok (.ifCond .ne 13, 3) := by decide +kernel
theorem dX7_isOf_39 : decode cX7_isOf 39 = .ok (.iload_n 2, 1) := by decide +kernel
theorem dX7_isOf_40 : decode cX7_isOf 40 = .ok (.iconst 4, 1) := by decide +kernel
theorem dX7_isOf_41 : decode cX7_isOf 41 = .ok (.if_icmp .ne 12, 3) := by decide +kernel
theorem dX7_isOf_44 : decode cX7_isOf 44 = .ok (.iload_n 1, 1) := by decide +kernel
theorem dX7_isOf_45 : decode cX7_isOf 45 = .ok (.iconst 5, 1) := by decide +kernel
theorem dX7_isOf_46 : decode cX7_isOf 46 = .ok (.if_icmp .ne 7, 3) := by decide +kernel
theorem dX7_isOf_49 : decode cX7_isOf 49 = .ok (.iconst 1, 1) := by decide +kernel
theorem dX7_isOf_50 : decode cX7_isOf 50 = .ok (.goto 4, 3) := by decide +kernel
theorem dX7_isOf_53 : decode cX7_isOf 53 = .ok (.iconst 0, 1) := by decide +kernel
theorem dX7_isOf_54 : decode cX7_isOf 54 = .ok (.ireturn, 1) := by decide +kernel
theorem dX7_as_0 : decode cX7_as 0 = .ok (.aload_n 0, 1) := by decide +kernel
theorem dX7_as_1 : decode cX7_as 1 = .ok (.iload_n 1, 1) := by decide +kernel
theorem dX7_as_2 : decode cX7_as 2 = .ok (.invokevirtual 217, 3) := by decide +kernel
theorem dX7_as_5 : decode cX7_as 5 = .ok (.ifCond .eq 12, 3) := by decide +kernel
theorem dX7_as_8 : decode cX7_as 8 = .ok (.iload_n 2, 1) := by decide +kernel
theorem dX7_as_9 : decode cX7_as 9 = .ok (.iconst 0, 1) := by decide +kernel
theorem dX7_as_10 : decode cX7_as 10 = .ok (.iconst 5, 1) := by decide +kernel
theorem dX7_as_11 : decode cX7_as 11 = .ok (.invokestatic 85, 3) := by decide +kernel
theorem dX7_as_14 : decode cX7_as 14 = .ok (.ifCond .ne 6, 3) := by decide +kernel
theorem dX7_as_17 : decode cX7_as 17 = .ok (.ldc 93, 2) := by decide +kernel
theorem dX7_as_19 : decode cX7_as 19 = .ok (.ireturn, 1) := by decide +kernel
theorem dX7_as_20 : decode cX7_as 20 = .ok (.aload_n 0, 1) := by decide +kernel
theorem dX7_as_21 : decode cX7_as 21 = .ok (.aload_n 0, 1) := by decide +kernel
theorem dX7_as_22 : decode cX7_as 22 = .ok (.getfield 28, 3) := by decide +kernel
theorem dX7_as_25 : decode cX7_as 25 = .ok (.iload_n 1, 1) := by decide +kernel
theorem dX7_as_26 : decode cX7_as 26 = .ok (.iaload, 1) := by decide +kernel
theorem dX7_as_27 : decode cX7_as 27 = .ok (.iload_n 2, 1) := by decide +kernel
theorem dX7_as_28 : decode cX7_as 28 = .ok (.invokevirtual 285, 3) := by decide +kernel
theorem dX7_as_31 : decode cX7_as 31 = .ok (.ifCond .eq 11, 3) := by decide +kernel
theorem dX7_as_34 : decode cX7_as 34 = .ok (.aload_n 0, 1) := by decide +kernel
theorem dX7_as_35 : decode cX7_as 35 = .ok (.iload_n 1, 1) := by decide +kernel
theorem dX7_as_36 : decode cX7_as 36 = .ok (.invokevirtual 98, 3) := by decide +kernel
theorem dX7_as_39 : decode cX7_as 39 = .ok (.goto 8, 3) := by decide +kernel
theorem dX7_as_42 : decode cX7_as 42 = .ok (.aload_n 0, 1) := by decide +kernel
theorem dX7_as_43 : decode cX7_as 43 = .ok (.iconst 3, 1) := by decide +kernel
theorem dX7_as_44 : decode cX7_as 44 = .ok (.invokevirtual 94, 3) := by decide +kernel
theorem dX7_as_47 : decode cX7_as 47 = .ok (.ireturn, 1) := by decide +kernel
theorem dX7_leaves_0 : decode cX7_leaves 0 = .ok (.aload_n 0, 1) := by decide +kernel
theorem dX7_leaves_1 : decode cX7_leaves 1 = .ok (.getfield 288, 3) := by decide +kernel
theorem dX7_leaves_4 : decode cX7_leaves 4 = .ok (.bipush 16, 2) := by decide +kernel
theorem dX7_leaves_6 : decode cX7_leaves 6 = .ok (.if_icmp .ge 23, 3) := by decide +kernel
theorem dX7_leaves_9 : decode cX7_leaves 9 = .ok (.aload_n 0, 1) := by decide +kernel
theorem dX7_leaves_10 : decode cX7_leaves 10 = .ok (.getfield 77, 3) := by decide +kernel
theorem dX7_leaves_13 : decode cX7_leaves 13 = .ok (.aload_n 0, 1) := by decide +kernel
theorem dX7_leaves_14 : decode cX7_leaves 14 = .ok (.getfield 288, 3) := by decide +kernel
theorem dX7_leaves_17 : decode cX7_leaves 17 = .ok (.iload_n 1, 1) := by decide +kernel
theorem dX7_leaves_18 : decode cX7_leaves 18 = .ok (.iastore, 1) := by decide +kernel
theorem dX7_leaves_19 : decode cX7_leaves 19 = .ok (.aload_n 0, 1) := by decide +kernel
theorem dX7_leaves_20 : decode cX7_leaves 20 = .ok (.dup, 1) := by decide +kernel
theorem dX7_leaves_21 : decode cX7_leaves 21 = .ok (.getfield 288, 3) := by decide +kernel
theorem dX7_leaves_24 : decode cX7_leaves 24 = .ok (.iconst 1, 1) := by decide +kernel
theorem dX7_leaves_25 : decode cX7_leaves 25 = .ok (.iadd, 1) := by decide +kernel
theorem dX7_leaves_26 : decode cX7_leaves 26 = .ok (.putfield 288, 3) := by decide +kernel
theorem dX7_leaves_29 : decode cX7_leaves 29 = .ok (.return_, 1) := by decide +kernel
theorem dX7_body10_0 : decode cX7_body10 0 = .ok (.aload_n 0, 1) := by decide +kernel
theorem dX7_body10_1 : decode cX7_body10 1 = .ok (.bipush 10, 2) := by decide +kernel
theorem dX7_body10_3 : decode cX7_body10 3 = .ok (.invokevirtual 291, 3) := by decide +kernel
theorem dX7_body10_6 : decode cX7_body10 6 = .ok (.aload_n 0, 1) := by decide +kernel
theorem dX7_body10_7 : decode cX7_body10 7 = .ok (.getfield 25, 3) := by decide +kernel
theorem dX7_body10_10 : decode cX7_body10 10 = .ok (.iload_n 1, 1) := by decide +kernel
theorem dX7_body10_11 : decode cX7_body10 11 = .ok (.iaload, 1) := by decide +kernel
theorem dX7_body10_12 : decode cX7_body10 12 = .ok (.ireturn, 1) := by decide +kernel
theorem dX7_body13_0 : decode cX7_body13 0 = .ok (.aload_n 0, 1) := by decide +kernel
theorem dX7_body13_1 : decode cX7_body13 1 = .ok (.bipush 13, 2) := by decide +kernel
theorem dX7_body13_3 : decode cX7_body13 3 = .ok (.invokevirtual 291, 3) := by decide +kernel
theorem dX7_body13_6 : decode cX7_body13 6 = .ok (.aload_n 0, 1) := by decide +kernel
theorem dX7_body13_7 : decode cX7_body13 7 = .ok (.iload_n 1, 1) := by decide +kernel
theorem dX7_body13_8 : decode cX7_body13 8 = .ok (.invokevirtual 295, 3) := by decide +kernel
theorem dX7_body13_11 : decode cX7_body13 11 = .ok (.bipush 100, 2) := by decide +kernel
theorem dX7_body13_13 : decode cX7_body13 13 = .ok (.isub, 1) := by decide +kernel
theorem dX7_body13_14 : decode cX7_body13 14 = .ok (.ireturn, 1) := by decide +kernel
theorem dX7_boySize_0 : decode cX7_boySize 0 = .ok (.aload_n 0, 1) := by decide +kernel
theorem dX7_boySize_1 : decode cX7_boySize 1 = .ok (.getfield 28, 3) := by decide +kernel
theorem dX7_boySize_4 : decode cX7_boySize 4 = .ok (.iload_n 1, 1) := by decide +kernel
theorem dX7_boySize_5 : decode cX7_boySize 5 = .ok (.iaload, 1) := by decide +kernel
theorem dX7_boySize_6 : decode cX7_boySize 6 = .ok (.iconst 4, 1) := by decide +kernel
theorem dX7_boySize_7 : decode cX7_boySize 7 = .ok (.if_icmp .ne 9, 3) := by decide +kernel
theorem dX7_boySize_10 : decode cX7_boySize 10 = .ok (.aload_n 0, 1) := by decide +kernel
theorem dX7_boySize_11 : decode cX7_boySize 11 = .ok (.iload_n 1, 1) := by decide +kernel
theorem dX7_boySize_12 : decode cX7_boySize 12 = .ok (.invokevirtual 298, 3) := by decide +kernel
theorem dX7_boySize_15 : decode cX7_boySize 15 = .ok (.ireturn, 1) := by decide +kernel
theorem dX7_boySize_16 : decode cX7_boySize 16 = .ok (.aload_n 0, 1) := by decide +kernel
theorem dX7_boySize_17 : decode cX7_boySize 17 = .ok (.bipush 14, 2) := by decide +kernel
theorem dX7_boySize_19 : decode cX7_boySize 19 = .ok (.invokevirtual 291, 3) := by decide +kernel
theorem dX7_boySize_22 : decode cX7_boySize 22 = .ok (.iconst 2, 1) := by decide +kernel
theorem dX7_boySize_23 : decode cX7_boySize 23 = .ok (.aload_n 0, 1) := by decide +kernel
theorem dX7_boySize_24 : decode cX7_boySize 24 = .ok (.iload_n 1, 1) := by decide +kernel
theorem dX7_boySize_25 : decode cX7_boySize 25 = .ok (.invokevirtual 298, 3) := by decide +kernel
theorem dX7_boySize_28 : decode cX7_boySize 28 = .ok (.imul, 1) := by decide +kernel
theorem dX7_boySize_29 : decode cX7_boySize 29 = .ok (.ireturn, 1) := by decide +kernel
theorem dX7_body20_0 : decode cX7_body20 0 = .ok (.aload_n 0, 1) := by decide +kernel
theorem dX7_body20_1 : decode cX7_body20 1 = .ok (.bipush 20, 2) := by decide +kernel
theorem dX7_body20_3 : decode cX7_body20 3 = .ok (.invokevirtual 291, 3) := by decide +kernel
theorem dX7_body20_6 : decode cX7_body20 6 = .ok (.iload_n 1, 1) := by decide +kernel
theorem dX7_body20_7 : decode cX7_body20 7 = .ok (.ireturn, 1) := by decide +kernel
theorem dX7_body21_0 : decode cX7_body21 0 = .ok (.aload_n 0, 1) := by decide +kernel
theorem dX7_body21_1 : decode cX7_body21 1 = .ok (.bipush 21, 2) := by decide +kernel
theorem dX7_body21_3 : decode cX7_body21 3 = .ok (.invokevirtual 291, 3) := by decide +kernel
theorem dX7_body21_6 : decode cX7_body21 6 = .ok (.aload_n 0, 1) := by decide +kernel
theorem dX7_body21_7 : decode cX7_body21 7 = .ok (.iload_n 1, 1) := by decide +kernel
theorem dX7_body21_8 : decode cX7_body21 8 = .ok (.invokevirtual 301, 3) := by decide +kernel
theorem dX7_body21_11 : decode cX7_body21 11 = .ok (.aload_n 0, 1) := by decide +kernel
theorem dX7_body21_12 : decode cX7_body21 12 = .ok (.getfield 31, 3) := by decide +kernel
theorem dX7_body21_15 : decode cX7_body21 15 = .ok (.bipush 8, 2) := by decide +kernel
theorem dX7_body21_17 : decode cX7_body21 17 = .ok (.iload_n 1, 1) := by decide +kernel
theorem dX7_body21_18 : decode cX7_body21 18 = .ok (.iadd, 1) := by decide +kernel
theorem dX7_body21_19 : decode cX7_body21 19 = .ok (.iaload, 1) := by decide +kernel
theorem dX7_body21_20 : decode cX7_body21 20 = .ok (.iadd, 1) := by decide +kernel
theorem dX7_body21_21 : decode cX7_body21 21 = .ok (.ireturn, 1) := by decide +kernel
theorem dX7_markOf_0 : decode cX7_markOf 0 = .ok (.aload_n 0, 1) := by decide +kernel
theorem dX7_markOf_1 : decode cX7_markOf 1 = .ok (.getfield 28, 3) := by decide +kernel
theorem dX7_markOf_4 : decode cX7_markOf 4 = .ok (.iload_n 1, 1) := by decide +kernel
theorem dX7_markOf_5 : decode cX7_markOf 5 = .ok (.iaload, 1) := by decide +kernel
theorem dX7_markOf_6 : decode cX7_markOf 6 = .ok (.tableswitch 62 1 3 #[26, 32, 46], 26) := by decide +kernel
theorem dX7_markOf_32 : decode cX7_markOf 32 = .ok (.aload_n 0, 1) := by decide +kernel
theorem dX7_markOf_33 : decode cX7_markOf 33 = .ok (.iload_n 1, 1) := by decide +kernel
theorem dX7_markOf_34 : decode cX7_markOf 34 = .ok (.invokevirtual 304, 3) := by decide +kernel
theorem dX7_markOf_37 : decode cX7_markOf 37 = .ok (.ireturn, 1) := by decide +kernel
theorem dX7_markOf_38 : decode cX7_markOf 38 = .ok (.aload_n 0, 1) := by decide +kernel
theorem dX7_markOf_39 : decode cX7_markOf 39 = .ok (.bipush 24, 2) := by decide +kernel
theorem dX7_markOf_41 : decode cX7_markOf 41 = .ok (.invokevirtual 291, 3) := by decide +kernel
theorem dX7_markOf_44 : decode cX7_markOf 44 = .ok (.iconst 2, 1) := by decide +kernel
theorem dX7_markOf_45 : decode cX7_markOf 45 = .ok (.aload_n 0, 1) := by decide +kernel
theorem dX7_markOf_46 : decode cX7_markOf 46 = .ok (.iload_n 1, 1) := by decide +kernel
theorem dX7_markOf_47 : decode cX7_markOf 47 = .ok (.invokevirtual 304, 3) := by decide +kernel
theorem dX7_markOf_50 : decode cX7_markOf 50 = .ok (.imul, 1) := by decide +kernel
theorem dX7_markOf_51 : decode cX7_markOf 51 = .ok (.ireturn, 1) := by decide +kernel
theorem dX7_markOf_52 : decode cX7_markOf 52 = .ok (.aload_n 0, 1) := by decide +kernel
theorem dX7_markOf_53 : decode cX7_markOf 53 = .ok (.bipush 22, 2) := by decide +kernel
theorem dX7_markOf_55 : decode cX7_markOf 55 = .ok (.invokevirtual 291, 3) := by decide +kernel
theorem dX7_markOf_58 : decode cX7_markOf 58 = .ok (.aload_n 0, 1) := by decide +kernel
theorem dX7_markOf_59 : decode cX7_markOf 59 = .ok (.iload_n 1, 1) := by decide +kernel
theorem dX7_markOf_60 : decode cX7_markOf 60 = .ok (.invokevirtual 304, 3) := by decide +kernel
theorem dX7_markOf_63 : decode cX7_markOf 63 = .ok (.sipush 1000, 3) := by decide +kernel
theorem dX7_markOf_66 : decode cX7_markOf 66 = .ok (.isub, 1) := by decide +kernel
theorem dX7_markOf_67 : decode cX7_markOf 67 = .ok (.ireturn, 1) := by decide +kernel
theorem dX7_markOf_68 : decode cX7_markOf 68 = .ok (.aload_n 0, 1) := by decide +kernel
theorem dX7_markOf_69 : decode cX7_markOf 69 = .ok (.bipush 23, 2) := by decide +kernel
theorem dX7_markOf_71 : decode cX7_markOf 71 = .ok (.invokevirtual 291, 3) := by decide +kernel
theorem dX7_markOf_74 : decode cX7_markOf 74 = .ok (.aload_n 0, 1) := by decide +kernel
theorem dX7_markOf_75 : decode cX7_markOf 75 = .ok (.iload_n 1, 1) := by decide +kernel
theorem dX7_markOf_76 : decode cX7_markOf 76 = .ok (.invokevirtual 301, 3) := by decide +kernel
theorem dX7_markOf_79 : decode cX7_markOf 79 = .ok (.aload_n 0, 1) := by decide +kernel
theorem dX7_markOf_80 : decode cX7_markOf 80 = .ok (.iload_n 1, 1) := by decide +kernel
theorem dX7_markOf_81 : decode cX7_markOf 81 = .ok (.invokevirtual 307, 3) := by decide +kernel
theorem dX7_markOf_84 : decode cX7_markOf 84 = .ok (.isub, 1) := by decide +kernel
theorem dX7_markOf_85 : decode cX7_markOf 85 = .ok (.ireturn, 1) := by decide +kernel
theorem dX7_body11_0 : decode cX7_body11 0 = .ok (.aload_n 0, 1) := by decide +kernel
theorem dX7_body11_1 : decode cX7_body11 1 = .ok (.bipush 11, 2) := by decide +kernel
theorem dX7_body11_3 : decode cX7_body11 3 = .ok (.invokevirtual 291, 3) := by decide +kernel
theorem dX7_body11_6 : decode cX7_body11 6 = .ok (.aload_n 0, 1) := by decide +kernel
theorem dX7_body11_7 : decode cX7_body11 7 = .ok (.iload_n 1, 1) := by decide +kernel
theorem dX7_body11_8 : decode cX7_body11 8 = .ok (.invokevirtual 295, 3) := by decide +kernel
theorem dX7_body11_11 : decode cX7_body11 11 = .ok (.aload_n 0, 1) := by decide +kernel
theorem dX7_body11_12 : decode cX7_body11 12 = .ok (.iload_n 1, 1) := by decide +kernel
theorem dX7_body11_13 : decode cX7_body11 13 = .ok (.invokevirtual 310, 3) := by decide +kernel
theorem dX7_body11_16 : decode cX7_body11 16 = .ok (.iadd, 1) := by decide +kernel
theorem dX7_body11_17 : decode cX7_body11 17 = .ok (.ireturn, 1) := by decide +kernel
theorem dX7_sizeOf_0 : decode cX7_sizeOf 0 = .ok (.aload_n 0, 1) := by decide +kernel
theorem dX7_sizeOf_1 : decode cX7_sizeOf 1 = .ok (.getfield 28, 3) := by decide +kernel
theorem dX7_sizeOf_4 : decode cX7_sizeOf 4 = .ok (.iload_n 1, 1) := by decide +kernel
theorem dX7_sizeOf_5 : decode cX7_sizeOf 5 = .ok (.iaload, 1) := by decide +kernel
theorem dX7_sizeOf_6 : decode cX7_sizeOf 6 = .ok (.tableswitch 45 1 3 #[26, 32, 26], 26) := by decide +kernel
theorem dX7_sizeOf_32 : decode cX7_sizeOf 32 = .ok (.aload_n 0, 1) := by decide +kernel
theorem dX7_sizeOf_33 : decode cX7_sizeOf 33 = .ok (.iload_n 1, 1) := by decide +kernel
theorem dX7_sizeOf_34 : decode cX7_sizeOf 34 = .ok (.invokevirtual 313, 3) := by decide +kernel
theorem dX7_sizeOf_37 : decode cX7_sizeOf 37 = .ok (.ireturn, 1) := by decide +kernel
theorem dX7_sizeOf_38 : decode cX7_sizeOf 38 = .ok (.aload_n 0, 1) := by decide +kernel
theorem dX7_sizeOf_39 : decode cX7_sizeOf 39 = .ok (.bipush 12, 2) := by decide +kernel
theorem dX7_sizeOf_41 : decode cX7_sizeOf 41 = .ok (.invokevirtual 291, 3) := by decide +kernel
theorem dX7_sizeOf_44 : decode cX7_sizeOf 44 = .ok (.aload_n 0, 1) := by decide +kernel
theorem dX7_sizeOf_45 : decode cX7_sizeOf 45 = .ok (.iload_n 1, 1) := by decide +kernel
theorem dX7_sizeOf_46 : decode cX7_sizeOf 46 = .ok (.invokevirtual 313, 3) := by decide +kernel
theorem dX7_sizeOf_49 : decode cX7_sizeOf 49 = .ok (.ineg, 1) := by decide +kernel
theorem dX7_sizeOf_50 : decode cX7_sizeOf 50 = .ok (.ireturn, 1) := by decide +kernel
theorem dX7_sizeOf_51 : decode cX7_sizeOf 51 = .ok (.aload_n 0, 1) := by decide +kernel
theorem dX7_sizeOf_52 : decode cX7_sizeOf 52 = .ok (.iload_n 1, 1) := by decide +kernel
theorem dX7_sizeOf_53 : decode cX7_sizeOf 53 = .ok (.invokevirtual 307, 3) := by decide +kernel
theorem dX7_sizeOf_56 : decode cX7_sizeOf 56 = .ok (.ireturn, 1) := by decide +kernel
theorem dX7_ask_0 : decode cX7_ask 0 = .ok (.aload_n 0, 1) := by decide +kernel
theorem dX7_ask_1 : decode cX7_ask 1 = .ok (.iload_n 1, 1) := by decide +kernel
theorem dX7_ask_2 : decode cX7_ask 2 = .ok (.invokevirtual 217, 3) := by decide +kernel
theorem dX7_ask_5 : decode cX7_ask 5 = .ok (.ifCond .eq 12, 3) := by decide +kernel
theorem dX7_ask_8 : decode cX7_ask 8 = .ok (.iload_n 2, 1) := by decide +kernel
theorem dX7_ask_9 : decode cX7_ask 9 = .ok (.iconst 0, 1) := by decide +kernel
theorem dX7_ask_10 : decode cX7_ask 10 = .ok (.iconst 1, 1) := by decide +kernel
theorem dX7_ask_11 : decode cX7_ask 11 = .ok (.invokestatic 85, 3) := by decide +kernel
theorem dX7_ask_14 : decode cX7_ask 14 = .ok (.ifCond .ne 6, 3) := by decide +kernel
theorem dX7_ask_17 : decode cX7_ask 17 = .ok (.ldc 93, 2) := by decide +kernel
theorem dX7_ask_19 : decode cX7_ask 19 = .ok (.ireturn, 1) := by decide +kernel
theorem dX7_ask_20 : decode cX7_ask 20 = .ok (.aload_n 0, 1) := by decide +kernel
theorem dX7_ask_21 : decode cX7_ask 21 = .ok (.iconst 0, 1) := by decide +kernel
theorem dX7_ask_22 : decode cX7_ask 22 = .ok (.putfield 288, 3) := by decide +kernel
theorem dX7_ask_25 : decode cX7_ask 25 = .ok (.iload_n 2, 1) := by decide +kernel
theorem dX7_ask_26 : decode cX7_ask 26 = .ok (.ifCond .ne 11, 3) := by decide +kernel
theorem dX7_ask_29 : decode cX7_ask 29 = .ok (.aload_n 0, 1) := by decide +kernel
theorem dX7_ask_30 : decode cX7_ask 30 = .ok (.iload_n 1, 1) := by decide +kernel
theorem dX7_ask_31 : decode cX7_ask 31 = .ok (.invokevirtual 316, 3) := by decide +kernel
theorem dX7_ask_34 : decode cX7_ask 34 = .ok (.goto 8, 3) := by decide +kernel
theorem dX7_ask_37 : decode cX7_ask 37 = .ok (.aload_n 0, 1) := by decide +kernel
theorem dX7_ask_38 : decode cX7_ask 38 = .ok (.iload_n 1, 1) := by decide +kernel
theorem dX7_ask_39 : decode cX7_ask 39 = .ok (.invokevirtual 310, 3) := by decide +kernel
theorem dX7_ask_42 : decode cX7_ask 42 = .ok (.ireturn, 1) := by decide +kernel
theorem dX7_trace_0 : decode cX7_trace 0 = .ok (.iload_n 1, 1) := by decide +kernel
theorem dX7_trace_1 : decode cX7_trace 1 = .ok (.iconst 0, 1) := by decide +kernel
theorem dX7_trace_2 : decode cX7_trace 2 = .ok (.aload_n 0, 1) := by decide +kernel
theorem dX7_trace_3 : decode cX7_trace 3 = .ok (.getfield 288, 3) := by decide +kernel
theorem dX7_trace_6 : decode cX7_trace 6 = .ok (.iconst 1, 1) := by decide +kernel
theorem dX7_trace_7 : decode cX7_trace 7 = .ok (.isub, 1) := by decide +kernel
theorem dX7_trace_8 : decode cX7_trace 8 = .ok (.invokestatic 85, 3) := by decide +kernel
theorem dX7_trace_11 : decode cX7_trace 11 = .ok (.ifCond .eq 12, 3) := by decide +kernel
theorem dX7_trace_14 : decode cX7_trace 14 = .ok (.aload_n 0, 1) := by decide +kernel
theorem dX7_trace_15 : decode cX7_trace 15 = .ok (.getfield 77, 3) := by decide +kernel
theorem dX7_trace_18 : decode cX7_trace 18 = .ok (.iload_n 1, 1) := by decide +kernel
theorem dX7_trace_19 : decode cX7_trace 19 = .ok (.iaload, 1) := by decide +kernel
theorem dX7_trace_20 : decode cX7_trace 20 = .ok (.goto 5, 3) := by decide +kernel
theorem dX7_trace_23 : decode cX7_trace 23 = .ok (.ldc 150, 2) := by decide +kernel
theorem dX7_trace_25 : decode cX7_trace 25 = .ok (.ireturn, 1) := by decide +kernel
theorem dX7_count_0 : decode cX7_count 0 = .ok (.iconst 0, 1) := by decide +kernel
theorem dX7_count_1 : decode cX7_count 1 = .ok (.istore_n 2, 1) := by decide +kernel
theorem dX7_count_2 : decode cX7_count 2 = .ok (.iconst 0, 1) := by decide +kernel
theorem dX7_count_3 : decode cX7_count 3 = .ok (.istore_n 3, 1) := by decide +kernel
theorem dX7_count_4 : decode cX7_count 4 = .ok (.iload_n 3, 1) := by decide +kernel
theorem dX7_count_5 : decode cX7_count 5 = .ok (.bipush 8, 2) := by decide +kernel
theorem dX7_count_7 : decode cX7_count 7 = .ok (.if_icmp .ge 26, 3) := by decide +kernel
theorem dX7_count_10 : decode cX7_count 10 = .ok (.iload_n 2, 1) := by decide +kernel
theorem dX7_count_11 : decode cX7_count 11 = .ok (.aload_n 0, 1) := by decide +kernel
theorem dX7_count_12 : decode cX7_count 12 = .ok (.getfield 7, 3) := by decide +kernel
theorem dX7_count_15 : decode cX7_count 15 = .ok (.iload_n 3, 1) := by decide +kernel
theorem dX7_count_16 : decode cX7_count 16 = .ok (.iaload, 1) := by decide +kernel
theorem dX7_count_17 : decode cX7_count 17 = .ok (.ifCond .lt 7, 3) := by decide +kernel
theorem dX7_count_20 : decode cX7_count 20 = .ok (.iconst 1, 1) := by decide +kernel
theorem dX7_count_21 : decode cX7_count 21 = .ok (.goto 4, 3) := by decide +kernel
theorem dX7_count_24 : decode cX7_count 24 = .ok (.iconst 0, 1) := by decide +kernel
theorem dX7_count_25 : decode cX7_count 25 = .ok (.iadd, 1) := by decide +kernel
theorem dX7_count_26 : decode cX7_count 26 = .ok (.istore_n 2, 1) := by decide +kernel
theorem dX7_count_27 : decode cX7_count 27 = .ok (.iinc 3 1, 3) := by decide +kernel
theorem dX7_count_30 : decode cX7_count 30 = .ok (.goto (-26), 3) := by decide +kernel
theorem dX7_count_33 : decode cX7_count 33 = .ok (.iload_n 1, 1) := by decide +kernel
theorem dX7_count_34 : decode cX7_count 34 = .ok (.tableswitch 86 0 7 #[46, 48, 53, 58, 63, 71, 76, 81], 46) := by decide +kernel
theorem dX7_count_80 : decode cX7_count 80 = .ok (.iload_n 2, 1) := by decide +kernel
theorem dX7_count_81 : decode cX7_count 81 = .ok (.ireturn, 1) := by decide +kernel
theorem dX7_count_82 : decode cX7_count 82 = .ok (.aload_n 0, 1) := by decide +kernel
theorem dX7_count_83 : decode cX7_count 83 = .ok (.getfield 177, 3) := by decide +kernel
theorem dX7_count_86 : decode cX7_count 86 = .ok (.ireturn, 1) := by decide +kernel
theorem dX7_count_87 : decode cX7_count 87 = .ok (.aload_n 0, 1) := by decide +kernel
theorem dX7_count_88 : decode cX7_count 88 = .ok (.getfield 180, 3) := by decide +kernel
theorem dX7_count_91 : decode cX7_count 91 = .ok (.ireturn, 1) := by decide +kernel
theorem dX7_count_92 : decode cX7_count 92 = .ok (.aload_n 0, 1) := by decide +kernel
theorem dX7_count_93 : decode cX7_count 93 = .ok (.getfield 183, 3) := by decide +kernel
theorem dX7_count_96 : decode cX7_count 96 = .ok (.ireturn, 1) := by decide +kernel
theorem dX7_count_97 : decode cX7_count 97 = .ok (.aload_n 0, 1) := by decide +kernel
theorem dX7_count_98 : decode cX7_count 98 = .ok (.getfield 31, 3) := by decide +kernel
theorem dX7_count_101 : decode cX7_count 101 = .ok (.bipush 13, 2) := by decide +kernel
theorem dX7_count_103 : decode cX7_count 103 = .ok (.iaload, 1) := by decide +kernel
theorem dX7_count_104 : decode cX7_count 104 = .ok (.ireturn, 1) := by decide +kernel
theorem dX7_count_105 : decode cX7_count 105 = .ok (.aload_n 0, 1) := by decide +kernel
theorem dX7_count_106 : decode cX7_count 106 = .ok (.invokevirtual 240, 3) := by decide +kernel
theorem dX7_count_109 : decode cX7_count 109 = .ok (.ireturn, 1) := by decide +kernel
theorem dX7_count_110 : decode cX7_count 110 = .ok (.aload_n 0, 1) := by decide +kernel
theorem dX7_count_111 : decode cX7_count 111 = .ok (.getfield 192, 3) := by decide +kernel
theorem dX7_count_114 : decode cX7_count 114 = .ok (.ireturn, 1) := by decide +kernel
theorem dX7_count_115 : decode cX7_count 115 = .ok (.aload_n 0, 1) := by decide +kernel
theorem dX7_count_116 : decode cX7_count 116 = .ok (.getfield 108, 3) := by decide +kernel
theorem dX7_count_119 : decode cX7_count 119 = .ok (.ireturn, 1) := by decide +kernel
theorem dX7_count_120 : decode cX7_count 120 = .ok (.ldc 93, 2) := by decide +kernel
theorem dX7_count_122 : decode cX7_count 122 = .ok (.ireturn, 1) := by decide +kernel
theorem dJ6_bitCount_0f7a4_0 : decode cJ6_bitCount_0f7a4 0 = .ok (.iload_n 0, 1) := by decide +kernel
theorem dJ6_bitCount_0f7a4_1 : decode cJ6_bitCount_0f7a4 1 = .ok (.iload_n 0, 1) := by decide +kernel
theorem dJ6_bitCount_0f7a4_2 : decode cJ6_bitCount_0f7a4 2 = .ok (.iconst 1, 1) := by decide +kernel
theorem dJ6_bitCount_0f7a4_3 : decode cJ6_bitCount_0f7a4 3 = .ok (.iushr, 1) := by decide +kernel
theorem dJ6_bitCount_0f7a4_4 : decode cJ6_bitCount_0f7a4 4 = .ok (.ldc_w 265, 3) := by decide +kernel
theorem dJ6_bitCount_0f7a4_7 : decode cJ6_bitCount_0f7a4 7 = .ok (.iand, 1) := by decide +kernel
theorem dJ6_bitCount_0f7a4_8 : decode cJ6_bitCount_0f7a4 8 = .ok (.isub, 1) := by decide +kernel
theorem dJ6_bitCount_0f7a4_9 : decode cJ6_bitCount_0f7a4 9 = .ok (.istore_n 0, 1) := by decide +kernel
theorem dJ6_bitCount_0f7a4_10 : decode cJ6_bitCount_0f7a4 10 = .ok (.iload_n 0, 1) := by decide +kernel
theorem dJ6_bitCount_0f7a4_11 : decode cJ6_bitCount_0f7a4 11 = .ok (.ldc_w 266, 3) := by decide +kernel
theorem dJ6_bitCount_0f7a4_14 : decode cJ6_bitCount_0f7a4 14 = .ok (.iand, 1) := by decide +kernel
theorem dJ6_bitCount_0f7a4_15 : decode cJ6_bitCount_0f7a4 15 = .ok (.iload_n 0, 1) := by decide +kernel
theorem dJ6_bitCount_0f7a4_16 : decode cJ6_bitCount_0f7a4 16 = .ok (.iconst 2, 1) := by decide +kernel
theorem dJ6_bitCount_0f7a4_17 : decode cJ6_bitCount_0f7a4 17 = .ok (.iushr, 1) := by decide +kernel
theorem dJ6_bitCount_0f7a4_18 : decode cJ6_bitCount_0f7a4 18 = .ok (.ldc_w 266, 3) := by decide +kernel
theorem dJ6_bitCount_0f7a4_21 : decode cJ6_bitCount_0f7a4 21 = .ok (.iand, 1) := by decide +kernel
theorem dJ6_bitCount_0f7a4_22 : decode cJ6_bitCount_0f7a4 22 = .ok (.iadd, 1) := by decide +kernel
theorem dJ6_bitCount_0f7a4_23 : decode cJ6_bitCount_0f7a4 23 = .ok (.istore_n 0, 1) := by decide +kernel
theorem dJ6_bitCount_0f7a4_24 : decode cJ6_bitCount_0f7a4 24 = .ok (.iload_n 0, 1) := by decide +kernel
theorem dJ6_bitCount_0f7a4_25 : decode cJ6_bitCount_0f7a4 25 = .ok (.iload_n 0, 1) := by decide +kernel
theorem dJ6_bitCount_0f7a4_26 : decode cJ6_bitCount_0f7a4 26 = .ok (.iconst 4, 1) := by decide +kernel
theorem dJ6_bitCount_0f7a4_27 : decode cJ6_bitCount_0f7a4 27 = .ok (.iushr, 1) := by decide +kernel
theorem dJ6_bitCount_0f7a4_28 : decode cJ6_bitCount_0f7a4 28 = .ok (.iadd, 1) := by decide +kernel
theorem dJ6_bitCount_0f7a4_29 : decode cJ6_bitCount_0f7a4 29 = .ok (.ldc_w 267, 3) := by decide +kernel
theorem dJ6_bitCount_0f7a4_32 : decode cJ6_bitCount_0f7a4 32 = .ok (.iand, 1) := by decide +kernel
theorem dJ6_bitCount_0f7a4_33 : decode cJ6_bitCount_0f7a4 33 = .ok (.istore_n 0, 1) := by decide +kernel
theorem dJ6_bitCount_0f7a4_34 : decode cJ6_bitCount_0f7a4 34 = .ok (.iload_n 0, 1) := by decide +kernel
theorem dJ6_bitCount_0f7a4_35 : decode cJ6_bitCount_0f7a4 35 = .ok (.iload_n 0, 1) := by decide +kernel
theorem dJ6_bitCount_0f7a4_36 : decode cJ6_bitCount_0f7a4 36 = .ok (.bipush 8, 2) := by decide +kernel
theorem dJ6_bitCount_0f7a4_38 : decode cJ6_bitCount_0f7a4 38 = .ok (.iushr, 1) := by decide +kernel
theorem dJ6_bitCount_0f7a4_39 : decode cJ6_bitCount_0f7a4 39 = .ok (.iadd, 1) := by decide +kernel
theorem dJ6_bitCount_0f7a4_40 : decode cJ6_bitCount_0f7a4 40 = .ok (.istore_n 0, 1) := by decide +kernel
theorem dJ6_bitCount_0f7a4_41 : decode cJ6_bitCount_0f7a4 41 = .ok (.iload_n 0, 1) := by decide +kernel
theorem dJ6_bitCount_0f7a4_42 : decode cJ6_bitCount_0f7a4 42 = .ok (.iload_n 0, 1) := by decide +kernel
theorem dJ6_bitCount_0f7a4_43 : decode cJ6_bitCount_0f7a4 43 = .ok (.bipush 16, 2) := by decide +kernel
theorem dJ6_bitCount_0f7a4_45 : decode cJ6_bitCount_0f7a4 45 = .ok (.iushr, 1) := by decide +kernel
theorem dJ6_bitCount_0f7a4_46 : decode cJ6_bitCount_0f7a4 46 = .ok (.iadd, 1) := by decide +kernel
theorem dJ6_bitCount_0f7a4_47 : decode cJ6_bitCount_0f7a4 47 = .ok (.istore_n 0, 1) := by decide +kernel
theorem dJ6_bitCount_0f7a4_48 : decode cJ6_bitCount_0f7a4 48 = .ok (.iload_n 0, 1) := by decide +kernel
theorem dJ6_bitCount_0f7a4_49 : decode cJ6_bitCount_0f7a4 49 = .ok (.bipush 63, 2) := by decide +kernel
theorem dJ6_bitCount_0f7a4_51 : decode cJ6_bitCount_0f7a4 51 = .ok (.iand, 1) := by decide +kernel
theorem dJ6_bitCount_0f7a4_52 : decode cJ6_bitCount_0f7a4 52 = .ok (.ireturn, 1) := by decide +kernel
theorem dJ9_max_7cf53_0 : decode cJ9_max_7cf53 0 = .ok (.iload_n 0, 1) := by decide +kernel
theorem dJ9_max_7cf53_1 : decode cJ9_max_7cf53 1 = .ok (.iload_n 1, 1) := by decide +kernel
theorem dJ9_max_7cf53_2 : decode cJ9_max_7cf53 2 = .ok (.if_icmp .lt 7, 3) := by decide +kernel
theorem dJ9_max_7cf53_5 : decode cJ9_max_7cf53 5 = .ok (.iload_n 0, 1) := by decide +kernel
theorem dJ9_max_7cf53_6 : decode cJ9_max_7cf53 6 = .ok (.goto 4, 3) := by decide +kernel
theorem dJ9_max_7cf53_9 : decode cJ9_max_7cf53 9 = .ok (.iload_n 1, 1) := by decide +kernel
theorem dJ9_max_7cf53_10 : decode cJ9_max_7cf53 10 = .ok (.ireturn, 1) := by decide +kernel
theorem dJ9_min_7cf53_0 : decode cJ9_min_7cf53 0 = .ok (.iload_n 0, 1) := by decide +kernel
theorem dJ9_min_7cf53_1 : decode cJ9_min_7cf53 1 = .ok (.iload_n 1, 1) := by decide +kernel
theorem dJ9_min_7cf53_2 : decode cJ9_min_7cf53 2 = .ok (.if_icmp .gt 7, 3) := by decide +kernel
theorem dJ9_min_7cf53_5 : decode cJ9_min_7cf53 5 = .ok (.iload_n 0, 1) := by decide +kernel
theorem dJ9_min_7cf53_6 : decode cJ9_min_7cf53 6 = .ok (.goto 4, 3) := by decide +kernel
theorem dJ9_min_7cf53_9 : decode cJ9_min_7cf53 9 = .ok (.iload_n 1, 1) := by decide +kernel
theorem dJ9_min_7cf53_10 : decode cJ9_min_7cf53 10 = .ok (.ireturn, 1) := by decide +kernel
theorem dL_law_0 : decode cL_law 0 = .ok (.new 7, 3) := by decide +kernel
theorem dL_law_3 : decode cL_law 3 = .ok (.dup, 1) := by decide +kernel
theorem dL_law_4 : decode cL_law 4 = .ok (.invokespecial 9, 3) := by decide +kernel
theorem dL_law_7 : decode cL_law 7 = .ok (.astore_n 1, 1) := by decide +kernel
theorem dL_law_8 : decode cL_law 8 = .ok (.new 10, 3) := by decide +kernel
theorem dL_law_11 : decode cL_law 11 = .ok (.dup, 1) := by decide +kernel
theorem dL_law_12 : decode cL_law 12 = .ok (.invokespecial 12, 3) := by decide +kernel
theorem dL_law_15 : decode cL_law 15 = .ok (.astore_n 2, 1) := by decide +kernel
theorem dL_law_16 : decode cL_law 16 = .ok (.iconst 0, 1) := by decide +kernel
theorem dL_law_17 : decode cL_law 17 = .ok (.istore_n 3, 1) := by decide +kernel
theorem dL_law_18 : decode cL_law 18 = .ok (.iload_n 3, 1) := by decide +kernel
theorem dL_law_19 : decode cL_law 19 = .ok (.aload_n 0, 1) := by decide +kernel
theorem dL_law_20 : decode cL_law 20 = .ok (.arraylength, 1) := by decide +kernel
theorem dL_law_21 : decode cL_law 21 = .ok (.bipush 6, 2) := by decide +kernel
theorem dL_law_23 : decode cL_law 23 = .ok (.isub, 1) := by decide +kernel
theorem dL_law_24 : decode cL_law 24 = .ok (.if_icmp .gt 1263, 3) := by decide +kernel
theorem dL_law_27 : decode cL_law 27 = .ok (.aload_n 0, 1) := by decide +kernel
theorem dL_law_28 : decode cL_law 28 = .ok (.iload_n 3, 1) := by decide +kernel
theorem dL_law_29 : decode cL_law 29 = .ok (.iaload, 1) := by decide +kernel
theorem dL_law_30 : decode cL_law 30 = .ok (.bipush 63, 2) := by decide +kernel
theorem dL_law_32 : decode cL_law 32 = .ok (.iand, 1) := by decide +kernel
theorem dL_law_33 : decode cL_law 33 = .ok (.tableswitch 1248 0 35 #[159, 202, 245, 308, 331, 354, 367, 380, 393, 436, 469, 482, 505, 538, 571, 604, 627, 650, 673, 716, 729, 782, 825, 878, 901, 934, 978, 1011, 1054, 1077, 1100, 1123, 1156, 1189, 1212, 1235], 159) := by decide +kernel
theorem dL_law_192 : decode cL_law 192 = .ok (.aload_n 1, 1) := by decide +kernel
theorem dL_law_193 : decode cL_law 193 = .ok (.aload_n 0, 1) := by decide +kernel
theorem dL_law_194 : decode cL_law 194 = .ok (.iload_n 3, 1) := by decide +kernel
theorem dL_law_195 : decode cL_law 195 = .ok (.iconst 1, 1) := by decide +kernel
theorem dL_law_196 : decode cL_law 196 = .ok (.iadd, 1) := by decide +kernel
theorem dL_law_197 : decode cL_law 197 = .ok (.iaload, 1) := by decide +kernel
theorem dL_law_198 : decode cL_law 198 = .ok (.aload_n 0, 1) := by decide +kernel
theorem dL_law_199 : decode cL_law 199 = .ok (.iload_n 3, 1) := by decide +kernel
theorem dL_law_200 : decode cL_law 200 = .ok (.iconst 2, 1) := by decide +kernel
theorem dL_law_201 : decode cL_law 201 = .ok (.iadd, 1) := by decide +kernel
theorem dL_law_202 : decode cL_law 202 = .ok (.iaload, 1) := by decide +kernel
theorem dL_law_203 : decode cL_law 203 = .ok (.aload_n 0, 1) := by decide +kernel
theorem dL_law_204 : decode cL_law 204 = .ok (.iload_n 3, 1) := by decide +kernel
theorem dL_law_205 : decode cL_law 205 = .ok (.iconst 3, 1) := by decide +kernel
theorem dL_law_206 : decode cL_law 206 = .ok (.iadd, 1) := by decide +kernel
theorem dL_law_207 : decode cL_law 207 = .ok (.iaload, 1) := by decide +kernel
theorem dL_law_208 : decode cL_law 208 = .ok (.invokevirtual 13, 3) := by decide +kernel
theorem dL_law_211 : decode cL_law 211 = .ok (.aload_n 2, 1) := by decide +kernel
theorem dL_law_212 : decode cL_law 212 = .ok (.aload_n 0, 1) := by decide +kernel
theorem dL_law_213 : decode cL_law 213 = .ok (.iload_n 3, 1) := by decide +kernel
theorem dL_law_214 : decode cL_law 214 = .ok (.iconst 1, 1) := by decide +kernel
theorem dL_law_215 : decode cL_law 215 = .ok (.iadd, 1) := by decide +kernel
theorem dL_law_216 : decode cL_law 216 = .ok (.iaload, 1) := by decide +kernel
theorem dL_law_217 : decode cL_law 217 = .ok (.aload_n 0, 1) := by decide +kernel
theorem dL_law_218 : decode cL_law 218 = .ok (.iload_n 3, 1) := by decide +kernel
theorem dL_law_219 : decode cL_law 219 = .ok (.iconst 2, 1) := by decide +kernel
theorem dL_law_220 : decode cL_law 220 = .ok (.iadd, 1) := by decide +kernel
theorem dL_law_221 : decode cL_law 221 = .ok (.iaload, 1) := by decide +kernel
theorem dL_law_222 : decode cL_law 222 = .ok (.aload_n 0, 1) := by decide +kernel
theorem dL_law_223 : decode cL_law 223 = .ok (.iload_n 3, 1) := by decide +kernel
theorem dL_law_224 : decode cL_law 224 = .ok (.iconst 3, 1) := by decide +kernel
theorem dL_law_225 : decode cL_law 225 = .ok (.iadd, 1) := by decide +kernel
theorem dL_law_226 : decode cL_law 226 = .ok (.iaload, 1) := by decide +kernel
theorem dL_law_227 : decode cL_law 227 = .ok (.invokevirtual 17, 3) := by decide +kernel
theorem dL_law_230 : decode cL_law 230 = .ok (.if_icmp .eq 1051, 3) := by decide +kernel
theorem dL_law_233 : decode cL_law 233 = .ok (.iconst 0, 1) := by decide +kernel
theorem dL_law_234 : decode cL_law 234 = .ok (.ireturn, 1) := by decide +kernel
theorem dL_law_235 : decode cL_law 235 = .ok (.aload_n 1, 1) := by decide +kernel
theorem dL_law_236 : decode cL_law 236 = .ok (.aload_n 0, 1) := by decide +kernel
theorem dL_law_237 : decode cL_law 237 = .ok (.iload_n 3, 1) := by decide +kernel
theorem dL_law_238 : decode cL_law 238 = .ok (.iconst 1, 1) := by decide +kernel
theorem dL_law_239 : decode cL_law 239 = .ok (.iadd, 1) := by decide +kernel
theorem dL_law_240 : decode cL_law 240 = .ok (.iaload, 1) := by decide +kernel
theorem dL_law_241 : decode cL_law 241 = .ok (.aload_n 0, 1) := by decide +kernel
theorem dL_law_242 : decode cL_law 242 = .ok (.iload_n 3, 1) := by decide +kernel
theorem dL_law_243 : decode cL_law 243 = .ok (.iconst 2, 1) := by decide +kernel
theorem dL_law_244 : decode cL_law 244 = .ok (.iadd, 1) := by decide +kernel
theorem dL_law_245 : decode cL_law 245 = .ok (.iaload, 1) := by decide +kernel
theorem dL_law_246 : decode cL_law 246 = .ok (.aload_n 0, 1) := by decide +kernel
theorem dL_law_247 : decode cL_law 247 = .ok (.iload_n 3, 1) := by decide +kernel
theorem dL_law_248 : decode cL_law 248 = .ok (.iconst 3, 1) := by decide +kernel
theorem dL_law_249 : decode cL_law 249 = .ok (.iadd, 1) := by decide +kernel
theorem dL_law_250 : decode cL_law 250 = .ok (.iaload, 1) := by decide +kernel
theorem dL_law_251 : decode cL_law 251 = .ok (.invokevirtual 18, 3) := by decide +kernel
theorem dL_law_254 : decode cL_law 254 = .ok (.aload_n 2, 1) := by decide +kernel
theorem dL_law_255 : decode cL_law 255 = .ok (.aload_n 0, 1) := by decide +kernel
theorem dL_law_256 : decode cL_law 256 = .ok (.iload_n 3, 1) := by decide +kernel
theorem dL_law_257 : decode cL_law 257 = .ok (.iconst 1, 1) := by decide +kernel
theorem dL_law_258 : decode cL_law 258 = .ok (.iadd, 1) := by decide +kernel
theorem dL_law_259 : decode cL_law 259 = .ok (.iaload, 1) := by decide +kernel
theorem dL_law_260 : decode cL_law 260 = .ok (.aload_n 0, 1) := by decide +kernel
theorem dL_law_261 : decode cL_law 261 = .ok (.iload_n 3, 1) := by decide +kernel
theorem dL_law_262 : decode cL_law 262 = .ok (.iconst 2, 1) := by decide +kernel
theorem dL_law_263 : decode cL_law 263 = .ok (.iadd, 1) := by decide +kernel
theorem dL_law_264 : decode cL_law 264 = .ok (.iaload, 1) := by decide +kernel
theorem dL_law_265 : decode cL_law 265 = .ok (.aload_n 0, 1) := by decide +kernel
theorem dL_law_266 : decode cL_law 266 = .ok (.iload_n 3, 1) := by decide +kernel
theorem dL_law_267 : decode cL_law 267 = .ok (.iconst 3, 1) := by decide +kernel
theorem dL_law_268 : decode cL_law 268 = .ok (.iadd, 1) := by decide +kernel
theorem dL_law_269 : decode cL_law 269 = .ok (.iaload, 1) := by decide +kernel
theorem dL_law_270 : decode cL_law 270 = .ok (.invokevirtual 21, 3) := by decide +kernel
theorem dL_law_273 : decode cL_law 273 = .ok (.if_icmp .eq 1008, 3) := by decide +kernel
theorem dL_law_276 : decode cL_law 276 = .ok (.iconst 0, 1) := by decide +kernel
theorem dL_law_277 : decode cL_law 277 = .ok (.ireturn, 1) := by decide +kernel
theorem dL_law_278 : decode cL_law 278 = .ok (.aload_n 1, 1) := by decide +kernel
theorem dL_law_279 : decode cL_law 279 = .ok (.aload_n 0, 1) := by decide +kernel
theorem dL_law_280 : decode cL_law 280 = .ok (.iload_n 3, 1) := by decide +kernel
theorem dL_law_281 : decode cL_law 281 = .ok (.iconst 1, 1) := by decide +kernel
theorem dL_law_282 : decode cL_law 282 = .ok (.iadd, 1) := by decide +kernel
theorem dL_law_283 : decode cL_law 283 = .ok (.iaload, 1) := by decide +kernel
theorem dL_law_284 : decode cL_law 284 = .ok (.aload_n 0, 1) := by decide +kernel
theorem dL_law_285 : decode cL_law 285 = .ok (.iload_n 3, 1) := by decide +kernel
theorem dL_law_286 : decode cL_law 286 = .ok (.iconst 2, 1) := by decide +kernel
theorem dL_law_287 : decode cL_law 287 = .ok (.iadd, 1) := by decide +kernel
theorem dL_law_288 : decode cL_law 288 = .ok (.iaload, 1) := by decide +kernel
theorem dL_law_289 : decode cL_law 289 = .ok (.aload_n 0, 1) := by decide +kernel
theorem dL_law_290 : decode cL_law 290 = .ok (.iload_n 3, 1) := by decide +kernel
theorem dL_law_291 : decode cL_law 291 = .ok (.iconst 3, 1) := by decide +kernel
theorem dL_law_292 : decode cL_law 292 = .ok (.iadd, 1) := by decide +kernel
theorem dL_law_293 : decode cL_law 293 = .ok (.iaload, 1) := by decide +kernel
theorem dL_law_294 : decode cL_law 294 = .ok (.aload_n 0, 1) := by decide +kernel
theorem dL_law_295 : decode cL_law 295 = .ok (.iload_n 3, 1) := by decide +kernel
theorem dL_law_296 : decode cL_law 296 = .ok (.iconst 4, 1) := by decide +kernel
theorem dL_law_297 : decode cL_law 297 = .ok (.iadd, 1) := by decide +kernel
theorem dL_law_298 : decode cL_law 298 = .ok (.iaload, 1) := by decide +kernel
theorem dL_law_299 : decode cL_law 299 = .ok (.aload_n 0, 1) := by decide +kernel
theorem dL_law_300 : decode cL_law 300 = .ok (.iload_n 3, 1) := by decide +kernel
theorem dL_law_301 : decode cL_law 301 = .ok (.iconst 5, 1) := by decide +kernel
theorem dL_law_302 : decode cL_law 302 = .ok (.iadd, 1) := by decide +kernel
theorem dL_law_303 : decode cL_law 303 = .ok (.iaload, 1) := by decide +kernel
theorem dL_law_304 : decode cL_law 304 = .ok (.invokevirtual 22, 3) := by decide +kernel
theorem dL_law_307 : decode cL_law 307 = .ok (.aload_n 2, 1) := by decide +kernel
theorem dL_law_308 : decode cL_law 308 = .ok (.aload_n 0, 1) := by decide +kernel
theorem dL_law_309 : decode cL_law 309 = .ok (.iload_n 3, 1) := by decide +kernel
theorem dL_law_310 : decode cL_law 310 = .ok (.iconst 1, 1) := by decide +kernel
theorem dL_law_311 : decode cL_law 311 = .ok (.iadd, 1) := by decide +kernel
theorem dL_law_312 : decode cL_law 312 = .ok (.iaload, 1) := by decide +kernel
theorem dL_law_313 : decode cL_law 313 = .ok (.aload_n 0, 1) := by decide +kernel
theorem dL_law_314 : decode cL_law 314 = .ok (.iload_n 3, 1) := by decide +kernel
theorem dL_law_315 : decode cL_law 315 = .ok (.iconst 2, 1) := by decide +kernel
theorem dL_law_316 : decode cL_law 316 = .ok (.iadd, 1) := by decide +kernel
theorem dL_law_317 : decode cL_law 317 = .ok (.iaload, 1) := by decide +kernel
theorem dL_law_318 : decode cL_law 318 = .ok (.aload_n 0, 1) := by decide +kernel
theorem dL_law_319 : decode cL_law 319 = .ok (.iload_n 3, 1) := by decide +kernel
theorem dL_law_320 : decode cL_law 320 = .ok (.iconst 3, 1) := by decide +kernel
theorem dL_law_321 : decode cL_law 321 = .ok (.iadd, 1) := by decide +kernel
theorem dL_law_322 : decode cL_law 322 = .ok (.iaload, 1) := by decide +kernel
theorem dL_law_323 : decode cL_law 323 = .ok (.aload_n 0, 1) := by decide +kernel
theorem dL_law_324 : decode cL_law 324 = .ok (.iload_n 3, 1) := by decide +kernel
theorem dL_law_325 : decode cL_law 325 = .ok (.iconst 4, 1) := by decide +kernel
theorem dL_law_326 : decode cL_law 326 = .ok (.iadd, 1) := by decide +kernel
theorem dL_law_327 : decode cL_law 327 = .ok (.iaload, 1) := by decide +kernel
theorem dL_law_328 : decode cL_law 328 = .ok (.aload_n 0, 1) := by decide +kernel
theorem dL_law_329 : decode cL_law 329 = .ok (.iload_n 3, 1) := by decide +kernel
theorem dL_law_330 : decode cL_law 330 = .ok (.iconst 5, 1) := by decide +kernel
theorem dL_law_331 : decode cL_law 331 = .ok (.iadd, 1) := by decide +kernel
theorem dL_law_332 : decode cL_law 332 = .ok (.iaload, 1) := by decide +kernel
theorem dL_law_333 : decode cL_law 333 = .ok (.invokevirtual 26, 3) := by decide +kernel
theorem dL_law_336 : decode cL_law 336 = .ok (.if_icmp .eq 945, 3) := by decide +kernel
theorem dL_law_339 : decode cL_law 339 = .ok (.iconst 0, 1) := by decide +kernel
theorem dL_law_340 : decode cL_law 340 = .ok (.ireturn, 1) := by decide +kernel
theorem dL_law_341 : decode cL_law 341 = .ok (.aload_n 1, 1) := by decide +kernel
theorem dL_law_342 : decode cL_law 342 = .ok (.aload_n 0, 1) := by decide +kernel
theorem dL_law_343 : decode cL_law 343 = .ok (.iload_n 3, 1) := by decide +kernel
theorem dL_law_344 : decode cL_law 344 = .ok (.iconst 1, 1) := by decide +kernel
theorem dL_law_345 : decode cL_law 345 = .ok (.iadd, 1) := by decide +kernel
theorem dL_law_346 : decode cL_law 346 = .ok (.iaload, 1) := by decide +kernel
theorem dL_law_347 : decode cL_law 347 = .ok (.invokevirtual 27, 3) := by decide +kernel
theorem dL_law_350 : decode cL_law 350 = .ok (.aload_n 2, 1) := by decide +kernel
theorem dL_law_351 : decode cL_law 351 = .ok (.aload_n 0, 1) := by decide +kernel
theorem dL_law_352 : decode cL_law 352 = .ok (.iload_n 3, 1) := by decide +kernel
theorem dL_law_353 : decode cL_law 353 = .ok (.iconst 1, 1) := by decide +kernel
theorem dL_law_354 : decode cL_law 354 = .ok (.iadd, 1) := by decide +kernel
theorem dL_law_355 : decode cL_law 355 = .ok (.iaload, 1) := by decide +kernel
theorem dL_law_356 : decode cL_law 356 = .ok (.invokevirtual 31, 3) := by decide +kernel
theorem dL_law_359 : decode cL_law 359 = .ok (.if_icmp .eq 922, 3) := by decide +kernel
theorem dL_law_362 : decode cL_law 362 = .ok (.iconst 0, 1) := by decide +kernel
theorem dL_law_363 : decode cL_law 363 = .ok (.ireturn, 1) := by decide +kernel
theorem dL_law_364 : decode cL_law 364 = .ok (.aload_n 1, 1) := by decide +kernel
theorem dL_law_365 : decode cL_law 365 = .ok (.aload_n 0, 1) := by decide +kernel
theorem dL_law_366 : decode cL_law 366 = .ok (.iload_n 3, 1) := by decide +kernel
theorem dL_law_367 : decode cL_law 367 = .ok (.iconst 1, 1) := by decide +kernel
theorem dL_law_368 : decode cL_law 368 = .ok (.iadd, 1) := by decide +kernel
theorem dL_law_369 : decode cL_law 369 = .ok (.iaload, 1) := by decide +kernel
theorem dL_law_370 : decode cL_law 370 = .ok (.invokevirtual 32, 3) := by decide +kernel
theorem dL_law_373 : decode cL_law 373 = .ok (.aload_n 2, 1) := by decide +kernel
theorem dL_law_374 : decode cL_law 374 = .ok (.aload_n 0, 1) := by decide +kernel
theorem dL_law_375 : decode cL_law 375 = .ok (.iload_n 3, 1) := by decide +kernel
theorem dL_law_376 : decode cL_law 376 = .ok (.iconst 1, 1) := by decide +kernel
theorem dL_law_377 : decode cL_law 377 = .ok (.iadd, 1) := by decide +kernel
theorem dL_law_378 : decode cL_law 378 = .ok (.iaload, 1) := by decide +kernel
theorem dL_law_379 : decode cL_law 379 = .ok (.invokevirtual 35, 3) := by decide +kernel
theorem dL_law_382 : decode cL_law 382 = .ok (.if_icmp .eq 899, 3) := by decide +kernel
theorem dL_law_385 : decode cL_law 385 = .ok (.iconst 0, 1) := by decide +kernel
theorem dL_law_386 : decode cL_law 386 = .ok (.ireturn, 1) := by decide +kernel
theorem dL_law_387 : decode cL_law 387 = .ok (.aload_n 1, 1) := by decide +kernel
theorem dL_law_388 : decode cL_law 388 = .ok (.invokevirtual 36, 3) := by decide +kernel
theorem dL_law_391 : decode cL_law 391 = .ok (.aload_n 2, 1) := by decide +kernel
theorem dL_law_392 : decode cL_law 392 = .ok (.invokevirtual 40, 3) := by decide +kernel
theorem dL_law_395 : decode cL_law 395 = .ok (.if_icmp .eq 886, 3) := by decide +kernel
theorem dL_law_398 : decode cL_law 398 = .ok (.iconst 0, 1) := by decide +kernel
theorem dL_law_399 : decode cL_law 399 = .ok (.ireturn, 1) := by decide +kernel
theorem dL_law_400 : decode cL_law 400 = .ok (.aload_n 1, 1) := by decide +kernel
theorem dL_law_401 : decode cL_law 401 = .ok (.invokevirtual 41, 3) := by decide +kernel
theorem dL_law_404 : decode cL_law 404 = .ok (.aload_n 2, 1) := by decide +kernel
theorem dL_law_405 : decode cL_law 405 = .ok (.invokevirtual 44, 3) := by decide +kernel
theorem dL_law_408 : decode cL_law 408 = .ok (.if_icmp .eq 873, 3) := by decide +kernel
theorem dL_law_411 : decode cL_law 411 = .ok (.iconst 0, 1) := by decide +kernel
theorem dL_law_412 : decode cL_law 412 = .ok (.ireturn, 1) := by decide +kernel
theorem dL_law_413 : decode cL_law 413 = .ok (.aload_n 1, 1) := by decide +kernel
theorem dL_law_414 : decode cL_law 414 = .ok (.invokevirtual 45, 3) := by decide +kernel
theorem dL_law_417 : decode cL_law 417 = .ok (.aload_n 2, 1) := by decide +kernel
theorem dL_law_418 : decode cL_law 418 = .ok (.invokevirtual 48, 3) := by decide +kernel
theorem dL_law_421 : decode cL_law 421 = .ok (.if_icmp .eq 860, 3) := by decide +kernel
theorem dL_law_424 : decode cL_law 424 = .ok (.iconst 0, 1) := by decide +kernel
theorem dL_law_425 : decode cL_law 425 = .ok (.ireturn, 1) := by decide +kernel
theorem dL_law_426 : decode cL_law 426 = .ok (.aload_n 1, 1) := by decide +kernel
theorem dL_law_427 : decode cL_law 427 = .ok (.aload_n 0, 1) := by decide +kernel
theorem dL_law_428 : decode cL_law 428 = .ok (.iload_n 3, 1) := by decide +kernel
theorem dL_law_429 : decode cL_law 429 = .ok (.iconst 1, 1) := by decide +kernel
theorem dL_law_430 : decode cL_law 430 = .ok (.iadd, 1) := by decide +kernel
theorem dL_law_431 : decode cL_law 431 = .ok (.iaload, 1) := by decide +kernel
theorem dL_law_432 : decode cL_law 432 = .ok (.aload_n 0, 1) := by decide +kernel
theorem dL_law_433 : decode cL_law 433 = .ok (.iload_n 3, 1) := by decide +kernel
theorem dL_law_434 : decode cL_law 434 = .ok (.iconst 2, 1) := by decide +kernel
theorem dL_law_435 : decode cL_law 435 = .ok (.iadd, 1) := by decide +kernel
theorem dL_law_436 : decode cL_law 436 = .ok (.iaload, 1) := by decide +kernel
theorem dL_law_437 : decode cL_law 437 = .ok (.aload_n 0, 1) := by decide +kernel
theorem dL_law_438 : decode cL_law 438 = .ok (.iload_n 3, 1) := by decide +kernel
theorem dL_law_439 : decode cL_law 439 = .ok (.iconst 3, 1) := by decide +kernel
theorem dL_law_440 : decode cL_law 440 = .ok (.iadd, 1) := by decide +kernel
theorem dL_law_441 : decode cL_law 441 = .ok (.iaload, 1) := by decide +kernel
theorem dL_law_442 : decode cL_law 442 = .ok (.invokevirtual 49, 3) := by decide +kernel
theorem dL_law_445 : decode cL_law 445 = .ok (.aload_n 2, 1) := by decide +kernel
theorem dL_law_446 : decode cL_law 446 = .ok (.aload_n 0, 1) := by decide +kernel
theorem dL_law_447 : decode cL_law 447 = .ok (.iload_n 3, 1) := by decide +kernel
theorem dL_law_448 : decode cL_law 448 = .ok (.iconst 1, 1) := by decide +kernel
theorem dL_law_449 : decode cL_law 449 = .ok (.iadd, 1) := by decide +kernel
theorem dL_law_450 : decode cL_law 450 = .ok (.iaload, 1) := by decide +kernel
theorem dL_law_451 : decode cL_law 451 = .ok (.aload_n 0, 1) := by decide +kernel
theorem dL_law_452 : decode cL_law 452 = .ok (.iload_n 3, 1) := by decide +kernel
theorem dL_law_453 : decode cL_law 453 = .ok (.iconst 2, 1) := by decide +kernel
theorem dL_law_454 : decode cL_law 454 = .ok (.iadd, 1) := by decide +kernel
theorem dL_law_455 : decode cL_law 455 = .ok (.iaload, 1) := by decide +kernel
theorem dL_law_456 : decode cL_law 456 = .ok (.aload_n 0, 1) := by decide +kernel
theorem dL_law_457 : decode cL_law 457 = .ok (.iload_n 3, 1) := by decide +kernel
theorem dL_law_458 : decode cL_law 458 = .ok (.iconst 3, 1) := by decide +kernel
theorem dL_law_459 : decode cL_law 459 = .ok (.iadd, 1) := by decide +kernel
theorem dL_law_460 : decode cL_law 460 = .ok (.iaload, 1) := by decide +kernel
theorem dL_law_461 : decode cL_law 461 = .ok (.invokevirtual 52, 3) := by decide +kernel
theorem dL_law_464 : decode cL_law 464 = .ok (.if_icmp .eq 817, 3) := by decide +kernel
theorem dL_law_467 : decode cL_law 467 = .ok (.iconst 0, 1) := by decide +kernel
theorem dL_law_468 : decode cL_law 468 = .ok (.ireturn, 1) := by decide +kernel
theorem dL_law_469 : decode cL_law 469 = .ok (.aload_n 1, 1) := by decide +kernel
theorem dL_law_470 : decode cL_law 470 = .ok (.aload_n 0, 1) := by decide +kernel
theorem dL_law_471 : decode cL_law 471 = .ok (.iload_n 3, 1) := by decide +kernel
theorem dL_law_472 : decode cL_law 472 = .ok (.iconst 1, 1) := by decide +kernel
theorem dL_law_473 : decode cL_law 473 = .ok (.iadd, 1) := by decide +kernel
theorem dL_law_474 : decode cL_law 474 = .ok (.iaload, 1) := by decide +kernel
theorem dL_law_475 : decode cL_law 475 = .ok (.aload_n 0, 1) := by decide +kernel
theorem dL_law_476 : decode cL_law 476 = .ok (.iload_n 3, 1) := by decide +kernel
theorem dL_law_477 : decode cL_law 477 = .ok (.iconst 2, 1) := by decide +kernel
theorem dL_law_478 : decode cL_law 478 = .ok (.iadd, 1) := by decide +kernel
theorem dL_law_479 : decode cL_law 479 = .ok (.iaload, 1) := by decide +kernel
theorem dL_law_480 : decode cL_law 480 = .ok (.invokevirtual 53, 3) := by decide +kernel
theorem dL_law_483 : decode cL_law 483 = .ok (.aload_n 2, 1) := by decide +kernel
theorem dL_law_484 : decode cL_law 484 = .ok (.aload_n 0, 1) := by decide +kernel
theorem dL_law_485 : decode cL_law 485 = .ok (.iload_n 3, 1) := by decide +kernel
theorem dL_law_486 : decode cL_law 486 = .ok (.iconst 1, 1) := by decide +kernel
theorem dL_law_487 : decode cL_law 487 = .ok (.iadd, 1) := by decide +kernel
theorem dL_law_488 : decode cL_law 488 = .ok (.iaload, 1) := by decide +kernel
theorem dL_law_489 : decode cL_law 489 = .ok (.aload_n 0, 1) := by decide +kernel
theorem dL_law_490 : decode cL_law 490 = .ok (.iload_n 3, 1) := by decide +kernel
theorem dL_law_491 : decode cL_law 491 = .ok (.iconst 2, 1) := by decide +kernel
theorem dL_law_492 : decode cL_law 492 = .ok (.iadd, 1) := by decide +kernel
theorem dL_law_493 : decode cL_law 493 = .ok (.iaload, 1) := by decide +kernel
theorem dL_law_494 : decode cL_law 494 = .ok (.invokevirtual 57, 3) := by decide +kernel
theorem dL_law_497 : decode cL_law 497 = .ok (.if_icmp .eq 784, 3) := by decide +kernel
theorem dL_law_500 : decode cL_law 500 = .ok (.iconst 0, 1) := by decide +kernel
theorem dL_law_501 : decode cL_law 501 = .ok (.ireturn, 1) := by decide +kernel
theorem dL_law_502 : decode cL_law 502 = .ok (.aload_n 1, 1) := by decide +kernel
theorem dL_law_503 : decode cL_law 503 = .ok (.invokevirtual 58, 3) := by decide +kernel
theorem dL_law_506 : decode cL_law 506 = .ok (.aload_n 2, 1) := by decide +kernel
theorem dL_law_507 : decode cL_law 507 = .ok (.invokevirtual 61, 3) := by decide +kernel
theorem dL_law_510 : decode cL_law 510 = .ok (.if_icmp .eq 771, 3) := by decide +kernel
theorem dL_law_513 : decode cL_law 513 = .ok (.iconst 0, 1) := by decide +kernel
theorem dL_law_514 : decode cL_law 514 = .ok (.ireturn, 1) := by decide +kernel
theorem dL_law_515 : decode cL_law 515 = .ok (.aload_n 1, 1) := by decide +kernel
theorem dL_law_516 : decode cL_law 516 = .ok (.aload_n 0, 1) := by decide +kernel
theorem dL_law_517 : decode cL_law 517 = .ok (.iload_n 3, 1) := by decide +kernel
theorem dL_law_518 : decode cL_law 518 = .ok (.iconst 1, 1) := by decide +kernel
theorem dL_law_519 : decode cL_law 519 = .ok (.iadd, 1) := by decide +kernel
theorem dL_law_520 : decode cL_law 520 = .ok (.iaload, 1) := by decide +kernel
theorem dL_law_521 : decode cL_law 521 = .ok (.invokevirtual 62, 3) := by decide +kernel
theorem dL_law_524 : decode cL_law 524 = .ok (.aload_n 2, 1) := by decide +kernel
theorem dL_law_525 : decode cL_law 525 = .ok (.aload_n 0, 1) := by decide +kernel
theorem dL_law_526 : decode cL_law 526 = .ok (.iload_n 3, 1) := by decide +kernel
theorem dL_law_527 : decode cL_law 527 = .ok (.iconst 1, 1) := by decide +kernel
theorem dL_law_528 : decode cL_law 528 = .ok (.iadd, 1) := by decide +kernel
theorem dL_law_529 : decode cL_law 529 = .ok (.iaload, 1) := by decide +kernel
theorem dL_law_530 : decode cL_law 530 = .ok (.invokevirtual 65, 3) := by decide +kernel
theorem dL_law_533 : decode cL_law 533 = .ok (.if_icmp .eq 748, 3) := by decide +kernel
theorem dL_law_536 : decode cL_law 536 = .ok (.iconst 0, 1) := by decide +kernel
theorem dL_law_537 : decode cL_law 537 = .ok (.ireturn, 1) := by decide +kernel
theorem dL_law_538 : decode cL_law 538 = .ok (.aload_n 1, 1) := by decide +kernel
theorem dL_law_539 : decode cL_law 539 = .ok (.aload_n 0, 1) := by decide +kernel
theorem dL_law_540 : decode cL_law 540 = .ok (.iload_n 3, 1) := by decide +kernel
theorem dL_law_541 : decode cL_law 541 = .ok (.iconst 1, 1) := by decide +kernel
theorem dL_law_542 : decode cL_law 542 = .ok (.iadd, 1) := by decide +kernel
theorem dL_law_543 : decode cL_law 543 = .ok (.iaload, 1) := by decide +kernel
theorem dL_law_544 : decode cL_law 544 = .ok (.aload_n 0, 1) := by decide +kernel
theorem dL_law_545 : decode cL_law 545 = .ok (.iload_n 3, 1) := by decide +kernel
theorem dL_law_546 : decode cL_law 546 = .ok (.iconst 2, 1) := by decide +kernel
theorem dL_law_547 : decode cL_law 547 = .ok (.iadd, 1) := by decide +kernel
theorem dL_law_548 : decode cL_law 548 = .ok (.iaload, 1) := by decide +kernel
theorem dL_law_549 : decode cL_law 549 = .ok (.invokevirtual 66, 3) := by decide +kernel
theorem dL_law_552 : decode cL_law 552 = .ok (.aload_n 2, 1) := by decide +kernel
theorem dL_law_553 : decode cL_law 553 = .ok (.aload_n 0, 1) := by decide +kernel
theorem dL_law_554 : decode cL_law 554 = .ok (.iload_n 3, 1) := by decide +kernel
theorem dL_law_555 : decode cL_law 555 = .ok (.iconst 1, 1) := by decide +kernel
theorem dL_law_556 : decode cL_law 556 = .ok (.iadd, 1) := by decide +kernel
theorem dL_law_557 : decode cL_law 557 = .ok (.iaload, 1) := by decide +kernel
theorem dL_law_558 : decode cL_law 558 = .ok (.aload_n 0, 1) := by decide +kernel
theorem dL_law_559 : decode cL_law 559 = .ok (.iload_n 3, 1) := by decide +kernel
theorem dL_law_560 : decode cL_law 560 = .ok (.iconst 2, 1) := by decide +kernel
theorem dL_law_561 : decode cL_law 561 = .ok (.iadd, 1) := by decide +kernel
theorem dL_law_562 : decode cL_law 562 = .ok (.iaload, 1) := by decide +kernel
theorem dL_law_563 : decode cL_law 563 = .ok (.invokevirtual 69, 3) := by decide +kernel
theorem dL_law_566 : decode cL_law 566 = .ok (.if_icmp .eq 715, 3) := by decide +kernel
theorem dL_law_569 : decode cL_law 569 = .ok (.iconst 0, 1) := by decide +kernel
theorem dL_law_570 : decode cL_law 570 = .ok (.ireturn, 1) := by decide +kernel
theorem dL_law_571 : decode cL_law 571 = .ok (.aload_n 1, 1) := by decide +kernel
theorem dL_law_572 : decode cL_law 572 = .ok (.aload_n 0, 1) := by decide +kernel
theorem dL_law_573 : decode cL_law 573 = .ok (.iload_n 3, 1) := by decide +kernel
theorem dL_law_574 : decode cL_law 574 = .ok (.iconst 1, 1) := by decide +kernel
theorem dL_law_575 : decode cL_law 575 = .ok (.iadd, 1) := by decide +kernel
theorem dL_law_576 : decode cL_law 576 = .ok (.iaload, 1) := by decide +kernel
theorem dL_law_577 : decode cL_law 577 = .ok (.aload_n 0, 1) := by decide +kernel
theorem dL_law_578 : decode cL_law 578 = .ok (.iload_n 3, 1) := by decide +kernel
theorem dL_law_579 : decode cL_law 579 = .ok (.iconst 2, 1) := by decide +kernel
theorem dL_law_580 : decode cL_law 580 = .ok (.iadd, 1) := by decide +kernel
theorem dL_law_581 : decode cL_law 581 = .ok (.iaload, 1) := by decide +kernel
theorem dL_law_582 : decode cL_law 582 = .ok (.invokevirtual 70, 3) := by decide +kernel
theorem dL_law_585 : decode cL_law 585 = .ok (.aload_n 2, 1) := by decide +kernel
theorem dL_law_586 : decode cL_law 586 = .ok (.aload_n 0, 1) := by decide +kernel
theorem dL_law_587 : decode cL_law 587 = .ok (.iload_n 3, 1) := by decide +kernel
theorem dL_law_588 : decode cL_law 588 = .ok (.iconst 1, 1) := by decide +kernel
theorem dL_law_589 : decode cL_law 589 = .ok (.iadd, 1) := by decide +kernel
theorem dL_law_590 : decode cL_law 590 = .ok (.iaload, 1) := by decide +kernel
theorem dL_law_591 : decode cL_law 591 = .ok (.aload_n 0, 1) := by decide +kernel
theorem dL_law_592 : decode cL_law 592 = .ok (.iload_n 3, 1) := by decide +kernel
theorem dL_law_593 : decode cL_law 593 = .ok (.iconst 2, 1) := by decide +kernel
theorem dL_law_594 : decode cL_law 594 = .ok (.iadd, 1) := by decide +kernel
theorem dL_law_595 : decode cL_law 595 = .ok (.iaload, 1) := by decide +kernel
theorem dL_law_596 : decode cL_law 596 = .ok (.invokevirtual 73, 3) := by decide +kernel
theorem dL_law_599 : decode cL_law 599 = .ok (.if_icmp .eq 682, 3) := by decide +kernel
theorem dL_law_602 : decode cL_law 602 = .ok (.iconst 0, 1) := by decide +kernel
theorem dL_law_603 : decode cL_law 603 = .ok (.ireturn, 1) := by decide +kernel
theorem dL_law_604 : decode cL_law 604 = .ok (.aload_n 1, 1) := by decide +kernel
theorem dL_law_605 : decode cL_law 605 = .ok (.aload_n 0, 1) := by decide +kernel
theorem dL_law_606 : decode cL_law 606 = .ok (.iload_n 3, 1) := by decide +kernel
theorem dL_law_607 : decode cL_law 607 = .ok (.iconst 1, 1) := by decide +kernel
theorem dL_law_608 : decode cL_law 608 = .ok (.iadd, 1) := by decide +kernel
theorem dL_law_609 : decode cL_law 609 = .ok (.iaload, 1) := by decide +kernel
theorem dL_law_610 : decode cL_law 610 = .ok (.aload_n 0, 1) := by decide +kernel
theorem dL_law_611 : decode cL_law 611 = .ok (.iload_n 3, 1) := by decide +kernel
theorem dL_law_612 : decode cL_law 612 = .ok (.iconst 2, 1) := by decide +kernel
theorem dL_law_613 : decode cL_law 613 = .ok (.iadd, 1) := by decide +kernel
theorem dL_law_614 : decode cL_law 614 = .ok (.iaload, 1) := by decide +kernel
theorem dL_law_615 : decode cL_law 615 = .ok (.invokevirtual 74, 3) := by decide +kernel
theorem dL_law_618 : decode cL_law 618 = .ok (.aload_n 2, 1) := by decide +kernel
theorem dL_law_619 : decode cL_law 619 = .ok (.aload_n 0, 1) := by decide +kernel
theorem dL_law_620 : decode cL_law 620 = .ok (.iload_n 3, 1) := by decide +kernel
theorem dL_law_621 : decode cL_law 621 = .ok (.iconst 1, 1) := by decide +kernel
theorem dL_law_622 : decode cL_law 622 = .ok (.iadd, 1) := by decide +kernel
theorem dL_law_623 : decode cL_law 623 = .ok (.iaload, 1) := by decide +kernel
theorem dL_law_624 : decode cL_law 624 = .ok (.aload_n 0, 1) := by decide +kernel
theorem dL_law_625 : decode cL_law 625 = .ok (.iload_n 3, 1) := by decide +kernel
theorem dL_law_626 : decode cL_law 626 = .ok (.iconst 2, 1) := by decide +kernel
theorem dL_law_627 : decode cL_law 627 = .ok (.iadd, 1) := by decide +kernel
theorem dL_law_628 : decode cL_law 628 = .ok (.iaload, 1) := by decide +kernel
theorem dL_law_629 : decode cL_law 629 = .ok (.invokevirtual 77, 3) := by decide +kernel
theorem dL_law_632 : decode cL_law 632 = .ok (.if_icmp .eq 649, 3) := by decide +kernel
theorem dL_law_635 : decode cL_law 635 = .ok (.iconst 0, 1) := by decide +kernel
theorem dL_law_636 : decode cL_law 636 = .ok (.ireturn, 1) := by decide +kernel
theorem dL_law_637 : decode cL_law 637 = .ok (.aload_n 1, 1) := by decide +kernel
theorem dL_law_638 : decode cL_law 638 = .ok (.aload_n 0, 1) := by decide +kernel
theorem dL_law_639 : decode cL_law 639 = .ok (.iload_n 3, 1) := by decide +kernel
theorem dL_law_640 : decode cL_law 640 = .ok (.iconst 1, 1) := by decide +kernel
theorem dL_law_641 : decode cL_law 641 = .ok (.iadd, 1) := by decide +kernel
theorem dL_law_642 : decode cL_law 642 = .ok (.iaload, 1) := by decide +kernel
theorem dL_law_643 : decode cL_law 643 = .ok (.invokevirtual 78, 3) := by decide +kernel
theorem dL_law_646 : decode cL_law 646 = .ok (.aload_n 2, 1) := by decide +kernel
theorem dL_law_647 : decode cL_law 647 = .ok (.aload_n 0, 1) := by decide +kernel
theorem dL_law_648 : decode cL_law 648 = .ok (.iload_n 3, 1) := by decide +kernel
theorem dL_law_649 : decode cL_law 649 = .ok (.iconst 1, 1) := by decide +kernel
theorem dL_law_650 : decode cL_law 650 = .ok (.iadd, 1) := by decide +kernel
theorem dL_law_651 : decode cL_law 651 = .ok (.iaload, 1) := by decide +kernel
theorem dL_law_652 : decode cL_law 652 = .ok (.invokevirtual 81, 3) := by decide +kernel
theorem dL_law_655 : decode cL_law 655 = .ok (.if_icmp .eq 626, 3) := by decide +kernel
theorem dL_law_658 : decode cL_law 658 = .ok (.iconst 0, 1) := by decide +kernel
theorem dL_law_659 : decode cL_law 659 = .ok (.ireturn, 1) := by decide +kernel
theorem dL_law_660 : decode cL_law 660 = .ok (.aload_n 1, 1) := by decide +kernel
theorem dL_law_661 : decode cL_law 661 = .ok (.aload_n 0, 1) := by decide +kernel
theorem dL_law_662 : decode cL_law 662 = .ok (.iload_n 3, 1) := by decide +kernel
theorem dL_law_663 : decode cL_law 663 = .ok (.iconst 1, 1) := by decide +kernel
theorem dL_law_664 : decode cL_law 664 = .ok (.iadd, 1) := by decide +kernel
theorem dL_law_665 : decode cL_law 665 = .ok (.iaload, 1) := by decide +kernel
theorem dL_law_666 : decode cL_law 666 = .ok (.invokevirtual 82, 3) := by decide +kernel
theorem dL_law_669 : decode cL_law 669 = .ok (.aload_n 2, 1) := by decide +kernel
theorem dL_law_670 : decode cL_law 670 = .ok (.aload_n 0, 1) := by decide +kernel
theorem dL_law_671 : decode cL_law 671 = .ok (.iload_n 3, 1) := by decide +kernel
theorem dL_law_672 : decode cL_law 672 = .ok (.iconst 1, 1) := by decide +kernel
theorem dL_law_673 : decode cL_law 673 = .ok (.iadd, 1) := by decide +kernel
theorem dL_law_674 : decode cL_law 674 = .ok (.iaload, 1) := by decide +kernel
theorem dL_law_675 : decode cL_law 675 = .ok (.invokevirtual 85, 3) := by decide +kernel
theorem dL_law_678 : decode cL_law 678 = .ok (.if_icmp .eq 603, 3) := by decide +kernel
theorem dL_law_681 : decode cL_law 681 = .ok (.iconst 0, 1) := by decide +kernel
theorem dL_law_682 : decode cL_law 682 = .ok (.ireturn, 1) := by decide +kernel
theorem dL_law_683 : decode cL_law 683 = .ok (.aload_n 1, 1) := by decide +kernel
theorem dL_law_684 : decode cL_law 684 = .ok (.aload_n 0, 1) := by decide +kernel
theorem dL_law_685 : decode cL_law 685 = .ok (.iload_n 3, 1) := by decide +kernel
theorem dL_law_686 : decode cL_law 686 = .ok (.iconst 1, 1) := by decide +kernel
theorem dL_law_687 : decode cL_law 687 = .ok (.iadd, 1) := by decide +kernel
theorem dL_law_688 : decode cL_law 688 = .ok (.iaload, 1) := by decide +kernel
theorem dL_law_689 : decode cL_law 689 = .ok (.invokevirtual 86, 3) := by decide +kernel
theorem dL_law_692 : decode cL_law 692 = .ok (.aload_n 2, 1) := by decide +kernel
theorem dL_law_693 : decode cL_law 693 = .ok (.aload_n 0, 1) := by decide +kernel
theorem dL_law_694 : decode cL_law 694 = .ok (.iload_n 3, 1) := by decide +kernel
theorem dL_law_695 : decode cL_law 695 = .ok (.iconst 1, 1) := by decide +kernel
theorem dL_law_696 : decode cL_law 696 = .ok (.iadd, 1) := by decide +kernel
theorem dL_law_697 : decode cL_law 697 = .ok (.iaload, 1) := by decide +kernel
theorem dL_law_698 : decode cL_law 698 = .ok (.invokevirtual 89, 3) := by decide +kernel
theorem dL_law_701 : decode cL_law 701 = .ok (.if_icmp .eq 580, 3) := by decide +kernel
theorem dL_law_704 : decode cL_law 704 = .ok (.iconst 0, 1) := by decide +kernel
theorem dL_law_705 : decode cL_law 705 = .ok (.ireturn, 1) := by decide +kernel
theorem dL_law_706 : decode cL_law 706 = .ok (.aload_n 1, 1) := by decide +kernel
theorem dL_law_707 : decode cL_law 707 = .ok (.aload_n 0, 1) := by decide +kernel
theorem dL_law_708 : decode cL_law 708 = .ok (.iload_n 3, 1) := by decide +kernel
theorem dL_law_709 : decode cL_law 709 = .ok (.iconst 1, 1) := by decide +kernel
theorem dL_law_710 : decode cL_law 710 = .ok (.iadd, 1) := by decide +kernel
theorem dL_law_711 : decode cL_law 711 = .ok (.iaload, 1) := by decide +kernel
theorem dL_law_712 : decode cL_law 712 = .ok (.aload_n 0, 1) := by decide +kernel
theorem dL_law_713 : decode cL_law 713 = .ok (.iload_n 3, 1) := by decide +kernel
theorem dL_law_714 : decode cL_law 714 = .ok (.iconst 2, 1) := by decide +kernel
theorem dL_law_715 : decode cL_law 715 = .ok (.iadd, 1) := by decide +kernel
theorem dL_law_716 : decode cL_law 716 = .ok (.iaload, 1) := by decide +kernel
theorem dL_law_717 : decode cL_law 717 = .ok (.aload_n 0, 1) := by decide +kernel
theorem dL_law_718 : decode cL_law 718 = .ok (.iload_n 3, 1) := by decide +kernel
theorem dL_law_719 : decode cL_law 719 = .ok (.iconst 3, 1) := by decide +kernel
theorem dL_law_720 : decode cL_law 720 = .ok (.iadd, 1) := by decide +kernel
theorem dL_law_721 : decode cL_law 721 = .ok (.iaload, 1) := by decide +kernel
theorem dL_law_722 : decode cL_law 722 = .ok (.invokevirtual 90, 3) := by decide +kernel
theorem dL_law_725 : decode cL_law 725 = .ok (.aload_n 2, 1) := by decide +kernel
theorem dL_law_726 : decode cL_law 726 = .ok (.aload_n 0, 1) := by decide +kernel
theorem dL_law_727 : decode cL_law 727 = .ok (.iload_n 3, 1) := by decide +kernel
theorem dL_law_728 : decode cL_law 728 = .ok (.iconst 1, 1) := by decide +kernel
theorem dL_law_729 : decode cL_law 729 = .ok (.iadd, 1) := by decide +kernel
theorem dL_law_730 : decode cL_law 730 = .ok (.iaload, 1) := by decide +kernel
theorem dL_law_731 : decode cL_law 731 = .ok (.aload_n 0, 1) := by decide +kernel
theorem dL_law_732 : decode cL_law 732 = .ok (.iload_n 3, 1) := by decide +kernel
theorem dL_law_733 : decode cL_law 733 = .ok (.iconst 2, 1) := by decide +kernel
theorem dL_law_734 : decode cL_law 734 = .ok (.iadd, 1) := by decide +kernel
theorem dL_law_735 : decode cL_law 735 = .ok (.iaload, 1) := by decide +kernel
theorem dL_law_736 : decode cL_law 736 = .ok (.aload_n 0, 1) := by decide +kernel
theorem dL_law_737 : decode cL_law 737 = .ok (.iload_n 3, 1) := by decide +kernel
theorem dL_law_738 : decode cL_law 738 = .ok (.iconst 3, 1) := by decide +kernel
theorem dL_law_739 : decode cL_law 739 = .ok (.iadd, 1) := by decide +kernel
theorem dL_law_740 : decode cL_law 740 = .ok (.iaload, 1) := by decide +kernel
theorem dL_law_741 : decode cL_law 741 = .ok (.invokevirtual 93, 3) := by decide +kernel
theorem dL_law_744 : decode cL_law 744 = .ok (.if_icmp .eq 537, 3) := by decide +kernel
theorem dL_law_747 : decode cL_law 747 = .ok (.iconst 0, 1) := by decide +kernel
theorem dL_law_748 : decode cL_law 748 = .ok (.ireturn, 1) := by decide +kernel
theorem dL_law_749 : decode cL_law 749 = .ok (.aload_n 1, 1) := by decide +kernel
theorem dL_law_750 : decode cL_law 750 = .ok (.invokevirtual 94, 3) := by decide +kernel
theorem dL_law_753 : decode cL_law 753 = .ok (.aload_n 2, 1) := by decide +kernel
theorem dL_law_754 : decode cL_law 754 = .ok (.invokevirtual 97, 3) := by decide +kernel
theorem dL_law_757 : decode cL_law 757 = .ok (.if_icmp .eq 524, 3) := by decide +kernel
theorem dL_law_760 : decode cL_law 760 = .ok (.iconst 0, 1) := by decide +kernel
theorem dL_law_761 : decode cL_law 761 = .ok (.ireturn, 1) := by decide +kernel
theorem dL_law_762 : decode cL_law 762 = .ok (.aload_n 1, 1) := by decide +kernel
theorem dL_law_763 : decode cL_law 763 = .ok (.aload_n 0, 1) := by decide +kernel
theorem dL_law_764 : decode cL_law 764 = .ok (.iload_n 3, 1) := by decide +kernel
theorem dL_law_765 : decode cL_law 765 = .ok (.iconst 1, 1) := by decide +kernel
theorem dL_law_766 : decode cL_law 766 = .ok (.iadd, 1) := by decide +kernel
theorem dL_law_767 : decode cL_law 767 = .ok (.iaload, 1) := by decide +kernel
theorem dL_law_768 : decode cL_law 768 = .ok (.aload_n 0, 1) := by decide +kernel
theorem dL_law_769 : decode cL_law 769 = .ok (.iload_n 3, 1) := by decide +kernel
theorem dL_law_770 : decode cL_law 770 = .ok (.iconst 2, 1) := by decide +kernel
theorem dL_law_771 : decode cL_law 771 = .ok (.iadd, 1) := by decide +kernel
theorem dL_law_772 : decode cL_law 772 = .ok (.iaload, 1) := by decide +kernel
theorem dL_law_773 : decode cL_law 773 = .ok (.aload_n 0, 1) := by decide +kernel
theorem dL_law_774 : decode cL_law 774 = .ok (.iload_n 3, 1) := by decide +kernel
theorem dL_law_775 : decode cL_law 775 = .ok (.iconst 3, 1) := by decide +kernel
theorem dL_law_776 : decode cL_law 776 = .ok (.iadd, 1) := by decide +kernel
theorem dL_law_777 : decode cL_law 777 = .ok (.iaload, 1) := by decide +kernel
theorem dL_law_778 : decode cL_law 778 = .ok (.aload_n 0, 1) := by decide +kernel
theorem dL_law_779 : decode cL_law 779 = .ok (.iload_n 3, 1) := by decide +kernel
theorem dL_law_780 : decode cL_law 780 = .ok (.iconst 4, 1) := by decide +kernel
theorem dL_law_781 : decode cL_law 781 = .ok (.iadd, 1) := by decide +kernel
theorem dL_law_782 : decode cL_law 782 = .ok (.iaload, 1) := by decide +kernel
theorem dL_law_783 : decode cL_law 783 = .ok (.invokevirtual 98, 3) := by decide +kernel
theorem dL_law_786 : decode cL_law 786 = .ok (.aload_n 2, 1) := by decide +kernel
theorem dL_law_787 : decode cL_law 787 = .ok (.aload_n 0, 1) := by decide +kernel
theorem dL_law_788 : decode cL_law 788 = .ok (.iload_n 3, 1) := by decide +kernel
theorem dL_law_789 : decode cL_law 789 = .ok (.iconst 1, 1) := by decide +kernel
theorem dL_law_790 : decode cL_law 790 = .ok (.iadd, 1) := by decide +kernel
theorem dL_law_791 : decode cL_law 791 = .ok (.iaload, 1) := by decide +kernel
theorem dL_law_792 : decode cL_law 792 = .ok (.aload_n 0, 1) := by decide +kernel
theorem dL_law_793 : decode cL_law 793 = .ok (.iload_n 3, 1) := by decide +kernel
theorem dL_law_794 : decode cL_law 794 = .ok (.iconst 2, 1) := by decide +kernel
theorem dL_law_795 : decode cL_law 795 = .ok (.iadd, 1) := by decide +kernel
theorem dL_law_796 : decode cL_law 796 = .ok (.iaload, 1) := by decide +kernel
theorem dL_law_797 : decode cL_law 797 = .ok (.aload_n 0, 1) := by decide +kernel
theorem dL_law_798 : decode cL_law 798 = .ok (.iload_n 3, 1) := by decide +kernel
theorem dL_law_799 : decode cL_law 799 = .ok (.iconst 3, 1) := by decide +kernel
theorem dL_law_800 : decode cL_law 800 = .ok (.iadd, 1) := by decide +kernel
theorem dL_law_801 : decode cL_law 801 = .ok (.iaload, 1) := by decide +kernel
theorem dL_law_802 : decode cL_law 802 = .ok (.aload_n 0, 1) := by decide +kernel
theorem dL_law_803 : decode cL_law 803 = .ok (.iload_n 3, 1) := by decide +kernel
theorem dL_law_804 : decode cL_law 804 = .ok (.iconst 4, 1) := by decide +kernel
theorem dL_law_805 : decode cL_law 805 = .ok (.iadd, 1) := by decide +kernel
theorem dL_law_806 : decode cL_law 806 = .ok (.iaload, 1) := by decide +kernel
theorem dL_law_807 : decode cL_law 807 = .ok (.invokevirtual 102, 3) := by decide +kernel
theorem dL_law_810 : decode cL_law 810 = .ok (.if_icmp .eq 471, 3) := by decide +kernel
theorem dL_law_813 : decode cL_law 813 = .ok (.iconst 0, 1) := by decide +kernel
theorem dL_law_814 : decode cL_law 814 = .ok (.ireturn, 1) := by decide +kernel
theorem dL_law_815 : decode cL_law 815 = .ok (.aload_n 1, 1) := by decide +kernel
theorem dL_law_816 : decode cL_law 816 = .ok (.aload_n 0, 1) := by decide +kernel
theorem dL_law_817 : decode cL_law 817 = .ok (.iload_n 3, 1) := by decide +kernel
theorem dL_law_818 : decode cL_law 818 = .ok (.iconst 1, 1) := by decide +kernel
theorem dL_law_819 : decode cL_law 819 = .ok (.iadd, 1) := by decide +kernel
theorem dL_law_820 : decode cL_law 820 = .ok (.iaload, 1) := by decide +kernel
theorem dL_law_821 : decode cL_law 821 = .ok (.aload_n 0, 1) := by decide +kernel
theorem dL_law_822 : decode cL_law 822 = .ok (.iload_n 3, 1) := by decide +kernel
theorem dL_law_823 : decode cL_law 823 = .ok (.iconst 2, 1) := by decide +kernel
theorem dL_law_824 : decode cL_law 824 = .ok (.iadd, 1) := by decide +kernel
theorem dL_law_825 : decode cL_law 825 = .ok (.iaload, 1) := by decide +kernel
theorem dL_law_826 : decode cL_law 826 = .ok (.aload_n 0, 1) := by decide +kernel
theorem dL_law_827 : decode cL_law 827 = .ok (.iload_n 3, 1) := by decide +kernel
theorem dL_law_828 : decode cL_law 828 = .ok (.iconst 3, 1) := by decide +kernel
theorem dL_law_829 : decode cL_law 829 = .ok (.iadd, 1) := by decide +kernel
theorem dL_law_830 : decode cL_law 830 = .ok (.iaload, 1) := by decide +kernel
theorem dL_law_831 : decode cL_law 831 = .ok (.invokevirtual 103, 3) := by decide +kernel
theorem dL_law_834 : decode cL_law 834 = .ok (.aload_n 2, 1) := by decide +kernel
theorem dL_law_835 : decode cL_law 835 = .ok (.aload_n 0, 1) := by decide +kernel
theorem dL_law_836 : decode cL_law 836 = .ok (.iload_n 3, 1) := by decide +kernel
theorem dL_law_837 : decode cL_law 837 = .ok (.iconst 1, 1) := by decide +kernel
theorem dL_law_838 : decode cL_law 838 = .ok (.iadd, 1) := by decide +kernel
theorem dL_law_839 : decode cL_law 839 = .ok (.iaload, 1) := by decide +kernel
theorem dL_law_840 : decode cL_law 840 = .ok (.aload_n 0, 1) := by decide +kernel
theorem dL_law_841 : decode cL_law 841 = .ok (.iload_n 3, 1) := by decide +kernel
theorem dL_law_842 : decode cL_law 842 = .ok (.iconst 2, 1) := by decide +kernel
theorem dL_law_843 : decode cL_law 843 = .ok (.iadd, 1) := by decide +kernel
theorem dL_law_844 : decode cL_law 844 = .ok (.iaload, 1) := by decide +kernel
theorem dL_law_845 : decode cL_law 845 = .ok (.aload_n 0, 1) := by decide +kernel
theorem dL_law_846 : decode cL_law 846 = .ok (.iload_n 3, 1) := by decide +kernel
theorem dL_law_847 : decode cL_law 847 = .ok (.iconst 3, 1) := by decide +kernel
theorem dL_law_848 : decode cL_law 848 = .ok (.iadd, 1) := by decide +kernel
theorem dL_law_849 : decode cL_law 849 = .ok (.iaload, 1) := by decide +kernel
theorem dL_law_850 : decode cL_law 850 = .ok (.invokevirtual 106, 3) := by decide +kernel
theorem dL_law_853 : decode cL_law 853 = .ok (.if_icmp .eq 428, 3) := by decide +kernel
theorem dL_law_856 : decode cL_law 856 = .ok (.iconst 0, 1) := by decide +kernel
theorem dL_law_857 : decode cL_law 857 = .ok (.ireturn, 1) := by decide +kernel
theorem dL_law_858 : decode cL_law 858 = .ok (.aload_n 1, 1) := by decide +kernel
theorem dL_law_859 : decode cL_law 859 = .ok (.aload_n 0, 1) := by decide +kernel
theorem dL_law_860 : decode cL_law 860 = .ok (.iload_n 3, 1) := by decide +kernel
theorem dL_law_861 : decode cL_law 861 = .ok (.iconst 1, 1) := by decide +kernel
theorem dL_law_862 : decode cL_law 862 = .ok (.iadd, 1) := by decide +kernel
theorem dL_law_863 : decode cL_law 863 = .ok (.iaload, 1) := by decide +kernel
theorem dL_law_864 : decode cL_law 864 = .ok (.aload_n 0, 1) := by decide +kernel
theorem dL_law_865 : decode cL_law 865 = .ok (.iload_n 3, 1) := by decide +kernel
theorem dL_law_866 : decode cL_law 866 = .ok (.iconst 2, 1) := by decide +kernel
theorem dL_law_867 : decode cL_law 867 = .ok (.iadd, 1) := by decide +kernel
theorem dL_law_868 : decode cL_law 868 = .ok (.iaload, 1) := by decide +kernel
theorem dL_law_869 : decode cL_law 869 = .ok (.aload_n 0, 1) := by decide +kernel
theorem dL_law_870 : decode cL_law 870 = .ok (.iload_n 3, 1) := by decide +kernel
theorem dL_law_871 : decode cL_law 871 = .ok (.iconst 3, 1) := by decide +kernel
theorem dL_law_872 : decode cL_law 872 = .ok (.iadd, 1) := by decide +kernel
theorem dL_law_873 : decode cL_law 873 = .ok (.iaload, 1) := by decide +kernel
theorem dL_law_874 : decode cL_law 874 = .ok (.aload_n 0, 1) := by decide +kernel
theorem dL_law_875 : decode cL_law 875 = .ok (.iload_n 3, 1) := by decide +kernel
theorem dL_law_876 : decode cL_law 876 = .ok (.iconst 4, 1) := by decide +kernel
theorem dL_law_877 : decode cL_law 877 = .ok (.iadd, 1) := by decide +kernel
theorem dL_law_878 : decode cL_law 878 = .ok (.iaload, 1) := by decide +kernel
theorem dL_law_879 : decode cL_law 879 = .ok (.invokevirtual 107, 3) := by decide +kernel
theorem dL_law_882 : decode cL_law 882 = .ok (.aload_n 2, 1) := by decide +kernel
theorem dL_law_883 : decode cL_law 883 = .ok (.aload_n 0, 1) := by decide +kernel
theorem dL_law_884 : decode cL_law 884 = .ok (.iload_n 3, 1) := by decide +kernel
theorem dL_law_885 : decode cL_law 885 = .ok (.iconst 1, 1) := by decide +kernel
theorem dL_law_886 : decode cL_law 886 = .ok (.iadd, 1) := by decide +kernel
theorem dL_law_887 : decode cL_law 887 = .ok (.iaload, 1) := by decide +kernel
theorem dL_law_888 : decode cL_law 888 = .ok (.aload_n 0, 1) := by decide +kernel
theorem dL_law_889 : decode cL_law 889 = .ok (.iload_n 3, 1) := by decide +kernel
theorem dL_law_890 : decode cL_law 890 = .ok (.iconst 2, 1) := by decide +kernel
theorem dL_law_891 : decode cL_law 891 = .ok (.iadd, 1) := by decide +kernel
theorem dL_law_892 : decode cL_law 892 = .ok (.iaload, 1) := by decide +kernel
theorem dL_law_893 : decode cL_law 893 = .ok (.aload_n 0, 1) := by decide +kernel
theorem dL_law_894 : decode cL_law 894 = .ok (.iload_n 3, 1) := by decide +kernel
theorem dL_law_895 : decode cL_law 895 = .ok (.iconst 3, 1) := by decide +kernel
theorem dL_law_896 : decode cL_law 896 = .ok (.iadd, 1) := by decide +kernel
theorem dL_law_897 : decode cL_law 897 = .ok (.iaload, 1) := by decide +kernel
theorem dL_law_898 : decode cL_law 898 = .ok (.aload_n 0, 1) := by decide +kernel
theorem dL_law_899 : decode cL_law 899 = .ok (.iload_n 3, 1) := by decide +kernel
theorem dL_law_900 : decode cL_law 900 = .ok (.iconst 4, 1) := by decide +kernel
theorem dL_law_901 : decode cL_law 901 = .ok (.iadd, 1) := by decide +kernel
theorem dL_law_902 : decode cL_law 902 = .ok (.iaload, 1) := by decide +kernel
theorem dL_law_903 : decode cL_law 903 = .ok (.invokevirtual 110, 3) := by decide +kernel
theorem dL_law_906 : decode cL_law 906 = .ok (.if_icmp .eq 375, 3) := by decide +kernel
theorem dL_law_909 : decode cL_law 909 = .ok (.iconst 0, 1) := by decide +kernel
theorem dL_law_910 : decode cL_law 910 = .ok (.ireturn, 1) := by decide +kernel
theorem dL_law_911 : decode cL_law 911 = .ok (.aload_n 1, 1) := by decide +kernel
theorem dL_law_912 : decode cL_law 912 = .ok (.aload_n 0, 1) := by decide +kernel
theorem dL_law_913 : decode cL_law 913 = .ok (.iload_n 3, 1) := by decide +kernel
theorem dL_law_914 : decode cL_law 914 = .ok (.iconst 1, 1) := by decide +kernel
theorem dL_law_915 : decode cL_law 915 = .ok (.iadd, 1) := by decide +kernel
theorem dL_law_916 : decode cL_law 916 = .ok (.iaload, 1) := by decide +kernel
theorem dL_law_917 : decode cL_law 917 = .ok (.invokevirtual 111, 3) := by decide +kernel
theorem dL_law_920 : decode cL_law 920 = .ok (.aload_n 2, 1) := by decide +kernel
theorem dL_law_921 : decode cL_law 921 = .ok (.aload_n 0, 1) := by decide +kernel
theorem dL_law_922 : decode cL_law 922 = .ok (.iload_n 3, 1) := by decide +kernel
theorem dL_law_923 : decode cL_law 923 = .ok (.iconst 1, 1) := by decide +kernel
theorem dL_law_924 : decode cL_law 924 = .ok (.iadd, 1) := by decide +kernel
theorem dL_law_925 : decode cL_law 925 = .ok (.iaload, 1) := by decide +kernel
theorem dL_law_926 : decode cL_law 926 = .ok (.invokevirtual 114, 3) := by decide +kernel
theorem dL_law_929 : decode cL_law 929 = .ok (.if_icmp .eq 352, 3) := by decide +kernel
theorem dL_law_932 : decode cL_law 932 = .ok (.iconst 0, 1) := by decide +kernel
theorem dL_law_933 : decode cL_law 933 = .ok (.ireturn, 1) := by decide +kernel
theorem dL_law_934 : decode cL_law 934 = .ok (.aload_n 1, 1) := by decide +kernel
theorem dL_law_935 : decode cL_law 935 = .ok (.aload_n 0, 1) := by decide +kernel
theorem dL_law_936 : decode cL_law 936 = .ok (.iload_n 3, 1) := by decide +kernel
theorem dL_law_937 : decode cL_law 937 = .ok (.iconst 1, 1) := by decide +kernel
theorem dL_law_938 : decode cL_law 938 = .ok (.iadd, 1) := by decide +kernel
theorem dL_law_939 : decode cL_law 939 = .ok (.iaload, 1) := by decide +kernel
theorem dL_law_940 : decode cL_law 940 = .ok (.aload_n 0, 1) := by decide +kernel
theorem dL_law_941 : decode cL_law 941 = .ok (.iload_n 3, 1) := by decide +kernel
theorem dL_law_942 : decode cL_law 942 = .ok (.iconst 2, 1) := by decide +kernel
theorem dL_law_943 : decode cL_law 943 = .ok (.iadd, 1) := by decide +kernel
theorem dL_law_944 : decode cL_law 944 = .ok (.iaload, 1) := by decide +kernel
theorem dL_law_945 : decode cL_law 945 = .ok (.invokevirtual 115, 3) := by decide +kernel
theorem dL_law_948 : decode cL_law 948 = .ok (.aload_n 2, 1) := by decide +kernel
theorem dL_law_949 : decode cL_law 949 = .ok (.aload_n 0, 1) := by decide +kernel
theorem dL_law_950 : decode cL_law 950 = .ok (.iload_n 3, 1) := by decide +kernel
theorem dL_law_951 : decode cL_law 951 = .ok (.iconst 1, 1) := by decide +kernel
theorem dL_law_952 : decode cL_law 952 = .ok (.iadd, 1) := by decide +kernel
theorem dL_law_953 : decode cL_law 953 = .ok (.iaload, 1) := by decide +kernel
theorem dL_law_954 : decode cL_law 954 = .ok (.aload_n 0, 1) := by decide +kernel
theorem dL_law_955 : decode cL_law 955 = .ok (.iload_n 3, 1) := by decide +kernel
theorem dL_law_956 : decode cL_law 956 = .ok (.iconst 2, 1) := by decide +kernel
theorem dL_law_957 : decode cL_law 957 = .ok (.iadd, 1) := by decide +kernel
theorem dL_law_958 : decode cL_law 958 = .ok (.iaload, 1) := by decide +kernel
theorem dL_law_959 : decode cL_law 959 = .ok (.invokevirtual 118, 3) := by decide +kernel
theorem dL_law_962 : decode cL_law 962 = .ok (.if_icmp .eq 319, 3) := by decide +kernel
theorem dL_law_965 : decode cL_law 965 = .ok (.iconst 0, 1) := by decide +kernel
theorem dL_law_966 : decode cL_law 966 = .ok (.ireturn, 1) := by decide +kernel
theorem dL_law_967 : decode cL_law 967 = .ok (.aload_n 1, 1) := by decide +kernel
theorem dL_law_968 : decode cL_law 968 = .ok (.aload_n 0, 1) := by decide +kernel
theorem dL_law_969 : decode cL_law 969 = .ok (.iload_n 3, 1) := by decide +kernel
theorem dL_law_970 : decode cL_law 970 = .ok (.iconst 1, 1) := by decide +kernel
theorem dL_law_971 : decode cL_law 971 = .ok (.iadd, 1) := by decide +kernel
theorem dL_law_972 : decode cL_law 972 = .ok (.iaload, 1) := by decide +kernel
theorem dL_law_973 : decode cL_law 973 = .ok (.aload_n 0, 1) := by decide +kernel
theorem dL_law_974 : decode cL_law 974 = .ok (.iload_n 3, 1) := by decide +kernel
theorem dL_law_975 : decode cL_law 975 = .ok (.iconst 2, 1) := by decide +kernel
theorem dL_law_976 : decode cL_law 976 = .ok (.iadd, 1) := by decide +kernel
theorem dL_law_977 : decode cL_law 977 = .ok (.iaload, 1) := by decide +kernel
theorem dL_law_978 : decode cL_law 978 = .ok (.aload_n 0, 1) := by decide +kernel
theorem dL_law_979 : decode cL_law 979 = .ok (.iload_n 3, 1) := by decide +kernel
theorem dL_law_980 : decode cL_law 980 = .ok (.iconst 3, 1) := by decide +kernel
theorem dL_law_981 : decode cL_law 981 = .ok (.iadd, 1) := by decide +kernel
theorem dL_law_982 : decode cL_law 982 = .ok (.iaload, 1) := by decide +kernel
theorem dL_law_983 : decode cL_law 983 = .ok (.invokevirtual 119, 3) := by decide +kernel
theorem dL_law_986 : decode cL_law 986 = .ok (.aload_n 2, 1) := by decide +kernel
theorem dL_law_987 : decode cL_law 987 = .ok (.aload_n 0, 1) := by decide +kernel
theorem dL_law_988 : decode cL_law 988 = .ok (.iload_n 3, 1) := by decide +kernel
theorem dL_law_989 : decode cL_law 989 = .ok (.iconst 1, 1) := by decide +kernel
theorem dL_law_990 : decode cL_law 990 = .ok (.iadd, 1) := by decide +kernel
theorem dL_law_991 : decode cL_law 991 = .ok (.iaload, 1) := by decide +kernel
theorem dL_law_992 : decode cL_law 992 = .ok (.aload_n 0, 1) := by decide +kernel
theorem dL_law_993 : decode cL_law 993 = .ok (.iload_n 3, 1) := by decide +kernel
theorem dL_law_994 : decode cL_law 994 = .ok (.iconst 2, 1) := by decide +kernel
theorem dL_law_995 : decode cL_law 995 = .ok (.iadd, 1) := by decide +kernel
theorem dL_law_996 : decode cL_law 996 = .ok (.iaload, 1) := by decide +kernel
theorem dL_law_997 : decode cL_law 997 = .ok (.aload_n 0, 1) := by decide +kernel
theorem dL_law_998 : decode cL_law 998 = .ok (.iload_n 3, 1) := by decide +kernel
theorem dL_law_999 : decode cL_law 999 = .ok (.iconst 3, 1) := by decide +kernel
theorem dL_law_1000 : decode cL_law 1000 = .ok (.iadd, 1) := by decide +kernel
theorem dL_law_1001 : decode cL_law 1001 = .ok (.iaload, 1) := by decide +kernel
theorem dL_law_1002 : decode cL_law 1002 = .ok (.invokevirtual 123, 3) := by decide +kernel
theorem dL_law_1005 : decode cL_law 1005 = .ok (.lcmp, 1) := by decide +kernel
theorem dL_law_1006 : decode cL_law 1006 = .ok (.ifCond .eq 275, 3) := by decide +kernel
theorem dL_law_1009 : decode cL_law 1009 = .ok (.iconst 0, 1) := by decide +kernel
theorem dL_law_1010 : decode cL_law 1010 = .ok (.ireturn, 1) := by decide +kernel
theorem dL_law_1011 : decode cL_law 1011 = .ok (.aload_n 1, 1) := by decide +kernel
theorem dL_law_1012 : decode cL_law 1012 = .ok (.aload_n 0, 1) := by decide +kernel
theorem dL_law_1013 : decode cL_law 1013 = .ok (.iload_n 3, 1) := by decide +kernel
theorem dL_law_1014 : decode cL_law 1014 = .ok (.iconst 1, 1) := by decide +kernel
theorem dL_law_1015 : decode cL_law 1015 = .ok (.iadd, 1) := by decide +kernel
theorem dL_law_1016 : decode cL_law 1016 = .ok (.iaload, 1) := by decide +kernel
theorem dL_law_1017 : decode cL_law 1017 = .ok (.aload_n 0, 1) := by decide +kernel
theorem dL_law_1018 : decode cL_law 1018 = .ok (.iload_n 3, 1) := by decide +kernel
theorem dL_law_1019 : decode cL_law 1019 = .ok (.iconst 2, 1) := by decide +kernel
theorem dL_law_1020 : decode cL_law 1020 = .ok (.iadd, 1) := by decide +kernel
theorem dL_law_1021 : decode cL_law 1021 = .ok (.iaload, 1) := by decide +kernel
theorem dL_law_1022 : decode cL_law 1022 = .ok (.invokevirtual 124, 3) := by decide +kernel
theorem dL_law_1025 : decode cL_law 1025 = .ok (.aload_n 2, 1) := by decide +kernel
theorem dL_law_1026 : decode cL_law 1026 = .ok (.aload_n 0, 1) := by decide +kernel
theorem dL_law_1027 : decode cL_law 1027 = .ok (.iload_n 3, 1) := by decide +kernel
theorem dL_law_1028 : decode cL_law 1028 = .ok (.iconst 1, 1) := by decide +kernel
theorem dL_law_1029 : decode cL_law 1029 = .ok (.iadd, 1) := by decide +kernel
theorem dL_law_1030 : decode cL_law 1030 = .ok (.iaload, 1) := by decide +kernel
theorem dL_law_1031 : decode cL_law 1031 = .ok (.aload_n 0, 1) := by decide +kernel
theorem dL_law_1032 : decode cL_law 1032 = .ok (.iload_n 3, 1) := by decide +kernel
theorem dL_law_1033 : decode cL_law 1033 = .ok (.iconst 2, 1) := by decide +kernel
theorem dL_law_1034 : decode cL_law 1034 = .ok (.iadd, 1) := by decide +kernel
theorem dL_law_1035 : decode cL_law 1035 = .ok (.iaload, 1) := by decide +kernel
theorem dL_law_1036 : decode cL_law 1036 = .ok (.invokevirtual 127, 3) := by decide +kernel
theorem dL_law_1039 : decode cL_law 1039 = .ok (.if_icmp .eq 242, 3) := by decide +kernel
theorem dL_law_1042 : decode cL_law 1042 = .ok (.iconst 0, 1) := by decide +kernel
theorem dL_law_1043 : decode cL_law 1043 = .ok (.ireturn, 1) := by decide +kernel
theorem dL_law_1044 : decode cL_law 1044 = .ok (.aload_n 1, 1) := by decide +kernel
theorem dL_law_1045 : decode cL_law 1045 = .ok (.aload_n 0, 1) := by decide +kernel
theorem dL_law_1046 : decode cL_law 1046 = .ok (.iload_n 3, 1) := by decide +kernel
theorem dL_law_1047 : decode cL_law 1047 = .ok (.iconst 1, 1) := by decide +kernel
theorem dL_law_1048 : decode cL_law 1048 = .ok (.iadd, 1) := by decide +kernel
theorem dL_law_1049 : decode cL_law 1049 = .ok (.iaload, 1) := by decide +kernel
theorem dL_law_1050 : decode cL_law 1050 = .ok (.aload_n 0, 1) := by decide +kernel
theorem dL_law_1051 : decode cL_law 1051 = .ok (.iload_n 3, 1) := by decide +kernel
theorem dL_law_1052 : decode cL_law 1052 = .ok (.iconst 2, 1) := by decide +kernel
theorem dL_law_1053 : decode cL_law 1053 = .ok (.iadd, 1) := by decide +kernel
theorem dL_law_1054 : decode cL_law 1054 = .ok (.iaload, 1) := by decide +kernel
theorem dL_law_1055 : decode cL_law 1055 = .ok (.aload_n 0, 1) := by decide +kernel
theorem dL_law_1056 : decode cL_law 1056 = .ok (.iload_n 3, 1) := by decide +kernel
theorem dL_law_1057 : decode cL_law 1057 = .ok (.iconst 3, 1) := by decide +kernel
theorem dL_law_1058 : decode cL_law 1058 = .ok (.iadd, 1) := by decide +kernel
theorem dL_law_1059 : decode cL_law 1059 = .ok (.iaload, 1) := by decide +kernel
theorem dL_law_1060 : decode cL_law 1060 = .ok (.invokevirtual 128, 3) := by decide +kernel
theorem dL_law_1063 : decode cL_law 1063 = .ok (.aload_n 2, 1) := by decide +kernel
theorem dL_law_1064 : decode cL_law 1064 = .ok (.aload_n 0, 1) := by decide +kernel
theorem dL_law_1065 : decode cL_law 1065 = .ok (.iload_n 3, 1) := by decide +kernel
theorem dL_law_1066 : decode cL_law 1066 = .ok (.iconst 1, 1) := by decide +kernel
theorem dL_law_1067 : decode cL_law 1067 = .ok (.iadd, 1) := by decide +kernel
theorem dL_law_1068 : decode cL_law 1068 = .ok (.iaload, 1) := by decide +kernel
theorem dL_law_1069 : decode cL_law 1069 = .ok (.aload_n 0, 1) := by decide +kernel
theorem dL_law_1070 : decode cL_law 1070 = .ok (.iload_n 3, 1) := by decide +kernel
theorem dL_law_1071 : decode cL_law 1071 = .ok (.iconst 2, 1) := by decide +kernel
theorem dL_law_1072 : decode cL_law 1072 = .ok (.iadd, 1) := by decide +kernel
theorem dL_law_1073 : decode cL_law 1073 = .ok (.iaload, 1) := by decide +kernel
theorem dL_law_1074 : decode cL_law 1074 = .ok (.aload_n 0, 1) := by decide +kernel
theorem dL_law_1075 : decode cL_law 1075 = .ok (.iload_n 3, 1) := by decide +kernel
theorem dL_law_1076 : decode cL_law 1076 = .ok (.iconst 3, 1) := by decide +kernel
theorem dL_law_1077 : decode cL_law 1077 = .ok (.iadd, 1) := by decide +kernel
theorem dL_law_1078 : decode cL_law 1078 = .ok (.iaload, 1) := by decide +kernel
theorem dL_law_1079 : decode cL_law 1079 = .ok (.invokevirtual 131, 3) := by decide +kernel
theorem dL_law_1082 : decode cL_law 1082 = .ok (.if_icmp .eq 199, 3) := by decide +kernel
theorem dL_law_1085 : decode cL_law 1085 = .ok (.iconst 0, 1) := by decide +kernel
theorem dL_law_1086 : decode cL_law 1086 = .ok (.ireturn, 1) := by decide +kernel
theorem dL_law_1087 : decode cL_law 1087 = .ok (.aload_n 1, 1) := by decide +kernel
theorem dL_law_1088 : decode cL_law 1088 = .ok (.aload_n 0, 1) := by decide +kernel
theorem dL_law_1089 : decode cL_law 1089 = .ok (.iload_n 3, 1) := by decide +kernel
theorem dL_law_1090 : decode cL_law 1090 = .ok (.iconst 1, 1) := by decide +kernel
theorem dL_law_1091 : decode cL_law 1091 = .ok (.iadd, 1) := by decide +kernel
theorem dL_law_1092 : decode cL_law 1092 = .ok (.iaload, 1) := by decide +kernel
theorem dL_law_1093 : decode cL_law 1093 = .ok (.invokevirtual 132, 3) := by decide +kernel
theorem dL_law_1096 : decode cL_law 1096 = .ok (.aload_n 2, 1) := by decide +kernel
theorem dL_law_1097 : decode cL_law 1097 = .ok (.aload_n 0, 1) := by decide +kernel
theorem dL_law_1098 : decode cL_law 1098 = .ok (.iload_n 3, 1) := by decide +kernel
theorem dL_law_1099 : decode cL_law 1099 = .ok (.iconst 1, 1) := by decide +kernel
theorem dL_law_1100 : decode cL_law 1100 = .ok (.iadd, 1) := by decide +kernel
theorem dL_law_1101 : decode cL_law 1101 = .ok (.iaload, 1) := by decide +kernel
theorem dL_law_1102 : decode cL_law 1102 = .ok (.invokevirtual 135, 3) := by decide +kernel
theorem dL_law_1105 : decode cL_law 1105 = .ok (.if_icmp .eq 176, 3) := by decide +kernel
theorem dL_law_1108 : decode cL_law 1108 = .ok (.iconst 0, 1) := by decide +kernel
theorem dL_law_1109 : decode cL_law 1109 = .ok (.ireturn, 1) := by decide +kernel
theorem dL_law_1110 : decode cL_law 1110 = .ok (.aload_n 1, 1) := by decide +kernel
theorem dL_law_1111 : decode cL_law 1111 = .ok (.aload_n 0, 1) := by decide +kernel
theorem dL_law_1112 : decode cL_law 1112 = .ok (.iload_n 3, 1) := by decide +kernel
theorem dL_law_1113 : decode cL_law 1113 = .ok (.iconst 1, 1) := by decide +kernel
theorem dL_law_1114 : decode cL_law 1114 = .ok (.iadd, 1) := by decide +kernel
theorem dL_law_1115 : decode cL_law 1115 = .ok (.iaload, 1) := by decide +kernel
theorem dL_law_1116 : decode cL_law 1116 = .ok (.invokevirtual 136, 3) := by decide +kernel
theorem dL_law_1119 : decode cL_law 1119 = .ok (.aload_n 2, 1) := by decide +kernel
theorem dL_law_1120 : decode cL_law 1120 = .ok (.aload_n 0, 1) := by decide +kernel
theorem dL_law_1121 : decode cL_law 1121 = .ok (.iload_n 3, 1) := by decide +kernel
theorem dL_law_1122 : decode cL_law 1122 = .ok (.iconst 1, 1) := by decide +kernel
theorem dL_law_1123 : decode cL_law 1123 = .ok (.iadd, 1) := by decide +kernel
theorem dL_law_1124 : decode cL_law 1124 = .ok (.iaload, 1) := by decide +kernel
theorem dL_law_1125 : decode cL_law 1125 = .ok (.invokevirtual 139, 3) := by decide +kernel
theorem dL_law_1128 : decode cL_law 1128 = .ok (.if_icmp .eq 153, 3) := by decide +kernel
theorem dL_law_1131 : decode cL_law 1131 = .ok (.iconst 0, 1) := by decide +kernel
theorem dL_law_1132 : decode cL_law 1132 = .ok (.ireturn, 1) := by decide +kernel
theorem dL_law_1133 : decode cL_law 1133 = .ok (.aload_n 1, 1) := by decide +kernel
theorem dL_law_1134 : decode cL_law 1134 = .ok (.aload_n 0, 1) := by decide +kernel
theorem dL_law_1135 : decode cL_law 1135 = .ok (.iload_n 3, 1) := by decide +kernel
theorem dL_law_1136 : decode cL_law 1136 = .ok (.iconst 1, 1) := by decide +kernel
theorem dL_law_1137 : decode cL_law 1137 = .ok (.iadd, 1) := by decide +kernel
theorem dL_law_1138 : decode cL_law 1138 = .ok (.iaload, 1) := by decide +kernel
theorem dL_law_1139 : decode cL_law 1139 = .ok (.invokevirtual 140, 3) := by decide +kernel
theorem dL_law_1142 : decode cL_law 1142 = .ok (.aload_n 2, 1) := by decide +kernel
theorem dL_law_1143 : decode cL_law 1143 = .ok (.aload_n 0, 1) := by decide +kernel
theorem dL_law_1144 : decode cL_law 1144 = .ok (.iload_n 3, 1) := by decide +kernel
theorem dL_law_1145 : decode cL_law 1145 = .ok (.iconst 1, 1) := by decide +kernel
theorem dL_law_1146 : decode cL_law 1146 = .ok (.iadd, 1) := by decide +kernel
theorem dL_law_1147 : decode cL_law 1147 = .ok (.iaload, 1) := by decide +kernel
theorem dL_law_1148 : decode cL_law 1148 = .ok (.invokevirtual 143, 3) := by decide +kernel
theorem dL_law_1151 : decode cL_law 1151 = .ok (.if_icmp .eq 130, 3) := by decide +kernel
theorem dL_law_1154 : decode cL_law 1154 = .ok (.iconst 0, 1) := by decide +kernel
theorem dL_law_1155 : decode cL_law 1155 = .ok (.ireturn, 1) := by decide +kernel
theorem dL_law_1156 : decode cL_law 1156 = .ok (.aload_n 1, 1) := by decide +kernel
theorem dL_law_1157 : decode cL_law 1157 = .ok (.aload_n 0, 1) := by decide +kernel
theorem dL_law_1158 : decode cL_law 1158 = .ok (.iload_n 3, 1) := by decide +kernel
theorem dL_law_1159 : decode cL_law 1159 = .ok (.iconst 1, 1) := by decide +kernel
theorem dL_law_1160 : decode cL_law 1160 = .ok (.iadd, 1) := by decide +kernel
theorem dL_law_1161 : decode cL_law 1161 = .ok (.iaload, 1) := by decide +kernel
theorem dL_law_1162 : decode cL_law 1162 = .ok (.aload_n 0, 1) := by decide +kernel
theorem dL_law_1163 : decode cL_law 1163 = .ok (.iload_n 3, 1) := by decide +kernel
theorem dL_law_1164 : decode cL_law 1164 = .ok (.iconst 2, 1) := by decide +kernel
theorem dL_law_1165 : decode cL_law 1165 = .ok (.iadd, 1) := by decide +kernel
theorem dL_law_1166 : decode cL_law 1166 = .ok (.iaload, 1) := by decide +kernel
theorem dL_law_1167 : decode cL_law 1167 = .ok (.invokevirtual 144, 3) := by decide +kernel
theorem dL_law_1170 : decode cL_law 1170 = .ok (.aload_n 2, 1) := by decide +kernel
theorem dL_law_1171 : decode cL_law 1171 = .ok (.aload_n 0, 1) := by decide +kernel
theorem dL_law_1172 : decode cL_law 1172 = .ok (.iload_n 3, 1) := by decide +kernel
theorem dL_law_1173 : decode cL_law 1173 = .ok (.iconst 1, 1) := by decide +kernel
theorem dL_law_1174 : decode cL_law 1174 = .ok (.iadd, 1) := by decide +kernel
theorem dL_law_1175 : decode cL_law 1175 = .ok (.iaload, 1) := by decide +kernel
theorem dL_law_1176 : decode cL_law 1176 = .ok (.aload_n 0, 1) := by decide +kernel
theorem dL_law_1177 : decode cL_law 1177 = .ok (.iload_n 3, 1) := by decide +kernel
theorem dL_law_1178 : decode cL_law 1178 = .ok (.iconst 2, 1) := by decide +kernel
theorem dL_law_1179 : decode cL_law 1179 = .ok (.iadd, 1) := by decide +kernel
theorem dL_law_1180 : decode cL_law 1180 = .ok (.iaload, 1) := by decide +kernel
theorem dL_law_1181 : decode cL_law 1181 = .ok (.invokevirtual 147, 3) := by decide +kernel
theorem dL_law_1184 : decode cL_law 1184 = .ok (.if_icmp .eq 97, 3) := by decide +kernel
theorem dL_law_1187 : decode cL_law 1187 = .ok (.iconst 0, 1) := by decide +kernel
theorem dL_law_1188 : decode cL_law 1188 = .ok (.ireturn, 1) := by decide +kernel
theorem dL_law_1189 : decode cL_law 1189 = .ok (.aload_n 1, 1) := by decide +kernel
theorem dL_law_1190 : decode cL_law 1190 = .ok (.aload_n 0, 1) := by decide +kernel
theorem dL_law_1191 : decode cL_law 1191 = .ok (.iload_n 3, 1) := by decide +kernel
theorem dL_law_1192 : decode cL_law 1192 = .ok (.iconst 1, 1) := by decide +kernel
theorem dL_law_1193 : decode cL_law 1193 = .ok (.iadd, 1) := by decide +kernel
theorem dL_law_1194 : decode cL_law 1194 = .ok (.iaload, 1) := by decide +kernel
theorem dL_law_1195 : decode cL_law 1195 = .ok (.aload_n 0, 1) := by decide +kernel
theorem dL_law_1196 : decode cL_law 1196 = .ok (.iload_n 3, 1) := by decide +kernel
theorem dL_law_1197 : decode cL_law 1197 = .ok (.iconst 2, 1) := by decide +kernel
theorem dL_law_1198 : decode cL_law 1198 = .ok (.iadd, 1) := by decide +kernel
theorem dL_law_1199 : decode cL_law 1199 = .ok (.iaload, 1) := by decide +kernel
theorem dL_law_1200 : decode cL_law 1200 = .ok (.invokevirtual 148, 3) := by decide +kernel
theorem dL_law_1203 : decode cL_law 1203 = .ok (.aload_n 2, 1) := by decide +kernel
theorem dL_law_1204 : decode cL_law 1204 = .ok (.aload_n 0, 1) := by decide +kernel
theorem dL_law_1205 : decode cL_law 1205 = .ok (.iload_n 3, 1) := by decide +kernel
theorem dL_law_1206 : decode cL_law 1206 = .ok (.iconst 1, 1) := by decide +kernel
theorem dL_law_1207 : decode cL_law 1207 = .ok (.iadd, 1) := by decide +kernel
theorem dL_law_1208 : decode cL_law 1208 = .ok (.iaload, 1) := by decide +kernel
theorem dL_law_1209 : decode cL_law 1209 = .ok (.aload_n 0, 1) := by decide +kernel
theorem dL_law_1210 : decode cL_law 1210 = .ok (.iload_n 3, 1) := by decide +kernel
theorem dL_law_1211 : decode cL_law 1211 = .ok (.iconst 2, 1) := by decide +kernel
theorem dL_law_1212 : decode cL_law 1212 = .ok (.iadd, 1) := by decide +kernel
theorem dL_law_1213 : decode cL_law 1213 = .ok (.iaload, 1) := by decide +kernel
theorem dL_law_1214 : decode cL_law 1214 = .ok (.invokevirtual 151, 3) := by decide +kernel
theorem dL_law_1217 : decode cL_law 1217 = .ok (.if_icmp .eq 64, 3) := by decide +kernel
theorem dL_law_1220 : decode cL_law 1220 = .ok (.iconst 0, 1) := by decide +kernel
theorem dL_law_1221 : decode cL_law 1221 = .ok (.ireturn, 1) := by decide +kernel
theorem dL_law_1222 : decode cL_law 1222 = .ok (.aload_n 1, 1) := by decide +kernel
theorem dL_law_1223 : decode cL_law 1223 = .ok (.aload_n 0, 1) := by decide +kernel
theorem dL_law_1224 : decode cL_law 1224 = .ok (.iload_n 3, 1) := by decide +kernel
theorem dL_law_1225 : decode cL_law 1225 = .ok (.iconst 1, 1) := by decide +kernel
theorem dL_law_1226 : decode cL_law 1226 = .ok (.iadd, 1) := by decide +kernel
theorem dL_law_1227 : decode cL_law 1227 = .ok (.iaload, 1) := by decide +kernel
theorem dL_law_1228 : decode cL_law 1228 = .ok (.invokevirtual 152, 3) := by decide +kernel
theorem dL_law_1231 : decode cL_law 1231 = .ok (.aload_n 2, 1) := by decide +kernel
theorem dL_law_1232 : decode cL_law 1232 = .ok (.aload_n 0, 1) := by decide +kernel
theorem dL_law_1233 : decode cL_law 1233 = .ok (.iload_n 3, 1) := by decide +kernel
theorem dL_law_1234 : decode cL_law 1234 = .ok (.iconst 1, 1) := by decide +kernel
theorem dL_law_1235 : decode cL_law 1235 = .ok (.iadd, 1) := by decide +kernel
theorem dL_law_1236 : decode cL_law 1236 = .ok (.iaload, 1) := by decide +kernel
theorem dL_law_1237 : decode cL_law 1237 = .ok (.invokevirtual 155, 3) := by decide +kernel
theorem dL_law_1240 : decode cL_law 1240 = .ok (.if_icmp .eq 41, 3) := by decide +kernel
theorem dL_law_1243 : decode cL_law 1243 = .ok (.iconst 0, 1) := by decide +kernel
theorem dL_law_1244 : decode cL_law 1244 = .ok (.ireturn, 1) := by decide +kernel
theorem dL_law_1245 : decode cL_law 1245 = .ok (.aload_n 1, 1) := by decide +kernel
theorem dL_law_1246 : decode cL_law 1246 = .ok (.aload_n 0, 1) := by decide +kernel
theorem dL_law_1247 : decode cL_law 1247 = .ok (.iload_n 3, 1) := by decide +kernel
theorem dL_law_1248 : decode cL_law 1248 = .ok (.iconst 1, 1) := by decide +kernel
theorem dL_law_1249 : decode cL_law 1249 = .ok (.iadd, 1) := by decide +kernel
theorem dL_law_1250 : decode cL_law 1250 = .ok (.iaload, 1) := by decide +kernel
theorem dL_law_1251 : decode cL_law 1251 = .ok (.invokevirtual 156, 3) := by decide +kernel
theorem dL_law_1254 : decode cL_law 1254 = .ok (.aload_n 2, 1) := by decide +kernel
theorem dL_law_1255 : decode cL_law 1255 = .ok (.aload_n 0, 1) := by decide +kernel
theorem dL_law_1256 : decode cL_law 1256 = .ok (.iload_n 3, 1) := by decide +kernel
theorem dL_law_1257 : decode cL_law 1257 = .ok (.iconst 1, 1) := by decide +kernel
theorem dL_law_1258 : decode cL_law 1258 = .ok (.iadd, 1) := by decide +kernel
theorem dL_law_1259 : decode cL_law 1259 = .ok (.iaload, 1) := by decide +kernel
theorem dL_law_1260 : decode cL_law 1260 = .ok (.invokevirtual 159, 3) := by decide +kernel
theorem dL_law_1263 : decode cL_law 1263 = .ok (.if_icmp .eq 18, 3) := by decide +kernel
theorem dL_law_1266 : decode cL_law 1266 = .ok (.iconst 0, 1) := by decide +kernel
theorem dL_law_1267 : decode cL_law 1267 = .ok (.ireturn, 1) := by decide +kernel
theorem dL_law_1268 : decode cL_law 1268 = .ok (.aload_n 1, 1) := by decide +kernel
theorem dL_law_1269 : decode cL_law 1269 = .ok (.invokevirtual 160, 3) := by decide +kernel
theorem dL_law_1272 : decode cL_law 1272 = .ok (.aload_n 2, 1) := by decide +kernel
theorem dL_law_1273 : decode cL_law 1273 = .ok (.invokevirtual 163, 3) := by decide +kernel
theorem dL_law_1276 : decode cL_law 1276 = .ok (.if_icmp .eq 5, 3) := by decide +kernel
theorem dL_law_1279 : decode cL_law 1279 = .ok (.iconst 0, 1) := by decide +kernel
theorem dL_law_1280 : decode cL_law 1280 = .ok (.ireturn, 1) := by decide +kernel
theorem dL_law_1281 : decode cL_law 1281 = .ok (.iinc 3 6, 3) := by decide +kernel
theorem dL_law_1284 : decode cL_law 1284 = .ok (.goto (-1266), 3) := by decide +kernel
theorem dL_law_1287 : decode cL_law 1287 = .ok (.iconst 1, 1) := by decide +kernel
theorem dL_law_1288 : decode cL_law 1288 = .ok (.ireturn, 1) := by decide +kernel
end
section
/-! ===== ENGINE, pure half: values, heap, steps, blocks ===== -/
abbrev pv : Type := Int32 ⊕ (Int64 ⊕ (Nat × Nat))
abbrev Lo : Type := List (Option pv)
abbrev hp : Type := (Nat → Nat → Int32) × (Nat → Nat → Nat) × (Nat → Nat → Int32) × (Nat → Nat) × (Nat → Nat → Nat) × Nat
def hfI (h : hp) : Nat → Nat → Int32 := h.1
def hfR (h : hp) : Nat → Nat → Nat := h.2.1
def haI (h : hp) : Nat → Nat → Int32 := h.2.2.1
def haL (h : hp) : Nat → Nat := h.2.2.2.1
def haR (h : hp) : Nat → Nat → Nat := h.2.2.2.2.1
def hz (h : hp) : Nat := h.2.2.2.2.2
def up2 {α : Type} (g : Nat → Nat → α) (f x : Nat) (v : α) : Nat → Nat → α := fun f' x' => if f' = f then (if x' = x then v else g f' x') else g f' x'
def wfI (h : hp) (f x : Nat) (v : Int32) : hp := (up2 h.1 f x v, h.2)
def wfR (h : hp) (f x v : Nat) : hp := (h.1, up2 h.2.1 f x v, h.2.2)
def waI (h : hp) (x : Nat) (g : Nat → Int32) : hp := (h.1, h.2.1, va_up h.2.2.1 x g, h.2.2.2)
def waR (h : hp) (x : Nat) (g : Nat → Nat) : hp := (h.1, h.2.1, h.2.2.1, h.2.2.2.1, va_up h.2.2.2.2.1 x g, h.2.2.2.2.2)
def wobj (h : hp) (x : Nat) : hp := (fun f y => if y = x then 0 else h.1 f y, fun f y => if y = x then 0 else h.2.1 f y, h.2.2.1, h.2.2.2.1, h.2.2.2.2.1, x + 1)
def warr (h : hp) (x n : Nat) : hp := (h.1, h.2.1, va_up h.2.2.1 x (fun _ => 0), va_up h.2.2.2.1 x n, va_up h.2.2.2.2.1 x (fun _ => 0), x + 1)
/-- a method: its name, bytes, locals, return type -/
abbrev MI : Type := MethodName × ByteArray × Nat × Option FieldType
abbrev Nx : Type := Nat → Lo → List pv → hp → Nat → Nat → Prop
abbrev Rt : Type := Option pv → hp → Prop
/-- what a call's contract is, told from outside (the second half of the engine says it) -/
abbrev Cl : Type := Nat → MI → Nat → Nat → List pv → hp → Rt → Prop
abbrev Step : Type := Cl → Nat → Nat → Nat → Rt → Nx → Lo → List pv → hp → Nat → Nat → Prop
def lget : Lo → Nat → Option pv
  | [], _ => none
  | o :: _, 0 => o
  | _ :: l, i + 1 => lget l i
def lkl : Option pv → Option pv
  | some (.inr (.inl _)) => none
  | o => o
def lset : Lo → Nat → pv → Lo
  | [], _, _ => []
  | _ :: l, 0, v => some v :: l
  | o :: l, i + 1, v => (match i with | 0 => lkl o | _ + 1 => o) :: lset l i v
def lset2 : Lo → Nat → pv → Lo
  | [], _, _ => []
  | [_], _, _ => []
  | _ :: _ :: l, 0, v => some v :: none :: l
  | o :: b :: l, i + 1, v => (match i with | 0 => lkl o | _ + 1 => o) :: lset2 (b :: l) i v
def largs : List pv → Nat → Lo
  | [], n => List.replicate n none
  | _ :: _, 0 => []
  | .inr (.inl v) :: t, n + 1 => (match n with | 0 => [] | k + 1 => some (.inr (.inl v)) :: none :: largs t k)
  | .inl v :: t, n + 1 => some (.inl v) :: largs t n
  | .inr (.inr v) :: t, n + 1 => some (.inr (.inr v)) :: largs t n
def sw : List pv → Nat
  | [] => 0
  | .inr (.inl _) :: t => sw t + 2
  | .inl _ :: t => sw t + 1
  | .inr (.inr _) :: t => sw t + 1
def s_no : Step := fun _ _ _ _ _ _ _ _ _ _ _ => False
-- steps; n: the next pc
def s_ic (n : Nat) (v : Int32) : Step := fun _ _ _ _ _ nx L S h cu su => nx n L (.inl v :: S) h cu su
def s_lc (n : Nat) (v : Int64) : Step := fun _ _ _ _ _ nx L S h cu su => nx n L (.inr (.inl v) :: S) h cu su
def s_null (n : Nat) : Step := fun _ _ _ _ _ nx L S h cu su => nx n L (.inr (.inr (0, 0)) :: S) h cu su
def s_ild (n i : Nat) : Step := fun _ _ _ _ _ nx L S h cu su => match lget L i with | some (.inl x) => nx n L (.inl x :: S) h cu su | _ => False
def s_lld (n i : Nat) : Step := fun _ _ _ _ _ nx L S h cu su => match lget L i with | some (.inr (.inl x)) => nx n L (.inr (.inl x) :: S) h cu su | _ => False
def s_ald (n i : Nat) : Step := fun _ _ _ _ _ nx L S h cu su => match lget L i with | some (.inr (.inr x)) => nx n L (.inr (.inr x) :: S) h cu su | _ => False
def s_ist (n i : Nat) : Step := fun _ _ _ _ _ nx L S h cu su => match S with | .inl x :: S => nx n (lset L i (.inl x)) S h cu su | _ => False
def s_lst (n i : Nat) : Step := fun _ _ _ _ _ nx L S h cu su => match S with | .inr (.inl x) :: S => nx n (lset2 L i (.inr (.inl x))) S h cu su | _ => False
def s_ast (n i : Nat) : Step := fun _ _ _ _ _ nx L S h cu su => match S with | .inr (.inr x) :: S => nx n (lset L i (.inr (.inr x))) S h cu su | _ => False
def s_inc (n i : Nat) (v : Int32) : Step := fun _ _ _ _ _ nx L S h cu su => match lget L i with | some (.inl x) => nx n (lset L i (.inl (x + v))) S h cu su | _ => False
def s_i1 (n : Nat) (f : Int32 → Int32) : Step := fun _ _ _ _ _ nx L S h cu su => match S with | .inl a :: S => nx n L (.inl (f a) :: S) h cu su | _ => False
def s_i2 (n : Nat) (f : Int32 → Int32 → Int32) : Step := fun _ _ _ _ _ nx L S h cu su => match S with | .inl b :: .inl a :: S => nx n L (.inl (f a b) :: S) h cu su | _ => False
def s_iq (n : Nat) (f : Int32 → Int32 → Int32) : Step := fun _ _ _ _ _ nx L S h cu su => match S with | .inl b :: .inl a :: S => ¬ b = 0 ∧ nx n L (.inl (f a b) :: S) h cu su | _ => False
def s_l2 (n : Nat) (f : Int64 → Int64 → Int64) : Step := fun _ _ _ _ _ nx L S h cu su => match S with | .inr (.inl b) :: .inr (.inl a) :: S => nx n L (.inr (.inl (f a b)) :: S) h cu su | _ => False
def s_lq (n : Nat) (f : Int64 → Int64 → Int64) : Step := fun _ _ _ _ _ nx L S h cu su => match S with | .inr (.inl b) :: .inr (.inl a) :: S => ¬ b = 0 ∧ nx n L (.inr (.inl (f a b)) :: S) h cu su | _ => False
def s_lcmp (n : Nat) : Step := fun _ _ _ _ _ nx L S h cu su => match S with | .inr (.inl b) :: .inr (.inl a) :: S => nx n L (.inl (lg_cmp a b) :: S) h cu su | _ => False
def s_i2l (n : Nat) : Step := fun _ _ _ _ _ nx L S h cu su => match S with | .inl a :: S => nx n L (.inr (.inl a.toInt64) :: S) h cu su | _ => False
def s_l2i (n : Nat) : Step := fun _ _ _ _ _ nx L S h cu su => match S with | .inr (.inl a) :: S => nx n L (.inl a.toInt32 :: S) h cu su | _ => False
def s_dup (n : Nat) : Step := fun _ _ _ _ _ nx L S h cu su => match S with | .inl a :: S => nx n L (.inl a :: .inl a :: S) h cu su | .inr (.inr a) :: S => nx n L (.inr (.inr a) :: .inr (.inr a) :: S) h cu su | _ => False
def s_dup2 (n : Nat) : Step := fun _ _ _ _ _ nx L S h cu su => match S with | .inl a :: .inr (.inr b) :: S => nx n L (.inl a :: .inr (.inr b) :: .inl a :: .inr (.inr b) :: S) h cu su | _ => False
def s_pop (n : Nat) : Step := fun _ _ _ _ _ nx L S h cu su => match S with | .inl _ :: S => nx n L S h cu su | .inr (.inr _) :: S => nx n L S h cu su | _ => False
def s_if (n t : Nat) (c : Int32 → Prop) : Step := fun _ _ _ _ _ nx L S h cu su => match S with | .inl a :: S => (c a → nx t L S h cu su) ∧ (¬ c a → nx n L S h cu su) | _ => False
def s_cmp (n t : Nat) (c : Int32 → Int32 → Prop) : Step := fun _ _ _ _ _ nx L S h cu su => match S with | .inl b :: .inl a :: S => (c a b → nx t L S h cu su) ∧ (¬ c a b → nx n L S h cu su) | _ => False
def s_ifn (n t : Nat) : Step := fun _ _ _ _ _ nx L S h cu su => match S with | .inr (.inr a) :: S => (a.2 = 0 → nx t L S h cu su) ∧ (¬ a.2 = 0 → nx n L S h cu su) | _ => False
def s_ifnn (n t : Nat) : Step := fun _ _ _ _ _ nx L S h cu su => match S with | .inr (.inr a) :: S => (a.2 = 0 → nx n L S h cu su) ∧ (¬ a.2 = 0 → nx t L S h cu su) | _ => False
def s_goto (t : Nat) : Step := fun _ _ _ _ _ nx L S h cu su => nx t L S h cu su
def swc (x : Int32) (k : Nat → Prop) (d : Nat) : List (Int32 × Nat) → Prop
  | [] => k d
  | (v, t) :: r => (x = v → k t) ∧ (¬ x = v → swc x k d r)
def s_sw (cs : List (Int32 × Nat)) (d : Nat) : Step := fun _ _ _ _ _ nx L S h cu su => match S with | .inl a :: S => swc a (fun t => nx t L S h cu su) d cs | _ => False
def s_ret : Step := fun _ _ _ _ kk _ _ S h _ _ => match S with | [.inl v] => kk (some (.inl v)) h | _ => False
def s_zret : Step := fun _ _ _ _ kk _ _ S h _ _ => match S with | [.inl v] => (v = 0 ∨ v = 1) ∧ kk (some (.inl v)) h | _ => False
def s_lret : Step := fun _ _ _ _ kk _ _ S h _ _ => match S with | [.inr (.inl v)] => kk (some (.inr (.inl v))) h | _ => False
def s_vret : Step := fun _ _ _ _ kk _ _ S h _ _ => match S with | [] => kk none h | _ => False
-- fields: C the kind of the object, f the field
def s_gi (n C f : Nat) : Step := fun _ _ _ _ _ nx L S h cu su => match S with | .inr (.inr (t, x)) :: S => bif Nat.beq t C then (if x = 0 then False else nx n L (.inl (hfI h f x) :: S) h cu su) else False | _ => False
def s_gr (n C f r : Nat) : Step := fun _ _ _ _ _ nx L S h cu su => match S with | .inr (.inr (t, x)) :: S => bif Nat.beq t C then (if x = 0 then False else nx n L (.inr (.inr (r, hfR h f x)) :: S) h cu su) else False | _ => False
def s_pi (n C f : Nat) : Step := fun _ _ _ _ _ nx L S h cu su => match S with | .inl v :: .inr (.inr (t, x)) :: S => bif Nat.beq t C then (if x = 0 then False else nx n L S (wfI h f x v) cu su) else False | _ => False
def s_pr (n C f r : Nat) : Step := fun _ _ _ _ _ nx L S h cu su => match S with | .inr (.inr (q, v)) :: .inr (.inr (t, x)) :: S => bif Nat.beq t C && Nat.beq q r then (if x = 0 then False else nx n L S (wfR h f x v) cu su) else False | _ => False
def s_gs (n f : Nat) : Step := fun _ _ _ _ _ nx L S h cu su => nx n L (.inr (.inr (25, hfR h f 0)) :: S) h cu su
-- arrays
def s_iald (n : Nat) : Step := fun _ _ _ _ _ nx L S h cu su => match S with | .inl i :: .inr (.inr (t, x)) :: S => bif Nat.beq t 20 || Nat.beq t 25 then (if x = 0 then False else vp_in i (haL h x) ∧ nx n L (.inl (haI h x i.toNatClampNeg) :: S) h cu su) else False | _ => False
def s_zald (n : Nat) : Step := fun _ _ _ _ _ nx L S h cu su => match S with | .inl i :: .inr (.inr (t, x)) :: S => bif Nat.beq t 21 then (if x = 0 then False else vp_in i (haL h x) ∧ nx n L (.inl (haI h x i.toNatClampNeg) :: S) h cu su) else False | _ => False
def s_iast (n : Nat) : Step := fun _ _ _ _ _ nx L S h cu su => match S with | .inl v :: .inl i :: .inr (.inr (t, x)) :: S => bif Nat.beq t 20 then (if x = 0 then False else vp_in i (haL h x) ∧ nx n L S (waI h x (upd (haI h x) i.toNatClampNeg v)) cu su) else False | _ => False
def s_zast (n : Nat) : Step := fun _ _ _ _ _ nx L S h cu su => match S with | .inl v :: .inl i :: .inr (.inr (t, x)) :: S => bif Nat.beq t 21 then (if x = 0 then False else vp_in i (haL h x) ∧ nx n L S (waI h x (upd (haI h x) i.toNatClampNeg (vp_nar .boolean v))) cu su) else False | _ => False
def s_aald (n q r : Nat) : Step := fun _ _ _ _ _ nx L S h cu su => match S with | .inl i :: .inr (.inr (t, x)) :: S => bif Nat.beq t q then (if x = 0 then False else vp_in i (haL h x) ∧ nx n L (.inr (.inr (r, haR h x i.toNatClampNeg)) :: S) h cu su) else False | _ => False
def s_aast (n q r : Nat) : Step := fun _ _ _ _ _ nx L S h cu su => match S with | .inr (.inr (u, v)) :: .inl i :: .inr (.inr (t, x)) :: S => bif Nat.beq t q && (Nat.beq u r || Nat.beq v 0) then (if x = 0 then False else vp_in i (haL h x) ∧ nx n L S (waR h x (va_up (haR h x) i.toNatClampNeg v)) cu su) else False | _ => False
def s_len (n : Nat) : Step := fun _ _ _ _ _ nx L S h cu su => match S with | .inr (.inr (t, x)) :: S => bif Nat.beq t 20 then (if x = 0 then False else nx n L (.inl (nI (haL h x)) :: S) h cu su) else False | _ => False
/-- a new array of kind t -/
def s_newa (n t : Nat) : Step := fun _ _ mc ms _ nx L S h cu su => match S with | .inl k :: S => (¬ k < 0 ∧ k ≤ 1000) ∧ (cu + 1 ≤ mc ∧ su + k.toNatClampNeg ≤ ms) ∧ ∀ x : Nat, hz h ≤ x → nx n L (.inr (.inr (t, x)) :: S) (warr h x k.toNatClampNeg) (cu + 1) (su + k.toNatClampNeg) | _ => False
def s_new (n C N : Nat) : Step := fun _ _ mc ms _ nx L S h cu su => (cu + 1 ≤ mc ∧ su + N ≤ ms) ∧ ∀ x : Nat, hz h ≤ x → nx n L (.inr (.inr (C, x)) :: S) (wobj h x) (cu + 1) (su + N)
def s_oinit (n : Nat) : Step := fun _ d _ _ _ nx L S h cu su => match S with | .inr (.inr (_, x)) :: S => bif Nat.ble (sw S) 8 then (if x = 0 then False else (match d with | 0 => False | _ + 1 => nx n L S h cu su)) else False | _ => False
def s_mm (n : Nat) (f : Int32 → Int32 → Int32) : Step := fun _ d _ _ _ nx L S h cu su => match S with | .inl b :: .inl a :: S => bif Nat.ble (sw S) 8 then (match d with | 0 => False | _ + 1 => nx n L (.inl (f a b) :: S) h cu su) else False | _ => False
def s_acopy (n : Nat) : Step := fun _ d _ _ _ nx L S h cu su => match S with
  | .inl k :: .inl j :: .inr (.inr (t2, y)) :: .inl i :: .inr (.inr (t1, x)) :: S => bif (Nat.beq t1 20 && Nat.beq t2 20) && Nat.ble (sw S) 8 then (if x = 0 then False else if y = 0 then False else (match d with | 0 => False | _ + 1 => (¬ i < 0 ∧ ¬ j < 0 ∧ ¬ k < 0 ∧ i.toNatClampNeg + k.toNatClampNeg ≤ haL h x ∧ j.toNatClampNeg + k.toNatClampNeg ≤ haL h y) ∧ nx n L S (waI h y (va_cpy (haI h x) (haI h y) i.toNatClampNeg j.toNatClampNeg k.toNatClampNeg)) cu su)) else False
  | _ => False
-- calls: k the number of arguments without the receiver
def cgo (cl : Cl) (d mc ms cu su : Nat) (y : MI) (mc' ms' : Nat) (args : List pv) (h : hp) (K : Nat → Nat → Rt) : Prop :=
  match d with
  | 0 => False
  | d' + 1 => match mc' with
    | 0 => (match ms' with | 0 => cl d' y 0 0 args h (K cu su) | _ + 1 => False)
    | c + 1 => (cu + (c + 1) ≤ mc ∧ su + ms' ≤ ms) ∧ cl d' y (c + 1) ms' args h (K (cu + (c + 1)) (su + ms'))
def s_cS (n : Nat) (y : MI) (k mc' ms' : Nat) : Step := fun cl d mc ms _ nx L S h cu su => bif Nat.ble (sw (S.drop k)) 8 && Nat.beq (S.take k).length k then
  cgo cl d mc ms cu su y mc' ms' (S.take k).reverse h (fun cu su v h' => nx n L (v.toList ++ S.drop k) h' cu su) else False
def s_cV (n : Nat) (y : MI) (C k mc' ms' : Nat) : Step := fun cl d mc ms _ nx L S h cu su => bif Nat.ble (sw (S.drop (k + 1))) 8 && Nat.beq (S.take k).length k then (match S.drop k with
  | .inr (.inr (t, x)) :: _ => bif Nat.beq t C then (if x = 0 then False else cgo cl d mc ms cu su y mc' ms' (.inr (.inr (t, x)) :: (S.take k).reverse) h (fun cu su v h' => nx n L (v.toList ++ S.drop (k + 1)) h' cu su)) else False
  | _ => False) else False
/-- the block: from pc, till a cut -/
def blk (P : Nat → Step) (cut : Nat → Bool) (Wc : Nx) (cl : Cl) (d mc ms : Nat) (kk : Rt) : Nat → Nx
  | 0 => fun _ _ _ _ _ _ => False
  | n + 1 => fun pc L S h cu su => bif cut pc then Wc pc L S h cu su else P pc cl d mc ms kk (blk P cut Wc cl d mc ms kk n) L S h cu su
theorem nz {x : Nat} {B : Prop} (h : x ≠ 0) (b : B) : (if x = 0 then False else B) := by rw [if_neg h]; exact b
end
section
/-! ===== ENGINE, the machine's half: what a heap is, what a step owes ===== -/
/-- the tables' words that stay true in every callee -/
def lw_g : List Cond := lw_tbl.filter goodWord
theorem g_in {w : Cond} (h : w ∈ lw_tbl) (hg : goodWord w = true) : w ∈ lw_g := List.mem_filter.mpr ⟨h, hg⟩
theorem g_good : GoodIn lw_g lw_g := fun w hw => ⟨hw, good_of_word (List.mem_filter.mp hw).2⟩
def nests : List (String × Nat × MethodName) := [(RX1, 40, yX6_isBelow), (RX1, 50, yX6_chalkByKind)]
def Nw5 (U : State) : Prop := va_AO RX1 U ∧ va_AO RX3 U ∧ va_AO RX5 U ∧ ∀ q ∈ nests, va_Nw (.methodLinkNest q.1 q.2.1 q.2.2 "ChalkCastle") U
theorem Nw5.warm {s U : State} (hW : s.WarmedH U.vm) (h : Nw5 s) : Nw5 U := ⟨va_AO.moved hW.alike h.1, va_AO.moved hW.alike h.2.1, va_AO.moved hW.alike h.2.2.1, fun q hq => va_Nw.warmM hW (h.2.2.2 q hq)⟩
def rv : Nat → Value
  | 0 => .null
  | a + 1 => .ref a
def dr : Nat → Option Nat
  | 0 => none
  | a + 1 => some a
theorem rf_dr (x : Nat) : va_rf (dr x) = rv x := by cases x <;> rfl
def tv : pv → Value
  | .inl i => .int i
  | .inr (.inl l) => .long l
  | .inr (.inr (_, x)) => rv x
/-- the kinds of the fields that are references, 0 for ints; by classes -/
def frT : List (List Nat) := [[20, 0, 0, 0, 0, 0], [0, 0, 0, 0, 0, 20, 20, 20, 20], [2, 20, 0, 0, 0], [0, 20], [6, 20, 20, 20, 2, 0, 0], [20, 20, 0, 0], [23, 20, 0, 0, 0, 2, 6, 24, 0, 0, 22, 24, 6, 5, 1], [0, 20, 20, 20, 0, 20, 0, 0, 0, 0, 0, 0, 20, 20, 20, 20, 20, 0, 0, 0, 0, 0, 20, 20, 20, 20, 20, 0, 0, 20, 20, 21, 20, 20, 20, 20, 20, 0, 20]]
def frt (ci k : Nat) : Nat := ((frT[ci]?.getD [])[k]?).getD 0
def nF (ci : Nat) : Nat := (frT[ci]?.getD []).length
def fval (h : hp) (x ci k : Nat) : Value := if frt ci k = 0 then .int (hfI h (100 * ci + k) x) else rv (hfR h (100 * ci + k) x)
def fls (h : hp) (x ci : Nat) : List Value := (List.range (nF ci)).map (fval h x ci)
/-- ghosts: the classes' numbers and slots, the arrays' classes, the first address that is ours -/
abbrev Gh : Type := va_G × (Nat → ClassId) × Nat
def gA (G : Gh) : Nat → Prop := fun q => G.2.2 ≤ q
def gty (G : Gh) : List (ClassId × FieldType) := [(G.2.1 0, .int), (G.2.1 1, .boolean), (G.2.1 2, .object RX1), (G.2.1 3, .object RX3), (G.2.1 4, .object RX5)]
def Fk (G : Gh) (h : hp) (a k : Nat) : va_E :=
  if k = 20 then .inl (G.2.1 0, haL h (a + 1), .inl (haI h (a + 1)))
  else if k = 21 then .inl (G.2.1 1, haL h (a + 1), .inl (haI h (a + 1)))
  else if k = 22 then .inl (G.2.1 2, haL h (a + 1), .inr (.inr (.inr (.inr (fun j => dr (haR h (a + 1) j))))))
  else if k = 23 then .inl (G.2.1 3, haL h (a + 1), .inr (.inr (.inr (.inr (fun j => dr (haR h (a + 1) j))))))
  else if k = 24 then .inl (G.2.1 4, haL h (a + 1), .inr (.inr (.inr (.inr (fun j => dr (haR h (a + 1) j))))))
  else .inr (k - 1, fls h (a + 1) (k - 1))
def Fh (G : Gh) (K : Nat → Nat) (h : hp) : Nat → va_E := fun a => Fk G h a (K a)
def okr (K : Nat → Nat) (t x : Nat) : Prop := ∀ b, x = b + 1 → K b = t ∧ t ≠ 0
def okv (K : Nat → Nat) : pv → Prop
  | .inr (.inr (t, x)) => okr K t x
  | _ => True
def Ty (K : Nat → Nat) (h : hp) : Prop := (∀ a ci k, K a = ci + 1 → frt ci k ≠ 0 → okr K (frt ci k) (hfR h (100 * ci + k) (a + 1))) ∧ (∀ a j, K a = 22 → okr K 2 (haR h (a + 1) j)) ∧ (∀ a j, K a = 23 → okr K 4 (haR h (a + 1) j)) ∧ (∀ a j, K a = 24 → okr K 6 (haR h (a + 1) j))
def Sx1 (G : Gh) (K : Nat → Nat) (h : hp) (U : State) (H : Heap) (f : Nat) (nm : String) : Prop := ∃ t : Nat, hfR h f 0 = t + 1 ∧ K t = 25 ∧ va_Z "ChalkCastle" nm "[I" (.ref t) (gA G) U H
def Sx (G : Gh) (K : Nat → Nat) (h : hp) (U : State) (H : Heap) : Prop := (∀ b, K b = 25 → va_T .int b (haL h (b + 1)) (fun j => .int (haI h (b + 1) j)) (gA G) U H) ∧ Sx1 G K h U H 9001 "IS_TOO" ∧ Sx1 G K h U H 9002 "SIZE_BODIES" ∧ Sx1 G K h U H 9003 "MARK_BODIES"
def Ext (K K' : Nat → Nat) : Prop := ∀ a, K a ≠ 0 → K' a = K a
def HB (G : Gh) (K : Nat → Nat) (Ls : List Nat) (h : hp) (U : State) (H H0 : Heap) : Prop :=
  va_K G.1 vwCl (gty G) U ∧ va_P G.1 vwCl (va_pl Ls (Fh G K h)) H ∧ va_D (gA G) (va_pl Ls (Fh G K h)) ∧ (hz h ≤ H.size + 1 ∧ G.2.2 ≤ H0.size ∧ ∀ a, K a ≠ 0 → a + 1 < hz h) ∧ (∀ a, a ∈ Ls ↔ (K a ≠ 0 ∧ K a ≠ 25)) ∧ Ty K h ∧ Sx G K h U H0 ∧ Nw5 U
def lrel (K : Nat → Nat) (ls : Array Slot) (nL : Nat) (L : Lo) : Prop := ls.size = nL ∧ lv_wf ls ∧ L.length = nL ∧ ∀ i v, lget L i = some v → ls[i]? = some (.val (tv v)) ∧ okv K v
def mws (y : MI) : List Cond := Cond.code y.1 y.2.1 y.2.2.1 y.2.2.2 :: lw_g
def rmO (d mc ms : Nat) : Room := { frames := d, cells := mc, slots := ms, locals := 64 * d }
def QcK (G : Gh) (K : Nat → Nat) (kk : Rt) : Array Value → State → Outcome → State → Prop := fun _ st oc t => (∃ (v : Option pv) (K' : Nat → Nat) (Ls' : List Nat) (h' : hp), oc = .returned (v.map tv) ∧ kk v h' ∧ HB G K' Ls' h' t t.heap t.heap ∧ (∀ w, v = some w → okv K' w) ∧ Ext K K') ∧ va_F (gA G) st t
/-- a call's contract, over the machine -/
def CL : Cl := fun d y mc ms as h kk => ∀ (l : Launch) (G : Gh) (K : Nat → Nat) (Ls : List Nat), (∀ v ∈ as, okv K v) → Met l y.1 (mws y) (rmO d mc ms) (va_Pc (as.map tv) (fun U => HB G K Ls h U U.heap U.heap)) (QcK G K kk) mc ms (gA G)
def WM (p : Program) (l : Launch) (e : Env) (R : Room) (s : State) (m : MethodId) (args : Array Value) (below : List Frame) (meth : Method) (c : Code) (G : Gh) (K0 : Nat → Nat) (nL mc ms : Nat) (Q : State → Prop) : Nx := fun pc L S h cu su =>
  cu ≤ mc → su ≤ ms → ∀ (K : Nat → Nat) (Ls : List Nat) (H : Heap) (locs : List Loc) (ls : Array Slot), HB G K Ls h s H s.heap → va_S (gA G) s.heap H locs → Ext K0 K → lrel K ls nL L → (∀ v ∈ S, okv K v) → W p l e R s m args below meth c H locs cu su Q (F0 m pc ls (S.map tv))
def retI : Option pv → Instr
  | none => .return_
  | some (.inl _) => .ireturn
  | some (.inr (.inl _)) => .lreturn
  | some (.inr (.inr _)) => .areturn
def rtOk (rt : Option FieldType) : Option pv → Prop
  | none => rt = none
  | some (.inl v) => rt = some .int ∨ (rt = some .boolean ∧ (v = 0 ∨ v = 1))
  | some (.inr (.inl _)) => rt = some .long
  | some (.inr (.inr _)) => False
def CX (p : Program) (l : Launch) (e : Env) (R : Room) (s : State) (m : MethodId) (args : Array Value) (below : List Frame) (meth : Method) (c : Code) (G : Gh) (K0 : Nat → Nat) (own : String) (cc : ByteArray) (nL : Nat) (rt : Option FieldType) (ini : Bool) (d mc ms : Nat) (kk : Rt) (Q : State → Prop) : Prop :=
  p.tables.exec = Jvm.exec ∧ c.code = cc ∧ c.maxLocals = nL ∧ s.vm.findClass own = some m.cls ∧ (∀ w ∈ lw_g, w.before args s = true) ∧ (d ≤ R.frames ∧ 64 * d ≤ R.locals ∧ mc ≤ R.cells ∧ ms ≤ R.slots) ∧ (ini = true → meth.name = "<init>") ∧
  (∀ (v : Option pv) (h : hp) (cu su : Nat), kk v h → cu ≤ mc → su ≤ ms → rtOk rt v → ∀ (K : Nat → Nat) (Ls : List Nat) (H : Heap) (locs : List Loc) (ls : Array Slot) (pc : Nat), HB G K Ls h s H s.heap → va_S (gA G) s.heap H locs → Ext K0 K → (∀ w, v = some w → okv K w) → decode cc pc = .ok (retI v, 1) → W p l e R s m args below meth c H locs cu su Q (F0 m pc ls (v.map tv).toList))
def SOK (own : String) (cc : ByteArray) (nL : Nat) (rt : Option FieldType) (ini : Bool) (pc : Nat) (st : Step) : Prop :=
  ∀ (p : Program) (l : Launch) (e : Env) (R : Room) (s : State) (m : MethodId) (args : Array Value) (below : List Frame) (meth : Method) (c : Code) (G : Gh) (K0 : Nat → Nat) (d mc ms : Nat) (kk : Rt) (Q : State → Prop), CX p l e R s m args below meth c G K0 own cc nL rt ini d mc ms kk Q →
  ∀ nx : Nx, (∀ pc L S h cu su, nx pc L S h cu su → WM p l e R s m args below meth c G K0 nL mc ms Q pc L S h cu su) → ∀ (L : Lo) (S : List pv) (h : hp) (cu su : Nat), st CL d mc ms kk nx L S h cu su → WM p l e R s m args below meth c G K0 nL mc ms Q pc L S h cu su
theorem leaf_ok {own : String} {cc : ByteArray} {nL : Nat} {rt : Option FieldType} {ini : Bool} {pc k : Nat} {st : Step} (h : SOK own cc nL rt ini k st) : SOK own cc nL rt ini pc (bif Nat.beq pc k then st else s_no) := by
  cases hb : Nat.beq pc k with
  | true =>
    have e : pc = k := Nat.eq_of_beq_eq_true hb
    subst e
    exact h
  | false =>
    intro p l e R s m args below meth c G K0 d mc ms kk Q C nx hn L S h cu su hf
    exact hf.elim
theorem node_ok {own : String} {cc : ByteArray} {nL : Nat} {rt : Option FieldType} {ini : Bool} {pc : Nat} {b : Bool} {s1 s2 : Step} (h1 : SOK own cc nL rt ini pc s1) (h2 : SOK own cc nL rt ini pc s2) : SOK own cc nL rt ini pc (bif b then s1 else s2) := by
  cases b
  · exact h2
  · exact h1
-- locals
def asc (L : Lo) (n : Nat) : List (Nat × Value) := (List.range n).filterMap (fun j => (lget L j).map (fun v => (j, tv v)))
theorem asc_mem {L : Lo} {n j : Nat} {v : pv} (hj : j < n) (h : lget L j = some v) : (j, tv v) ∈ asc L n := List.mem_filterMap.mpr ⟨j, List.mem_range.mpr hj, by rw [h]; rfl⟩
theorem lget_lt : ∀ {L : Lo} {i : Nat} {v : pv}, lget L i = some v → i < L.length
  | [], i, v, h => by simp [lget] at h
  | o :: l, 0, v, h => by simp
  | o :: l, i + 1, v, h => by
    have := lget_lt (L := l) (i := i) (v := v) h
    simp only [List.length_cons]; omega
theorem lrel_asc {K : Nat → Nat} {ls : Array Slot} {nL : Nat} {L : Lo} (h : lrel K ls nL L) : lv_has ls nL (asc L nL) := by
  obtain ⟨h1, h2, h3, h4⟩ := h
  refine ⟨h1, h2, fun q hq => ?_⟩
  obtain ⟨j, hj, hv⟩ := List.mem_filterMap.mp hq
  cases hl : lget L j with
  | none => rw [hl] at hv; cases hv
  | some v =>
    rw [hl] at hv
    cases hv
    exact (h4 j v hl).1
theorem lset_len : ∀ (L : Lo) (i : Nat) (v : pv), (lset L i v).length = L.length
  | [], _, _ => rfl
  | _ :: _, 0, _ => rfl
  | o :: l, i + 1, v => by
    show ((match i with | 0 => lkl o | _ + 1 => o) :: lset l i v).length = _
    rw [List.length_cons, lset_len l i v, List.length_cons]
theorem lset_get : ∀ (L : Lo) (i : Nat) (v : pv) (j : Nat) (w : pv), lget (lset L i v) j = some w → (j = i ∧ w = v) ∨ (j ≠ i ∧ lget L j = some w ∧ ¬ (j + 1 = i ∧ (tv w).category = 2))
  | [], _, _, _, _, h => by simp [lset, lget] at h
  | o :: l, 0, v, j, w, h => by
    cases j with
    | zero => left; exact ⟨rfl, (Option.some.inj h).symm⟩
    | succ j => right; exact ⟨by omega, h, by omega⟩
  | o :: l, i + 1, v, j, w, h => by
    cases j with
    | zero =>
      right
      cases i with
      | zero =>
        have h' : lkl o = some w := h
        refine ⟨by omega, ?_, ?_⟩
        · show o = some w
          cases o with
          | none => cases h'
          | some q =>
            rcases q with q | q | q
            · exact h'
            · cases h'
            · exact h'
        · rintro ⟨-, hc⟩
          cases o with
          | none => cases h'
          | some q =>
            rcases q with q | q | q
            · have e : some (Sum.inl q) = some w := h'
              cases e
              simp [tv, Value.category] at hc
            · cases h'
            · have e : some (Sum.inr (Sum.inr q)) = some w := h'
              cases e
              obtain ⟨t, x⟩ := q
              cases x <;> simp [tv, rv, Value.category] at hc
      | succ i => exact ⟨by omega, h, by omega⟩
    | succ j =>
      have h' : lget (lset l i v) j = some w := h
      rcases lset_get l i v j w h' with ⟨e1, e2⟩ | ⟨e1, e2, e3⟩
      · left; exact ⟨by omega, e2⟩
      · right; exact ⟨by omega, e2, fun q => e3 ⟨by omega, q.2⟩⟩
theorem lset2_get : ∀ (L : Lo) (i : Nat) (v : pv) (j : Nat) (w : pv), lget (lset2 L i v) j = some w → (j = i ∧ w = v) ∨ (j ≠ i ∧ j ≠ i + 1 ∧ lget L j = some w ∧ ¬ (j + 1 = i ∧ (tv w).category = 2))
  | [], _, _, _, _, h => by simp [lset2, lget] at h
  | [_], 0, _, _, _, h => by simp [lset2, lget] at h
  | [_], _ + 1, _, _, _, h => by simp [lset2, lget] at h
  | o :: b :: l, 0, v, j, w, h => by
    match j, h with
    | 0, h => left; exact ⟨rfl, (Option.some.inj h).symm⟩
    | 1, h => cases h
    | j + 2, h => right; exact ⟨by omega, by omega, h, by omega⟩
  | o :: b :: l, i + 1, v, j, w, h => by
    cases j with
    | zero =>
      right
      cases i with
      | zero =>
        have h' : lkl o = some w := h
        refine ⟨by omega, by omega, ?_, ?_⟩
        · show o = some w
          cases o with
          | none => cases h'
          | some q =>
            rcases q with q | q | q
            · exact h'
            · cases h'
            · exact h'
        · rintro ⟨-, hc⟩
          cases o with
          | none => cases h'
          | some q =>
            rcases q with q | q | q
            · have e : some (Sum.inl q) = some w := h'
              cases e
              simp [tv, Value.category] at hc
            · cases h'
            · have e : some (Sum.inr (Sum.inr q)) = some w := h'
              cases e
              obtain ⟨t, x⟩ := q
              cases x <;> simp [tv, rv, Value.category] at hc
      | succ i => exact ⟨by omega, by omega, h, by omega⟩
    | succ j =>
      have h' : lget (lset2 (b :: l) i v) j = some w := h
      rcases lset2_get (b :: l) i v j w h' with ⟨e1, e2⟩ | ⟨e1, e2, e3, e4⟩
      · left; exact ⟨by omega, e2⟩
      · right; exact ⟨by omega, by omega, e3, fun q => e4 ⟨by omega, q.2⟩⟩
theorem lset2_len : ∀ (L : Lo) (i : Nat) (v : pv), i + 1 < L.length → (lset2 L i v).length = L.length
  | [], _, _, h => by simp at h
  | [_], _, _, h => by simp at h
  | _ :: _ :: _, 0, _, _ => rfl
  | o :: b :: l, i + 1, v, h => by
    show (lset2 (b :: l) i v).length + 1 = (b :: l).length + 1
    rw [lset2_len (b :: l) i v (by simp only [List.length_cons] at h ⊢; omega)]
theorem lrel_set {K : Nat → Nat} {ls ls' : Array Slot} {nL : Nat} {L : Lo} {i : Nat} {v : pv} (h : lrel K ls nL L) (hv : okv K v) (hl : lv_has ls' nL ((i, tv v) :: (asc L nL).filter (fun q => !(q.1 == i) && !(q.1 + 1 == i && q.2.category == 2)))) : lrel K ls' nL (lset L i v) := by
  obtain ⟨h1, h2, h3, h4⟩ := h
  refine ⟨hl.1, hl.2.1, by rw [lset_len]; exact h3, fun j w hj => ?_⟩
  rcases lset_get L i v j w hj with ⟨rfl, rfl⟩ | ⟨e1, e2, e3⟩
  · exact ⟨hl.2.2 _ List.mem_cons_self, hv⟩
  · refine ⟨hl.2.2 (j, tv w) (List.mem_cons_of_mem _ (List.mem_filter.mpr ⟨asc_mem (by rw [← h3]; exact lget_lt e2) e2, ?_⟩)), (h4 j w e2).2⟩
    simp only [Bool.and_eq_true, Bool.not_eq_true', beq_eq_false_iff_ne, ne_eq, Bool.and_eq_false_iff]
    refine ⟨e1, ?_⟩
    by_cases q : j + 1 = i
    · right; exact fun z => e3 ⟨q, z⟩
    · left; exact q
theorem lrel_set2 {K : Nat → Nat} {ls ls' : Array Slot} {nL : Nat} {L : Lo} {i : Nat} {v : pv} (h : lrel K ls nL L) (hi : i + 1 < nL) (hv : okv K v) (hl : lv_has ls' nL ((i, tv v) :: (asc L nL).filter (fun q => !(q.1 == i) && (!(q.1 == i + 1) && !(q.1 + 1 == i && q.2.category == 2))))) : lrel K ls' nL (lset2 L i v) := by
  obtain ⟨h1, h2, h3, h4⟩ := h
  refine ⟨hl.1, hl.2.1, by rw [lset2_len _ _ _ (by omega)]; exact h3, fun j w hj => ?_⟩
  rcases lset2_get L i v j w hj with ⟨rfl, rfl⟩ | ⟨e1, e1', e2, e3⟩
  · exact ⟨hl.2.2 _ List.mem_cons_self, hv⟩
  · refine ⟨hl.2.2 (j, tv w) (List.mem_cons_of_mem _ (List.mem_filter.mpr ⟨asc_mem (by rw [← h3]; exact lget_lt e2) e2, ?_⟩)), (h4 j w e2).2⟩
    simp only [Bool.and_eq_true, Bool.not_eq_true', beq_eq_false_iff_ne, ne_eq, Bool.and_eq_false_iff]
    refine ⟨e1, e1', ?_⟩
    by_cases q : j + 1 = i
    · right; exact fun z => e3 ⟨q, z⟩
    · left; exact q
theorem lrel_ext {K K' : Nat → Nat} {ls : Array Slot} {nL : Nat} {L : Lo} (hK : ∀ v, okv K v → okv K' v) (h : lrel K ls nL L) : lrel K' ls nL L := ⟨h.1, h.2.1, h.2.2.1, fun i v hi => ⟨(h.2.2.2 i v hi).1, hK v (h.2.2.2 i v hi).2⟩⟩
theorem okr_ext {K K' : Nat → Nat} {t x : Nat} (hE : Ext K K') (h : okr K t x) : okr K' t x := fun b hb => ⟨by rw [hE b (by rw [(h b hb).1]; exact (h b hb).2)]; exact (h b hb).1, (h b hb).2⟩
theorem okv_ext {K K' : Nat → Nat} {v : pv} (hE : Ext K K') (h : okv K v) : okv K' v := by
  rcases v with v | v | ⟨t, x⟩
  · trivial
  · trivial
  · exact okr_ext hE h
theorem Ext.rf (K : Nat → Nat) : Ext K K := fun _ _ => rfl
theorem Ext.tr {K K' K'' : Nat → Nat} (h : Ext K K') (h' : Ext K' K'') : Ext K K'' := fun a ha => by rw [h' a (by rw [h a ha]; exact ha)]; exact h a ha
end
section
/-! ===== ENGINE: the steps that touch no heap ===== -/
theorem tv_cat1 {v : pv} (h : ∀ l, v ≠ .inr (.inl l)) : (tv v).category = 1 := by
  rcases v with v | v | ⟨t, x⟩
  · rfl
  · exact absurd rfl (h v)
  · cases x <;> rfl
section K1
variable {own : String} {cc : ByteArray} {nL : Nat} {rt : Option FieldType} {ini : Bool} {pc : Nat}
theorem k_iconst {n : Int} {v : Int32} (hd : decode cc pc = .ok (.iconst n, 1)) (hv : Int32.ofInt n = v) : SOK own cc nL rt ini pc (s_ic (pc + 1) v) := by
  intro p l e R s m args below meth c G K0 d mc ms kk Q C nx hn L S h cu su st h1 h2 K Ls H locs ls hB hS hE hl hs
  exact lv_iconst C.1 C.2.1 hd hv (hn _ _ _ _ _ _ st h1 h2 K Ls H locs ls hB hS hE hl (List.forall_mem_cons.mpr ⟨trivial, hs⟩))
theorem k_bipush {n : Int} {v : Int32} (hd : decode cc pc = .ok (.bipush n, 2)) (hv : (Int8.ofInt n).toInt32 = v) : SOK own cc nL rt ini pc (s_ic (pc + 2) v) := by
  intro p l e R s m args below meth c G K0 d mc ms kk Q C nx hn L S h cu su st h1 h2 K Ls H locs ls hB hS hE hl hs
  exact lv_bipush C.1 C.2.1 hd hv (hn _ _ _ _ _ _ st h1 h2 K Ls H locs ls hB hS hE hl (List.forall_mem_cons.mpr ⟨trivial, hs⟩))
theorem k_sipush {n : Int} {v : Int32} (hd : decode cc pc = .ok (.sipush n, 3)) (hv : (Int16.ofInt n).toInt32 = v) : SOK own cc nL rt ini pc (s_ic (pc + 3) v) := by
  intro p l e R s m args below meth c G K0 d mc ms kk Q C nx hn L S h cu su st h1 h2 K Ls H locs ls hB hS hE hl hs
  exact lv_sipush C.1 C.2.1 hd hv (hn _ _ _ _ _ _ st h1 h2 K Ls H locs ls hB hS hE hl (List.forall_mem_cons.mpr ⟨trivial, hs⟩))
theorem k_ldc {x : Nat} {v : Int32} (hd : decode cc pc = .ok (.ldc x, 2)) (hw : Cond.constant own x v ∈ lw_g) : SOK own cc nL rt ini pc (s_ic (pc + 2) v) := by
  intro p l e R s m args below meth c G K0 d mc ms kk Q C nx hn L S h cu su st h1 h2 K Ls H locs ls hB hS hE hl hs
  exact lv_ldc C.1 C.2.1 C.2.2.2.1 (C.2.2.2.2.1 _ hw) hd (hn _ _ _ _ _ _ st h1 h2 K Ls H locs ls hB hS hE hl (List.forall_mem_cons.mpr ⟨trivial, hs⟩))
theorem k_ldc_w {x : Nat} {v : Int32} (hd : decode cc pc = .ok (.ldc_w x, 3)) (hw : Cond.constant own x v ∈ lw_g) : SOK own cc nL rt ini pc (s_ic (pc + 3) v) := by
  intro p l e R s m args below meth c G K0 d mc ms kk Q C nx hn L S h cu su st h1 h2 K Ls H locs ls hB hS hE hl hs
  exact lv_ldcw C.1 C.2.1 C.2.2.2.1 (C.2.2.2.2.1 _ hw) hd (hn _ _ _ _ _ _ st h1 h2 K Ls H locs ls hB hS hE hl (List.forall_mem_cons.mpr ⟨trivial, hs⟩))
theorem k_lconst {n : Fin 2} {v : Int64} (hd : decode cc pc = .ok (.lconst n, 1)) (hv : Int64.ofNat (n : Nat) = v) : SOK own cc nL rt ini pc (s_lc (pc + 1) v) := by
  intro p l e R s m args below meth c G K0 d mc ms kk Q C nx hn L S h cu su st h1 h2 K Ls H locs ls hB hS hE hl hs
  exact lv_lconst C.1 C.2.1 hd hv (hn _ _ _ _ _ _ st h1 h2 K Ls H locs ls hB hS hE hl (List.forall_mem_cons.mpr ⟨trivial, hs⟩))
theorem k_ldc2 {x : Nat} {v : Int64} (hd : decode cc pc = .ok (.ldc2_w x, 3)) (hw : Cond.constantLong own x v ∈ lw_g) : SOK own cc nL rt ini pc (s_lc (pc + 3) v) := by
  intro p l e R s m args below meth c G K0 d mc ms kk Q C nx hn L S h cu su st h1 h2 K Ls H locs ls hB hS hE hl hs
  exact lv_ldc2 C.1 C.2.1 C.2.2.2.1 (C.2.2.2.2.1 _ hw) hd (hn _ _ _ _ _ _ st h1 h2 K Ls H locs ls hB hS hE hl (List.forall_mem_cons.mpr ⟨trivial, hs⟩))
theorem k_null (hd : decode cc pc = .ok (.aconst_null, 1)) : SOK own cc nL rt ini pc (s_null (pc + 1)) := by
  intro p l e R s m args below meth c G K0 d mc ms kk Q C nx hn L S h cu su st h1 h2 K Ls H locs ls hB hS hE hl hs
  exact lv_null C.1 C.2.1 hd (hn _ _ _ _ _ _ st h1 h2 K Ls H locs ls hB hS hE hl (List.forall_mem_cons.mpr ⟨fun b hb => by omega, hs⟩))
-- loads
theorem k_iload_n {k : Fin 4} {i : Nat} (hd : decode cc pc = .ok (.iload_n k, 1)) (hi : (k : Nat) = i) : SOK own cc nL rt ini pc (s_ild (pc + 1) i) := by
  intro p l e R s m args below meth c G K0 d mc ms kk Q C nx hn L S h cu su st h1 h2 K Ls H locs ls hB hS hE hl hs
  unfold s_ild at st
  split at st
  · next x hx => exact lv_iload_n C.1 C.2.1 hd hi (hl.2.2.2 i _ hx).1 (hn _ _ _ _ _ _ st h1 h2 K Ls H locs ls hB hS hE hl (List.forall_mem_cons.mpr ⟨trivial, hs⟩))
  · exact st.elim
theorem k_iload {i : Nat} (hd : decode cc pc = .ok (.iload i, 2)) : SOK own cc nL rt ini pc (s_ild (pc + 2) i) := by
  intro p l e R s m args below meth c G K0 d mc ms kk Q C nx hn L S h cu su st h1 h2 K Ls H locs ls hB hS hE hl hs
  unfold s_ild at st
  split at st
  · next x hx => exact lv_iload C.1 C.2.1 hd (hl.2.2.2 i _ hx).1 (hn _ _ _ _ _ _ st h1 h2 K Ls H locs ls hB hS hE hl (List.forall_mem_cons.mpr ⟨trivial, hs⟩))
  · exact st.elim
theorem k_lload_n {k : Fin 4} {i : Nat} (hd : decode cc pc = .ok (.lload_n k, 1)) (hi : (k : Nat) = i) : SOK own cc nL rt ini pc (s_lld (pc + 1) i) := by
  intro p l e R s m args below meth c G K0 d mc ms kk Q C nx hn L S h cu su st h1 h2 K Ls H locs ls hB hS hE hl hs
  unfold s_lld at st
  split at st
  · next x hx => exact lv_lload_n C.1 C.2.1 hd hi (hl.2.2.2 i _ hx).1 (hn _ _ _ _ _ _ st h1 h2 K Ls H locs ls hB hS hE hl (List.forall_mem_cons.mpr ⟨trivial, hs⟩))
  · exact st.elim
theorem k_lload {i : Nat} (hd : decode cc pc = .ok (.lload i, 2)) : SOK own cc nL rt ini pc (s_lld (pc + 2) i) := by
  intro p l e R s m args below meth c G K0 d mc ms kk Q C nx hn L S h cu su st h1 h2 K Ls H locs ls hB hS hE hl hs
  unfold s_lld at st
  split at st
  · next x hx => exact lv_lload C.1 C.2.1 hd (hl.2.2.2 i _ hx).1 (hn _ _ _ _ _ _ st h1 h2 K Ls H locs ls hB hS hE hl (List.forall_mem_cons.mpr ⟨trivial, hs⟩))
  · exact st.elim
theorem k_aload_n {k : Fin 4} {i : Nat} (hd : decode cc pc = .ok (.aload_n k, 1)) (hi : (k : Nat) = i) : SOK own cc nL rt ini pc (s_ald (pc + 1) i) := by
  intro p l e R s m args below meth c G K0 d mc ms kk Q C nx hn L S h cu su st h1 h2 K Ls H locs ls hB hS hE hl hs
  unfold s_ald at st
  split at st
  · next x hx =>
    obtain ⟨g1, g2⟩ := hl.2.2.2 i _ hx
    have k := hn _ _ _ _ _ _ st h1 h2 K Ls H locs ls hB hS hE hl (List.forall_mem_cons.mpr ⟨g2, hs⟩)
    obtain ⟨t, x⟩ := x
    cases x with
    | zero => exact lv_aload_nN C.1 C.2.1 hd hi g1 k
    | succ x => exact lv_aload_n C.1 C.2.1 hd hi g1 k
  · exact st.elim
theorem k_aload {i : Nat} (hd : decode cc pc = .ok (.aload i, 2)) : SOK own cc nL rt ini pc (s_ald (pc + 2) i) := by
  intro p l e R s m args below meth c G K0 d mc ms kk Q C nx hn L S h cu su st h1 h2 K Ls H locs ls hB hS hE hl hs
  unfold s_ald at st
  split at st
  · next x hx =>
    obtain ⟨g1, g2⟩ := hl.2.2.2 i _ hx
    have k := hn _ _ _ _ _ _ st h1 h2 K Ls H locs ls hB hS hE hl (List.forall_mem_cons.mpr ⟨g2, hs⟩)
    obtain ⟨t, x⟩ := x
    cases x with
    | zero => exact lv_aloadN C.1 C.2.1 hd g1 k
    | succ x => exact lv_aload C.1 C.2.1 hd g1 k
  · exact st.elim
-- stores
theorem k_istore_n {k : Fin 4} {i : Nat} (hd : decode cc pc = .ok (.istore_n k, 1)) (hi : (k : Nat) = i) (hL : i < nL) : SOK own cc nL rt ini pc (s_ist (pc + 1) i) := by
  intro p l e R s m args below meth c G K0 d mc ms kk Q C nx hn L S h cu su st h1 h2 K Ls H locs ls hB hS hE hl hs
  unfold s_ist at st
  split at st
  · next x S' => exact lv_istore_n C.1 C.2.1 hd hi (lrel_asc hl) hL rfl (fun ls' hl' => hn _ _ _ _ _ _ st h1 h2 K Ls H locs ls' hB hS hE (lrel_set (v := .inl x) hl trivial hl') (List.forall_mem_cons.mp hs).2)
  · exact st.elim
theorem k_istore {i : Nat} (hd : decode cc pc = .ok (.istore i, 2)) (hL : i < nL) : SOK own cc nL rt ini pc (s_ist (pc + 2) i) := by
  intro p l e R s m args below meth c G K0 d mc ms kk Q C nx hn L S h cu su st h1 h2 K Ls H locs ls hB hS hE hl hs
  unfold s_ist at st
  split at st
  · next x S' => exact lv_istore C.1 C.2.1 hd (lrel_asc hl) hL rfl (fun ls' hl' => hn _ _ _ _ _ _ st h1 h2 K Ls H locs ls' hB hS hE (lrel_set (v := .inl x) hl trivial hl') (List.forall_mem_cons.mp hs).2)
  · exact st.elim
theorem k_lstore_n {k : Fin 4} {i : Nat} (hd : decode cc pc = .ok (.lstore_n k, 1)) (hi : (k : Nat) = i) (hL : i + 1 < nL) : SOK own cc nL rt ini pc (s_lst (pc + 1) i) := by
  intro p l e R s m args below meth c G K0 d mc ms kk Q C nx hn L S h cu su st h1 h2 K Ls H locs ls hB hS hE hl hs
  unfold s_lst at st
  split at st
  · next x S' => exact lv_lstore_n C.1 C.2.1 hd hi (lrel_asc hl) hL rfl (fun ls' hl' => hn _ _ _ _ _ _ st h1 h2 K Ls H locs ls' hB hS hE (lrel_set2 (v := .inr (.inl x)) hl hL trivial hl') (List.forall_mem_cons.mp hs).2)
  · exact st.elim
theorem k_lstore {i : Nat} (hd : decode cc pc = .ok (.lstore i, 2)) (hL : i + 1 < nL) : SOK own cc nL rt ini pc (s_lst (pc + 2) i) := by
  intro p l e R s m args below meth c G K0 d mc ms kk Q C nx hn L S h cu su st h1 h2 K Ls H locs ls hB hS hE hl hs
  unfold s_lst at st
  split at st
  · next x S' => exact lv_lstore C.1 C.2.1 hd (lrel_asc hl) hL rfl (fun ls' hl' => hn _ _ _ _ _ _ st h1 h2 K Ls H locs ls' hB hS hE (lrel_set2 (v := .inr (.inl x)) hl hL trivial hl') (List.forall_mem_cons.mp hs).2)
  · exact st.elim
theorem k_astore_n {k : Fin 4} {i : Nat} (hd : decode cc pc = .ok (.astore_n k, 1)) (hi : (k : Nat) = i) (hL : i < nL) : SOK own cc nL rt ini pc (s_ast (pc + 1) i) := by
  intro p l e R s m args below meth c G K0 d mc ms kk Q C nx hn L S h cu su st h1 h2 K Ls H locs ls hB hS hE hl hs
  unfold s_ast at st
  split at st
  · next x S' =>
    obtain ⟨hx, hs2⟩ := List.forall_mem_cons.mp hs
    obtain ⟨t, x⟩ := x
    cases x with
    | zero => exact lv_astore_nN C.1 C.2.1 hd hi (lrel_asc hl) hL rfl (fun ls' hl' => hn _ _ _ _ _ _ st h1 h2 K Ls H locs ls' hB hS hE (lrel_set (v := .inr (.inr (t, 0))) hl hx hl') hs2)
    | succ x => exact lv_astore_n C.1 C.2.1 hd hi (lrel_asc hl) hL rfl (fun ls' hl' => hn _ _ _ _ _ _ st h1 h2 K Ls H locs ls' hB hS hE (lrel_set (v := .inr (.inr (t, x + 1))) hl hx hl') hs2)
  · exact st.elim
theorem k_astore {i : Nat} (hd : decode cc pc = .ok (.astore i, 2)) (hL : i < nL) : SOK own cc nL rt ini pc (s_ast (pc + 2) i) := by
  intro p l e R s m args below meth c G K0 d mc ms kk Q C nx hn L S h cu su st h1 h2 K Ls H locs ls hB hS hE hl hs
  unfold s_ast at st
  split at st
  · next x S' =>
    obtain ⟨hx, hs2⟩ := List.forall_mem_cons.mp hs
    obtain ⟨t, x⟩ := x
    cases x with
    | zero => exact lv_astoreN C.1 C.2.1 hd (lrel_asc hl) hL rfl (fun ls' hl' => hn _ _ _ _ _ _ st h1 h2 K Ls H locs ls' hB hS hE (lrel_set (v := .inr (.inr (t, 0))) hl hx hl') hs2)
    | succ x => exact lv_astore C.1 C.2.1 hd (lrel_asc hl) hL rfl (fun ls' hl' => hn _ _ _ _ _ _ st h1 h2 K Ls H locs ls' hB hS hE (lrel_set (v := .inr (.inr (t, x + 1))) hl hx hl') hs2)
  · exact st.elim
theorem k_iinc {i : Nat} {n : Int} {v : Int32} (hd : decode cc pc = .ok (.iinc i n, 3)) (hv : Int32.ofInt n = v) (hL : i < nL) : SOK own cc nL rt ini pc (s_inc (pc + 3) i v) := by
  intro p l e R s m args below meth c G K0 d mc ms kk Q C nx hn L S h cu su st h1 h2 K Ls H locs ls hB hS hE hl hs
  unfold s_inc at st
  split at st
  · next x hx =>
    subst hv
    obtain ⟨k, hk⟩ := List.getElem?_of_mem (asc_mem hL hx)
    exact lv_iinc C.1 C.2.1 hd (lrel_asc hl) hk rfl hL rfl (fun ls' hl' => hn _ _ _ _ _ _ st h1 h2 K Ls H locs ls' hB hS hE (lrel_set (v := .inl (x + Int32.ofInt n)) hl trivial hl') hs)
  · exact st.elim
theorem k_iadd (hd : decode cc pc = .ok (.iadd, 1)) : SOK own cc nL rt ini pc (s_i2 (pc + 1) (fun a b => a + b)) := by
  intro p l e R s m args below meth c G K0 d mc ms kk Q C nx hn L S h cu su st h1 h2 K Ls H locs ls hB hS hE hl hs
  unfold s_i2 at st
  split at st
  · exact lv_iadd C.1 C.2.1 hd (hn _ _ _ _ _ _ st h1 h2 K Ls H locs ls hB hS hE hl (List.forall_mem_cons.mpr ⟨trivial, (List.forall_mem_cons.mp (List.forall_mem_cons.mp hs).2).2⟩))
  · exact st.elim
theorem k_isub (hd : decode cc pc = .ok (.isub, 1)) : SOK own cc nL rt ini pc (s_i2 (pc + 1) (fun a b => a - b)) := by
  intro p l e R s m args below meth c G K0 d mc ms kk Q C nx hn L S h cu su st h1 h2 K Ls H locs ls hB hS hE hl hs
  unfold s_i2 at st
  split at st
  · exact lv_isub C.1 C.2.1 hd (hn _ _ _ _ _ _ st h1 h2 K Ls H locs ls hB hS hE hl (List.forall_mem_cons.mpr ⟨trivial, (List.forall_mem_cons.mp (List.forall_mem_cons.mp hs).2).2⟩))
  · exact st.elim
theorem k_imul (hd : decode cc pc = .ok (.imul, 1)) : SOK own cc nL rt ini pc (s_i2 (pc + 1) (fun a b => a * b)) := by
  intro p l e R s m args below meth c G K0 d mc ms kk Q C nx hn L S h cu su st h1 h2 K Ls H locs ls hB hS hE hl hs
  unfold s_i2 at st
  split at st
  · exact lv_imul C.1 C.2.1 hd (hn _ _ _ _ _ _ st h1 h2 K Ls H locs ls hB hS hE hl (List.forall_mem_cons.mpr ⟨trivial, (List.forall_mem_cons.mp (List.forall_mem_cons.mp hs).2).2⟩))
  · exact st.elim
theorem k_iand (hd : decode cc pc = .ok (.iand, 1)) : SOK own cc nL rt ini pc (s_i2 (pc + 1) (fun a b => a &&& b)) := by
  intro p l e R s m args below meth c G K0 d mc ms kk Q C nx hn L S h cu su st h1 h2 K Ls H locs ls hB hS hE hl hs
  unfold s_i2 at st
  split at st
  · exact lv_iand C.1 C.2.1 hd (hn _ _ _ _ _ _ st h1 h2 K Ls H locs ls hB hS hE hl (List.forall_mem_cons.mpr ⟨trivial, (List.forall_mem_cons.mp (List.forall_mem_cons.mp hs).2).2⟩))
  · exact st.elim
theorem k_ior (hd : decode cc pc = .ok (.ior, 1)) : SOK own cc nL rt ini pc (s_i2 (pc + 1) (fun a b => a ||| b)) := by
  intro p l e R s m args below meth c G K0 d mc ms kk Q C nx hn L S h cu su st h1 h2 K Ls H locs ls hB hS hE hl hs
  unfold s_i2 at st
  split at st
  · exact lv_ior C.1 C.2.1 hd (hn _ _ _ _ _ _ st h1 h2 K Ls H locs ls hB hS hE hl (List.forall_mem_cons.mpr ⟨trivial, (List.forall_mem_cons.mp (List.forall_mem_cons.mp hs).2).2⟩))
  · exact st.elim
theorem k_ixor (hd : decode cc pc = .ok (.ixor, 1)) : SOK own cc nL rt ini pc (s_i2 (pc + 1) (fun a b => a ^^^ b)) := by
  intro p l e R s m args below meth c G K0 d mc ms kk Q C nx hn L S h cu su st h1 h2 K Ls H locs ls hB hS hE hl hs
  unfold s_i2 at st
  split at st
  · exact lv_ixor C.1 C.2.1 hd (hn _ _ _ _ _ _ st h1 h2 K Ls H locs ls hB hS hE hl (List.forall_mem_cons.mpr ⟨trivial, (List.forall_mem_cons.mp (List.forall_mem_cons.mp hs).2).2⟩))
  · exact st.elim
theorem k_ishl (hd : decode cc pc = .ok (.ishl, 1)) : SOK own cc nL rt ini pc (s_i2 (pc + 1) (fun a b => a <<< (b &&& 31))) := by
  intro p l e R s m args below meth c G K0 d mc ms kk Q C nx hn L S h cu su st h1 h2 K Ls H locs ls hB hS hE hl hs
  unfold s_i2 at st
  split at st
  · exact lv_ishl C.1 C.2.1 hd (hn _ _ _ _ _ _ st h1 h2 K Ls H locs ls hB hS hE hl (List.forall_mem_cons.mpr ⟨trivial, (List.forall_mem_cons.mp (List.forall_mem_cons.mp hs).2).2⟩))
  · exact st.elim
theorem k_ishr (hd : decode cc pc = .ok (.ishr, 1)) : SOK own cc nL rt ini pc (s_i2 (pc + 1) (fun a b => a >>> (b &&& 31))) := by
  intro p l e R s m args below meth c G K0 d mc ms kk Q C nx hn L S h cu su st h1 h2 K Ls H locs ls hB hS hE hl hs
  unfold s_i2 at st
  split at st
  · exact lv_ishr C.1 C.2.1 hd (hn _ _ _ _ _ _ st h1 h2 K Ls H locs ls hB hS hE hl (List.forall_mem_cons.mpr ⟨trivial, (List.forall_mem_cons.mp (List.forall_mem_cons.mp hs).2).2⟩))
  · exact st.elim
theorem k_iushr (hd : decode cc pc = .ok (.iushr, 1)) : SOK own cc nL rt ini pc (s_i2 (pc + 1) (fun a b => (a.toUInt32 >>> (b.toUInt32 &&& Int32.toUInt32 31)).toInt32)) := by
  intro p l e R s m args below meth c G K0 d mc ms kk Q C nx hn L S h cu su st h1 h2 K Ls H locs ls hB hS hE hl hs
  unfold s_i2 at st
  split at st
  · exact lv_iushr C.1 C.2.1 hd rfl (hn _ _ _ _ _ _ st h1 h2 K Ls H locs ls hB hS hE hl (List.forall_mem_cons.mpr ⟨trivial, (List.forall_mem_cons.mp (List.forall_mem_cons.mp hs).2).2⟩))
  · exact st.elim
theorem k_idiv (hd : decode cc pc = .ok (.idiv, 1)) : SOK own cc nL rt ini pc (s_iq (pc + 1) (fun a b => a / b)) := by
  intro p l e R s m args below meth c G K0 d mc ms kk Q C nx hn L S h cu su st h1 h2 K Ls H locs ls hB hS hE hl hs
  unfold s_iq at st
  split at st
  · exact lv_idiv C.1 C.2.1 hd st.1 (hn _ _ _ _ _ _ st.2 h1 h2 K Ls H locs ls hB hS hE hl (List.forall_mem_cons.mpr ⟨trivial, (List.forall_mem_cons.mp (List.forall_mem_cons.mp hs).2).2⟩))
  · exact st.elim
theorem k_irem (hd : decode cc pc = .ok (.irem, 1)) : SOK own cc nL rt ini pc (s_iq (pc + 1) (fun a b => a - a / b * b)) := by
  intro p l e R s m args below meth c G K0 d mc ms kk Q C nx hn L S h cu su st h1 h2 K Ls H locs ls hB hS hE hl hs
  unfold s_iq at st
  split at st
  · exact lv_irem C.1 C.2.1 hd st.1 (hn _ _ _ _ _ _ st.2 h1 h2 K Ls H locs ls hB hS hE hl (List.forall_mem_cons.mpr ⟨trivial, (List.forall_mem_cons.mp (List.forall_mem_cons.mp hs).2).2⟩))
  · exact st.elim
theorem k_ladd (hd : decode cc pc = .ok (.ladd, 1)) : SOK own cc nL rt ini pc (s_l2 (pc + 1) (fun a b => a + b)) := by
  intro p l e R s m args below meth c G K0 d mc ms kk Q C nx hn L S h cu su st h1 h2 K Ls H locs ls hB hS hE hl hs
  unfold s_l2 at st
  split at st
  · exact lv_ladd C.1 C.2.1 hd (hn _ _ _ _ _ _ st h1 h2 K Ls H locs ls hB hS hE hl (List.forall_mem_cons.mpr ⟨trivial, (List.forall_mem_cons.mp (List.forall_mem_cons.mp hs).2).2⟩))
  · exact st.elim
theorem k_lsub (hd : decode cc pc = .ok (.lsub, 1)) : SOK own cc nL rt ini pc (s_l2 (pc + 1) (fun a b => a - b)) := by
  intro p l e R s m args below meth c G K0 d mc ms kk Q C nx hn L S h cu su st h1 h2 K Ls H locs ls hB hS hE hl hs
  unfold s_l2 at st
  split at st
  · exact lv_lsub C.1 C.2.1 hd (hn _ _ _ _ _ _ st h1 h2 K Ls H locs ls hB hS hE hl (List.forall_mem_cons.mpr ⟨trivial, (List.forall_mem_cons.mp (List.forall_mem_cons.mp hs).2).2⟩))
  · exact st.elim
theorem k_lmul (hd : decode cc pc = .ok (.lmul, 1)) : SOK own cc nL rt ini pc (s_l2 (pc + 1) (fun a b => a * b)) := by
  intro p l e R s m args below meth c G K0 d mc ms kk Q C nx hn L S h cu su st h1 h2 K Ls H locs ls hB hS hE hl hs
  unfold s_l2 at st
  split at st
  · exact lv_lmul C.1 C.2.1 hd (hn _ _ _ _ _ _ st h1 h2 K Ls H locs ls hB hS hE hl (List.forall_mem_cons.mpr ⟨trivial, (List.forall_mem_cons.mp (List.forall_mem_cons.mp hs).2).2⟩))
  · exact st.elim
theorem k_ldiv (hd : decode cc pc = .ok (.ldiv, 1)) : SOK own cc nL rt ini pc (s_lq (pc + 1) (fun a b => a / b)) := by
  intro p l e R s m args below meth c G K0 d mc ms kk Q C nx hn L S h cu su st h1 h2 K Ls H locs ls hB hS hE hl hs
  unfold s_lq at st
  split at st
  · exact lv_ldiv C.1 C.2.1 hd st.1 (hn _ _ _ _ _ _ st.2 h1 h2 K Ls H locs ls hB hS hE hl (List.forall_mem_cons.mpr ⟨trivial, (List.forall_mem_cons.mp (List.forall_mem_cons.mp hs).2).2⟩))
  · exact st.elim
theorem k_lrem (hd : decode cc pc = .ok (.lrem, 1)) : SOK own cc nL rt ini pc (s_lq (pc + 1) (fun a b => a - a / b * b)) := by
  intro p l e R s m args below meth c G K0 d mc ms kk Q C nx hn L S h cu su st h1 h2 K Ls H locs ls hB hS hE hl hs
  unfold s_lq at st
  split at st
  · exact lv_lrem C.1 C.2.1 hd st.1 (hn _ _ _ _ _ _ st.2 h1 h2 K Ls H locs ls hB hS hE hl (List.forall_mem_cons.mpr ⟨trivial, (List.forall_mem_cons.mp (List.forall_mem_cons.mp hs).2).2⟩))
  · exact st.elim
theorem k_lcmp (hd : decode cc pc = .ok (.lcmp, 1)) : SOK own cc nL rt ini pc (s_lcmp (pc + 1)) := by
  intro p l e R s m args below meth c G K0 d mc ms kk Q C nx hn L S h cu su st h1 h2 K Ls H locs ls hB hS hE hl hs
  unfold s_lcmp at st
  split at st
  · exact W.lcmp C.1 C.2.1 hd (hn _ _ _ _ _ _ st h1 h2 K Ls H locs ls hB hS hE hl (List.forall_mem_cons.mpr ⟨trivial, (List.forall_mem_cons.mp (List.forall_mem_cons.mp hs).2).2⟩))
  · exact st.elim
theorem k_ineg (hd : decode cc pc = .ok (.ineg, 1)) : SOK own cc nL rt ini pc (s_i1 (pc + 1) (fun a => -a)) := by
  intro p l e R s m args below meth c G K0 d mc ms kk Q C nx hn L S h cu su st h1 h2 K Ls H locs ls hB hS hE hl hs
  unfold s_i1 at st
  split at st
  · exact lv_ineg C.1 C.2.1 hd (hn _ _ _ _ _ _ st h1 h2 K Ls H locs ls hB hS hE hl (List.forall_mem_cons.mpr ⟨trivial, (List.forall_mem_cons.mp hs).2⟩))
  · exact st.elim
theorem k_i2b (hd : decode cc pc = .ok (.i2b, 1)) : SOK own cc nL rt ini pc (s_i1 (pc + 1) (fun a => a.toInt8.toInt32)) := by
  intro p l e R s m args below meth c G K0 d mc ms kk Q C nx hn L S h cu su st h1 h2 K Ls H locs ls hB hS hE hl hs
  unfold s_i1 at st
  split at st
  · exact lv_i2b C.1 C.2.1 hd rfl (hn _ _ _ _ _ _ st h1 h2 K Ls H locs ls hB hS hE hl (List.forall_mem_cons.mpr ⟨trivial, (List.forall_mem_cons.mp hs).2⟩))
  · exact st.elim
theorem k_i2s (hd : decode cc pc = .ok (.i2s, 1)) : SOK own cc nL rt ini pc (s_i1 (pc + 1) (fun a => a.toInt16.toInt32)) := by
  intro p l e R s m args below meth c G K0 d mc ms kk Q C nx hn L S h cu su st h1 h2 K Ls H locs ls hB hS hE hl hs
  unfold s_i1 at st
  split at st
  · exact lv_i2s C.1 C.2.1 hd rfl (hn _ _ _ _ _ _ st h1 h2 K Ls H locs ls hB hS hE hl (List.forall_mem_cons.mpr ⟨trivial, (List.forall_mem_cons.mp hs).2⟩))
  · exact st.elim
theorem k_i2l (hd : decode cc pc = .ok (.i2l, 1)) : SOK own cc nL rt ini pc (s_i2l (pc + 1)) := by
  intro p l e R s m args below meth c G K0 d mc ms kk Q C nx hn L S h cu su st h1 h2 K Ls H locs ls hB hS hE hl hs
  unfold s_i2l at st
  split at st
  · exact lv_i2l C.1 C.2.1 hd rfl (hn _ _ _ _ _ _ st h1 h2 K Ls H locs ls hB hS hE hl (List.forall_mem_cons.mpr ⟨trivial, (List.forall_mem_cons.mp hs).2⟩))
  · exact st.elim
theorem k_l2i (hd : decode cc pc = .ok (.l2i, 1)) : SOK own cc nL rt ini pc (s_l2i (pc + 1)) := by
  intro p l e R s m args below meth c G K0 d mc ms kk Q C nx hn L S h cu su st h1 h2 K Ls H locs ls hB hS hE hl hs
  unfold s_l2i at st
  split at st
  · exact lv_l2i C.1 C.2.1 hd rfl (hn _ _ _ _ _ _ st h1 h2 K Ls H locs ls hB hS hE hl (List.forall_mem_cons.mpr ⟨trivial, (List.forall_mem_cons.mp hs).2⟩))
  · exact st.elim
theorem k_dup (hd : decode cc pc = .ok (.dup, 1)) : SOK own cc nL rt ini pc (s_dup (pc + 1)) := by
  intro p l e R s m args below meth c G K0 d mc ms kk Q C nx hn L S h cu su st h1 h2 K Ls H locs ls hB hS hE hl hs
  unfold s_dup at st
  split at st
  · exact lv_dup C.1 C.2.1 hd rfl (hn _ _ _ _ _ _ st h1 h2 K Ls H locs ls hB hS hE hl (List.forall_mem_cons.mpr ⟨trivial, hs⟩))
  · next q S' => exact lv_dup C.1 C.2.1 hd (tv_cat1 (v := .inr (.inr q)) (fun l h => by cases h)) (hn _ _ _ _ _ _ st h1 h2 K Ls H locs ls hB hS hE hl (List.forall_mem_cons.mpr ⟨(List.forall_mem_cons.mp hs).1, hs⟩))
  · exact st.elim
theorem k_dup2 (hd : decode cc pc = .ok (.dup2, 1)) : SOK own cc nL rt ini pc (s_dup2 (pc + 1)) := by
  intro p l e R s m args below meth c G K0 d mc ms kk Q C nx hn L S h cu su st h1 h2 K Ls H locs ls hB hS hE hl hs
  unfold s_dup2 at st
  split at st
  · next a q S' => exact lv_dup2_11 C.1 C.2.1 hd rfl (tv_cat1 (v := .inr (.inr q)) (fun l h => by cases h)) (hn _ _ _ _ _ _ st h1 h2 K Ls H locs ls hB hS hE hl (List.forall_mem_cons.mpr ⟨trivial, List.forall_mem_cons.mpr ⟨(List.forall_mem_cons.mp (List.forall_mem_cons.mp hs).2).1, hs⟩⟩))
  · exact st.elim
theorem k_pop (hd : decode cc pc = .ok (.pop, 1)) : SOK own cc nL rt ini pc (s_pop (pc + 1)) := by
  intro p l e R s m args below meth c G K0 d mc ms kk Q C nx hn L S h cu su st h1 h2 K Ls H locs ls hB hS hE hl hs
  unfold s_pop at st
  split at st
  · exact lv_pop C.1 C.2.1 hd rfl (hn _ _ _ _ _ _ st h1 h2 K Ls H locs ls hB hS hE hl (List.forall_mem_cons.mp hs).2)
  · next q S' => exact lv_pop C.1 C.2.1 hd (tv_cat1 (v := .inr (.inr q)) (fun l h => by cases h)) (hn _ _ _ _ _ _ st h1 h2 K Ls H locs ls hB hS hE hl (List.forall_mem_cons.mp hs).2)
  · exact st.elim
theorem k_if_eq {off : Int} {tgt : Nat} (hd : decode cc pc = .ok (.ifCond .eq off, 3)) (ht : (pc : Int) + off = (tgt : Int)) : SOK own cc nL rt ini pc (s_if (pc + 3) tgt (fun a => a = 0)) := by
  intro p l e R s m args below meth c G K0 d mc ms kk Q C nx hn L S h cu su st h1 h2 K Ls H locs ls hB hS hE hl hs
  unfold s_if at st
  split at st
  · exact lv_if_eq C.1 C.2.1 hd ht (fun q => hn _ _ _ _ _ _ (st.1 q) h1 h2 K Ls H locs ls hB hS hE hl (List.forall_mem_cons.mp hs).2) (fun q => hn _ _ _ _ _ _ (st.2 q) h1 h2 K Ls H locs ls hB hS hE hl (List.forall_mem_cons.mp hs).2)
  · exact st.elim
theorem k_cmp_eq {off : Int} {tgt : Nat} (hd : decode cc pc = .ok (.if_icmp .eq off, 3)) (ht : (pc : Int) + off = (tgt : Int)) : SOK own cc nL rt ini pc (s_cmp (pc + 3) tgt (fun a b => a = b)) := by
  intro p l e R s m args below meth c G K0 d mc ms kk Q C nx hn L S h cu su st h1 h2 K Ls H locs ls hB hS hE hl hs
  unfold s_cmp at st
  split at st
  · exact lv_icmp_eq C.1 C.2.1 hd ht (fun q => hn _ _ _ _ _ _ (st.1 q) h1 h2 K Ls H locs ls hB hS hE hl (List.forall_mem_cons.mp (List.forall_mem_cons.mp hs).2).2) (fun q => hn _ _ _ _ _ _ (st.2 q) h1 h2 K Ls H locs ls hB hS hE hl (List.forall_mem_cons.mp (List.forall_mem_cons.mp hs).2).2)
  · exact st.elim
theorem k_if_ne {off : Int} {tgt : Nat} (hd : decode cc pc = .ok (.ifCond .ne off, 3)) (ht : (pc : Int) + off = (tgt : Int)) : SOK own cc nL rt ini pc (s_if tgt (pc + 3) (fun a => a = 0)) := by
  intro p l e R s m args below meth c G K0 d mc ms kk Q C nx hn L S h cu su st h1 h2 K Ls H locs ls hB hS hE hl hs
  unfold s_if at st
  split at st
  · exact lv_if_ne C.1 C.2.1 hd ht (fun q => hn _ _ _ _ _ _ (st.2 q) h1 h2 K Ls H locs ls hB hS hE hl (List.forall_mem_cons.mp hs).2) (fun q => hn _ _ _ _ _ _ (st.1 q) h1 h2 K Ls H locs ls hB hS hE hl (List.forall_mem_cons.mp hs).2)
  · exact st.elim
theorem k_cmp_ne {off : Int} {tgt : Nat} (hd : decode cc pc = .ok (.if_icmp .ne off, 3)) (ht : (pc : Int) + off = (tgt : Int)) : SOK own cc nL rt ini pc (s_cmp tgt (pc + 3) (fun a b => a = b)) := by
  intro p l e R s m args below meth c G K0 d mc ms kk Q C nx hn L S h cu su st h1 h2 K Ls H locs ls hB hS hE hl hs
  unfold s_cmp at st
  split at st
  · exact lv_icmp_ne C.1 C.2.1 hd ht (fun q => hn _ _ _ _ _ _ (st.2 q) h1 h2 K Ls H locs ls hB hS hE hl (List.forall_mem_cons.mp (List.forall_mem_cons.mp hs).2).2) (fun q => hn _ _ _ _ _ _ (st.1 q) h1 h2 K Ls H locs ls hB hS hE hl (List.forall_mem_cons.mp (List.forall_mem_cons.mp hs).2).2)
  · exact st.elim
theorem k_if_lt {off : Int} {tgt : Nat} (hd : decode cc pc = .ok (.ifCond .lt off, 3)) (ht : (pc : Int) + off = (tgt : Int)) : SOK own cc nL rt ini pc (s_if (pc + 3) tgt (fun a => a < 0)) := by
  intro p l e R s m args below meth c G K0 d mc ms kk Q C nx hn L S h cu su st h1 h2 K Ls H locs ls hB hS hE hl hs
  unfold s_if at st
  split at st
  · exact lv_if_lt C.1 C.2.1 hd ht (fun q => hn _ _ _ _ _ _ (st.1 q) h1 h2 K Ls H locs ls hB hS hE hl (List.forall_mem_cons.mp hs).2) (fun q => hn _ _ _ _ _ _ (st.2 q) h1 h2 K Ls H locs ls hB hS hE hl (List.forall_mem_cons.mp hs).2)
  · exact st.elim
theorem k_cmp_lt {off : Int} {tgt : Nat} (hd : decode cc pc = .ok (.if_icmp .lt off, 3)) (ht : (pc : Int) + off = (tgt : Int)) : SOK own cc nL rt ini pc (s_cmp (pc + 3) tgt (fun a b => a < b)) := by
  intro p l e R s m args below meth c G K0 d mc ms kk Q C nx hn L S h cu su st h1 h2 K Ls H locs ls hB hS hE hl hs
  unfold s_cmp at st
  split at st
  · exact lv_icmp_lt C.1 C.2.1 hd ht (fun q => hn _ _ _ _ _ _ (st.1 q) h1 h2 K Ls H locs ls hB hS hE hl (List.forall_mem_cons.mp (List.forall_mem_cons.mp hs).2).2) (fun q => hn _ _ _ _ _ _ (st.2 q) h1 h2 K Ls H locs ls hB hS hE hl (List.forall_mem_cons.mp (List.forall_mem_cons.mp hs).2).2)
  · exact st.elim
theorem k_if_ge {off : Int} {tgt : Nat} (hd : decode cc pc = .ok (.ifCond .ge off, 3)) (ht : (pc : Int) + off = (tgt : Int)) : SOK own cc nL rt ini pc (s_if (pc + 3) tgt (fun a => 0 ≤ a)) := by
  intro p l e R s m args below meth c G K0 d mc ms kk Q C nx hn L S h cu su st h1 h2 K Ls H locs ls hB hS hE hl hs
  unfold s_if at st
  split at st
  · exact lv_if_ge C.1 C.2.1 hd ht (fun q => hn _ _ _ _ _ _ (st.1 q) h1 h2 K Ls H locs ls hB hS hE hl (List.forall_mem_cons.mp hs).2) (fun q => hn _ _ _ _ _ _ (st.2 q) h1 h2 K Ls H locs ls hB hS hE hl (List.forall_mem_cons.mp hs).2)
  · exact st.elim
theorem k_cmp_ge {off : Int} {tgt : Nat} (hd : decode cc pc = .ok (.if_icmp .ge off, 3)) (ht : (pc : Int) + off = (tgt : Int)) : SOK own cc nL rt ini pc (s_cmp (pc + 3) tgt (fun a b => b ≤ a)) := by
  intro p l e R s m args below meth c G K0 d mc ms kk Q C nx hn L S h cu su st h1 h2 K Ls H locs ls hB hS hE hl hs
  unfold s_cmp at st
  split at st
  · exact lv_icmp_ge C.1 C.2.1 hd ht (fun q => hn _ _ _ _ _ _ (st.1 q) h1 h2 K Ls H locs ls hB hS hE hl (List.forall_mem_cons.mp (List.forall_mem_cons.mp hs).2).2) (fun q => hn _ _ _ _ _ _ (st.2 q) h1 h2 K Ls H locs ls hB hS hE hl (List.forall_mem_cons.mp (List.forall_mem_cons.mp hs).2).2)
  · exact st.elim
theorem k_if_gt {off : Int} {tgt : Nat} (hd : decode cc pc = .ok (.ifCond .gt off, 3)) (ht : (pc : Int) + off = (tgt : Int)) : SOK own cc nL rt ini pc (s_if (pc + 3) tgt (fun a => 0 < a)) := by
  intro p l e R s m args below meth c G K0 d mc ms kk Q C nx hn L S h cu su st h1 h2 K Ls H locs ls hB hS hE hl hs
  unfold s_if at st
  split at st
  · exact lv_if_gt C.1 C.2.1 hd ht (fun q => hn _ _ _ _ _ _ (st.1 q) h1 h2 K Ls H locs ls hB hS hE hl (List.forall_mem_cons.mp hs).2) (fun q => hn _ _ _ _ _ _ (st.2 q) h1 h2 K Ls H locs ls hB hS hE hl (List.forall_mem_cons.mp hs).2)
  · exact st.elim
theorem k_cmp_gt {off : Int} {tgt : Nat} (hd : decode cc pc = .ok (.if_icmp .gt off, 3)) (ht : (pc : Int) + off = (tgt : Int)) : SOK own cc nL rt ini pc (s_cmp (pc + 3) tgt (fun a b => b < a)) := by
  intro p l e R s m args below meth c G K0 d mc ms kk Q C nx hn L S h cu su st h1 h2 K Ls H locs ls hB hS hE hl hs
  unfold s_cmp at st
  split at st
  · exact lv_icmp_gt C.1 C.2.1 hd ht (fun q => hn _ _ _ _ _ _ (st.1 q) h1 h2 K Ls H locs ls hB hS hE hl (List.forall_mem_cons.mp (List.forall_mem_cons.mp hs).2).2) (fun q => hn _ _ _ _ _ _ (st.2 q) h1 h2 K Ls H locs ls hB hS hE hl (List.forall_mem_cons.mp (List.forall_mem_cons.mp hs).2).2)
  · exact st.elim
theorem k_if_le {off : Int} {tgt : Nat} (hd : decode cc pc = .ok (.ifCond .le off, 3)) (ht : (pc : Int) + off = (tgt : Int)) : SOK own cc nL rt ini pc (s_if (pc + 3) tgt (fun a => a ≤ 0)) := by
  intro p l e R s m args below meth c G K0 d mc ms kk Q C nx hn L S h cu su st h1 h2 K Ls H locs ls hB hS hE hl hs
  unfold s_if at st
  split at st
  · exact lv_if_le C.1 C.2.1 hd ht (fun q => hn _ _ _ _ _ _ (st.1 q) h1 h2 K Ls H locs ls hB hS hE hl (List.forall_mem_cons.mp hs).2) (fun q => hn _ _ _ _ _ _ (st.2 q) h1 h2 K Ls H locs ls hB hS hE hl (List.forall_mem_cons.mp hs).2)
  · exact st.elim
theorem k_cmp_le {off : Int} {tgt : Nat} (hd : decode cc pc = .ok (.if_icmp .le off, 3)) (ht : (pc : Int) + off = (tgt : Int)) : SOK own cc nL rt ini pc (s_cmp (pc + 3) tgt (fun a b => a ≤ b)) := by
  intro p l e R s m args below meth c G K0 d mc ms kk Q C nx hn L S h cu su st h1 h2 K Ls H locs ls hB hS hE hl hs
  unfold s_cmp at st
  split at st
  · exact lv_icmp_le C.1 C.2.1 hd ht (fun q => hn _ _ _ _ _ _ (st.1 q) h1 h2 K Ls H locs ls hB hS hE hl (List.forall_mem_cons.mp (List.forall_mem_cons.mp hs).2).2) (fun q => hn _ _ _ _ _ _ (st.2 q) h1 h2 K Ls H locs ls hB hS hE hl (List.forall_mem_cons.mp (List.forall_mem_cons.mp hs).2).2)
  · exact st.elim
theorem k_ifnull {off : Int} {tgt : Nat} (hd : decode cc pc = .ok (.ifnull off, 3)) (ht : (pc : Int) + off = (tgt : Int)) : SOK own cc nL rt ini pc (s_ifn (pc + 3) tgt) := by
  intro p l e R s m args below meth c G K0 d mc ms kk Q C nx hn L S h cu su st h1 h2 K Ls H locs ls hB hS hE hl hs
  unfold s_ifn at st
  split at st
  · next q S' =>
    obtain ⟨t, x⟩ := q
    have hs2 := (List.forall_mem_cons.mp hs).2
    cases x with
    | zero => exact lv_ifnullN C.1 C.2.1 hd ht (hn _ _ _ _ _ _ (st.1 rfl) h1 h2 K Ls H locs ls hB hS hE hl hs2)
    | succ x => exact lv_ifnull C.1 C.2.1 hd (hn _ _ _ _ _ _ (st.2 (Nat.succ_ne_zero x)) h1 h2 K Ls H locs ls hB hS hE hl hs2)
  · exact st.elim
theorem k_ifnonnull {off : Int} {tgt : Nat} (hd : decode cc pc = .ok (.ifnonnull off, 3)) (ht : (pc : Int) + off = (tgt : Int)) : SOK own cc nL rt ini pc (s_ifnn (pc + 3) tgt) := by
  intro p l e R s m args below meth c G K0 d mc ms kk Q C nx hn L S h cu su st h1 h2 K Ls H locs ls hB hS hE hl hs
  unfold s_ifnn at st
  split at st
  · next q S' =>
    obtain ⟨t, x⟩ := q
    have hs2 := (List.forall_mem_cons.mp hs).2
    cases x with
    | zero => exact lv_ifnonnullN C.1 C.2.1 hd (hn _ _ _ _ _ _ (st.1 rfl) h1 h2 K Ls H locs ls hB hS hE hl hs2)
    | succ x => exact lv_ifnonnull C.1 C.2.1 hd ht (hn _ _ _ _ _ _ (st.2 (Nat.succ_ne_zero x)) h1 h2 K Ls H locs ls hB hS hE hl hs2)
  · exact st.elim
theorem k_goto {off : Int} {tgt : Nat} (hd : decode cc pc = .ok (.goto off, 3)) (ht : (pc : Int) + off = (tgt : Int)) : SOK own cc nL rt ini pc (s_goto tgt) := by
  intro p l e R s m args below meth c G K0 d mc ms kk Q C nx hn L S h cu su st h1 h2 K Ls H locs ls hB hS hE hl hs
  exact lv_goto C.1 C.2.1 hd ht (hn _ _ _ _ _ _ st h1 h2 K Ls H locs ls hB hS hE hl hs)
theorem swc_ts {x : Int32} {k : Nat → Prop} {dd : Nat} : ∀ (cs : List (Int32 × Nat)), swc x k dd cs → (∃ (q t : Nat), cs[q]? = some (x, t) ∧ k t) ∨ ((∀ (q t : Nat), cs[q]? ≠ some (x, t)) ∧ k dd)
  | [], h => Or.inr ⟨fun q t => by simp, h⟩
  | (v, t) :: r, h => by
    by_cases hx : x = v
    · left
      subst hx
      exact ⟨0, t, rfl, h.1 rfl⟩
    · rcases swc_ts r (h.2 hx) with ⟨q, u, e1, e2⟩ | ⟨e1, e2⟩
      · left
        exact ⟨q + 1, u, e1, e2⟩
      · right
        refine ⟨fun j w => ?_, e2⟩
        cases j with
        | zero => intro z; simp at z; exact hx z.1.symm
        | succ j => exact e1 j w
/-- tables: the cases are lo, lo + 1 .. with their targets -/
theorem k_tsw {dflt lo hi : Int} {offs : Array Int} {len : Nat} {cs : List (Int32 × Nat)} {dd : Nat} (hd : decode cc pc = .ok (.tableswitch dflt lo hi offs, len)) (h1 : ((List.range cs.length).all (fun q => match cs[q]? with | some (v, t) => decide (v.toInt = lo + q) && decide (offs[q]? = some ((t : Int) - (pc : Int))) | none => false)) = true) (h2 : (cs.length : Int) = hi - lo + 1) (h3 : (pc : Int) + dflt = (dd : Int)) (h4 : (0 : Int) ≤ hi - lo) : SOK own cc nL rt ini pc (s_sw cs dd) := by
  intro p l e R s m args below meth c G K0 d mc ms kk Q C nx hn L S h cu su st g1 g2 K Ls H locs ls hB hS hE hl hs
  unfold s_sw at st
  split at st
  · next a S' =>
    have hs2 := (List.forall_mem_cons.mp hs).2
    have key : ∀ q : Nat, q < cs.length → ∃ v t, cs[q]? = some (v, t) ∧ v.toInt = lo + q ∧ offs[q]? = some ((t : Int) - (pc : Int)) := by
      intro q hq
      have z := List.all_eq_true.mp h1 q (List.mem_range.mpr hq)
      cases hc : cs[q]? with
      | none => rw [hc] at z; cases z
      | some w =>
        obtain ⟨v, t⟩ := w
        rw [hc] at z
        simp only [Bool.and_eq_true, decide_eq_true_eq] at z
        exact ⟨v, t, rfl, z.1, z.2⟩
    rcases swc_ts cs st with ⟨q, t, e1, e2⟩ | ⟨e1, e2⟩
    · have hq : q < cs.length := (List.getElem?_eq_some_iff.mp e1).1
      obtain ⟨v, t', f1, f2, f3⟩ := key q hq
      rw [e1] at f1
      cases f1
      refine lv_tableIn C.1 C.2.1 hd (by omega) (by omega) (off := (t : Int) - (pc : Int)) ?_ (by omega) (hn _ _ _ _ _ _ e2 g1 g2 K Ls H locs ls hB hS hE hl hs2)
      rw [f2, show (lo + (q : Int) - lo).toNat = q by omega]
      exact f3
    · refine lv_tableOut C.1 C.2.1 hd ?_ h3 (hn _ _ _ _ _ _ e2 g1 g2 K Ls H locs ls hB hS hE hl hs2)
      by_cases b1 : a.toInt < lo
      · exact Or.inl b1
      · by_cases b2 : hi < a.toInt
        · exact Or.inr b2
        · exfalso
          obtain ⟨v, t, f1, f2, f3⟩ := key (a.toInt - lo).toNat (by omega)
          refine e1 (a.toInt - lo).toNat t ?_
          rw [f1, show v = a from Int32.toInt_inj.mp (by rw [f2]; omega)]
  · exact st.elim
theorem lsw_off {x : Int32} {k : Nat → Prop} {dd pc : Nat} {dflt : Int} : ∀ (cs : List (Int32 × Nat)) (ps : List (Int × Int)), cs.map (fun w => (w.1.toInt, (w.2 : Int) - (pc : Int))) = ps → (dd : Int) = (pc : Int) + dflt → swc x k dd cs → ∃ t : Nat, k t ∧ (pc : Int) + Op.lookupswitch.offset ps dflt x.toInt = (t : Int)
  | [], ps, e, hdd, h => ⟨dd, h, by subst e; rw [hdd]; rfl⟩
  | (v, t) :: r, ps, e, hdd, h => by
    subst e
    by_cases hx : x = v
    · refine ⟨t, h.1 hx, ?_⟩
      rw [List.map_cons, Op.lookupswitch.offset_cons, if_pos (by rw [hx])]
      show (pc : Int) + ((t : Int) - (pc : Int)) = (t : Int)
      omega
    · obtain ⟨u, e1, e2⟩ := lsw_off r _ rfl hdd (h.2 hx)
      refine ⟨u, e1, ?_⟩
      rw [List.map_cons, lv_osw hx rfl]
      exact e2
theorem k_lsw {dflt : Int} {ps : Array (Int × Int)} {len : Nat} {cs : List (Int32 × Nat)} {dd : Nat} (hd : decode cc pc = .ok (.lookupswitch dflt ps, len)) (h1 : (cs.map (fun w => (w.1.toInt, (w.2 : Int) - (pc : Int))) = ps.toList ∧ (dd : Int) = (pc : Int) + dflt)) (h2 : (ps.toList.zip (ps.toList.drop 1)).all (fun (a, next) => a.1 < next.1) = true) : SOK own cc nL rt ini pc (s_sw cs dd) := by
  intro p l e R s m args below meth c G K0 d mc ms kk Q C nx hn L S h cu su st g1 g2 K Ls H locs ls hB hS hE hl hs
  unfold s_sw at st
  split at st
  · next a S' =>
    have hs2 := (List.forall_mem_cons.mp hs).2
    obtain ⟨t, e1, e2⟩ := lsw_off cs _ h1.1 h1.2 st
    exact lv_lookup C.1 C.2.1 hd h2 rfl e2 (hn _ _ _ _ _ _ e1 g1 g2 K Ls H locs ls hB hS hE hl hs2)
  · exact st.elim
theorem k_ret (hd : decode cc pc = .ok (.ireturn, 1)) (hr : rt = some .int := by rfl) : SOK own cc nL rt ini pc s_ret := by
  intro p l e R s m args below meth c G K0 d mc ms kk Q C nx hn L S h cu su st h1 h2 K Ls H locs ls hB hS hE hl hs
  unfold s_ret at st
  split at st
  · next v => exact C.2.2.2.2.2.2.2 (some (.inl v)) h cu su st h1 h2 (Or.inl hr) K Ls H locs ls pc hB hS hE (fun w hw => by cases hw; trivial) hd
  · exact st.elim
theorem k_zret (hd : decode cc pc = .ok (.ireturn, 1)) (hr : rt = some .boolean := by rfl) : SOK own cc nL rt ini pc s_zret := by
  intro p l e R s m args below meth c G K0 d mc ms kk Q C nx hn L S h cu su st h1 h2 K Ls H locs ls hB hS hE hl hs
  unfold s_zret at st
  split at st
  · next v => exact C.2.2.2.2.2.2.2 (some (.inl v)) h cu su st.2 h1 h2 (Or.inr ⟨hr, st.1⟩) K Ls H locs ls pc hB hS hE (fun w hw => by cases hw; trivial) hd
  · exact st.elim
theorem k_lret (hd : decode cc pc = .ok (.lreturn, 1)) (hr : rt = some .long := by rfl) : SOK own cc nL rt ini pc s_lret := by
  intro p l e R s m args below meth c G K0 d mc ms kk Q C nx hn L S h cu su st h1 h2 K Ls H locs ls hB hS hE hl hs
  unfold s_lret at st
  split at st
  · next v => exact C.2.2.2.2.2.2.2 (some (.inr (.inl v))) h cu su st h1 h2 hr K Ls H locs ls pc hB hS hE (fun w hw => by cases hw; trivial) hd
  · exact st.elim
theorem k_vret (hd : decode cc pc = .ok (.return_, 1)) (hr : rt = none := by rfl) : SOK own cc nL rt ini pc s_vret := by
  intro p l e R s m args below meth c G K0 d mc ms kk Q C nx hn L S h cu su st h1 h2 K Ls H locs ls hB hS hE hl hs
  unfold s_vret at st
  split at st
  · exact C.2.2.2.2.2.2.2 none h cu su st h1 h2 hr K Ls H locs ls pc hB hS hE (fun w hw => by cases hw) hd
  · exact st.elim
end K1
end
section
/-! ===== ENGINE: heaps ===== -/
theorem hb_at {G : Gh} {K : Nat → Nat} {Ls : List Nat} {h : hp} {U : State} {H H0 : Heap} (hB : HB G K Ls h U H H0) {a : Nat} (h1 : K a ≠ 0) (h2 : K a ≠ 25) : ∃ q : Nat, (va_pl Ls (Fh G K h))[q]? = some (a, Fh G K h a) := va_pl_get (X := []) ((hB.2.2.2.2.1 a).mpr ⟨h1, h2⟩)
theorem hb_in {G : Gh} {K : Nat → Nat} {Ls : List Nat} {h : hp} {U : State} {H H0 : Heap} (hB : HB G K Ls h U H H0) {a : Nat} (h1 : K a ≠ 0) (h2 : K a ≠ 25) : a ∈ Ls := (hB.2.2.2.2.1 a).mpr ⟨h1, h2⟩
theorem Fh_obj {G : Gh} {K : Nat → Nat} {h : hp} {a ci : Nat} (hk : K a = ci + 1) (hc : ci < 8) : Fh G K h a = .inr (ci, fls h (a + 1) ci) := by
  unfold Fh Fk
  rw [hk, if_neg (by omega), if_neg (by omega), if_neg (by omega), if_neg (by omega), if_neg (by omega)]
  rfl
theorem Fh_20 {G : Gh} {K : Nat → Nat} {h : hp} {a : Nat} (hk : K a = 20) : Fh G K h a = .inl (G.2.1 0, haL h (a + 1), .inl (haI h (a + 1))) := by
  unfold Fh Fk
  rw [hk]; rfl
theorem Fh_21 {G : Gh} {K : Nat → Nat} {h : hp} {a : Nat} (hk : K a = 21) : Fh G K h a = .inl (G.2.1 1, haL h (a + 1), .inl (haI h (a + 1))) := by
  unfold Fh Fk
  rw [hk]; rfl
theorem Fh_22 {G : Gh} {K : Nat → Nat} {h : hp} {a : Nat} (hk : K a = 22) : Fh G K h a = .inl (G.2.1 2, haL h (a + 1), .inr (.inr (.inr (.inr (fun j => dr (haR h (a + 1) j)))))) := by
  unfold Fh Fk
  rw [hk]; rfl
theorem Fh_23 {G : Gh} {K : Nat → Nat} {h : hp} {a : Nat} (hk : K a = 23) : Fh G K h a = .inl (G.2.1 3, haL h (a + 1), .inr (.inr (.inr (.inr (fun j => dr (haR h (a + 1) j)))))) := by
  unfold Fh Fk
  rw [hk]; rfl
theorem Fh_24 {G : Gh} {K : Nat → Nat} {h : hp} {a : Nat} (hk : K a = 24) : Fh G K h a = .inl (G.2.1 4, haL h (a + 1), .inr (.inr (.inr (.inr (fun j => dr (haR h (a + 1) j)))))) := by
  unfold Fh Fk
  rw [hk]; rfl
theorem fls_get {h : hp} {x ci k : Nat} (hk : k < nF ci) : (fls h x ci)[k]? = some (fval h x ci k) := by
  unfold fls
  rw [List.getElem?_map, List.getElem?_range hk]
  rfl
theorem fls_len (h : hp) (x ci : Nat) : (fls h x ci).length = nF ci := by simp [fls]
theorem fls_set {h h' : hp} {x ci k : Nat} {v : Value} (hk : k < nF ci) (h1 : fval h' x ci k = v) (h2 : ∀ j, j ≠ k → fval h' x ci j = fval h x ci j) : (fls h x ci).set k v = fls h' x ci := by
  apply List.ext_getElem?
  intro j
  by_cases hj : j < nF ci
  · rw [fls_get hj]
    by_cases e : j = k
    · subst e
      rw [List.getElem?_set_self (by rw [fls_len]; exact hk), h1]
    · rw [List.getElem?_set_ne (Ne.symm e), fls_get hj, h2 j e]
  · rw [List.getElem?_eq_none (by rw [List.length_set, fls_len]; omega), List.getElem?_eq_none (by rw [fls_len]; omega)]
theorem fls_congr {h h' : hp} {x ci : Nat} (h2 : ∀ j, fval h' x ci j = fval h x ci j) : fls h x ci = fls h' x ci := by
  unfold fls
  apply List.map_congr_left
  intro j _
  exact (h2 j).symm
/-- cells but one stay as they are -/
theorem Fk_congr {G : Gh} {h h' : hp} {a k : Nat} (h1 : haL h' (a + 1) = haL h (a + 1)) (h2 : haI h' (a + 1) = haI h (a + 1)) (h3 : haR h' (a + 1) = haR h (a + 1)) (h4 : ∀ ci j, fval h' (a + 1) ci j = fval h (a + 1) ci j) : Fk G h' a k = Fk G h a k := by
  unfold Fk
  rw [h1, h2, h3, fls_congr (h := h') (h' := h) (fun j => (h4 (k - 1) j).symm)]
theorem Fh_up {G : Gh} {K : Nat → Nat} {h h' : hp} {a : Nat} {e : va_E} (he : Fk G h' a (K a) = e) (ho : ∀ b, b ≠ a → K b ≠ 0 → Fk G h' b (K b) = Fk G h b (K b)) : ∀ b, K b ≠ 0 → va_up (Fh G K h) a e b = Fh G K h' b := by
  intro b hb
  by_cases q : b = a
  · subst q
    rw [va_up_self]
    exact he.symm
  · rw [va_up_ne _ _ q]
    exact (ho b q hb).symm
theorem pl_congr {L : List Nat} {f g : Nat → va_E} (h : ∀ a ∈ L, f a = g a) : va_pl L f = va_pl L g := by
  unfold va_pl
  apply List.map_congr_left
  intro a ha
  rw [h a ha]
theorem vS_trans {A : Nat → Prop} {H0 H H1 : Heap} {locs locs1 : List Loc} (h : va_S A H0 H locs) (h' : va_S A H H1 locs1) : va_S A H0 H1 locs1 := ⟨Nat.le_trans h.1 h'.1, fun q g1 g2 => (h'.2.1 q (Nat.lt_of_lt_of_le g1 h.1) g2).trans (h.2.1 q g1 g2), h'.2.2⟩
theorem vS_here {A : Nat → Prop} {H0 H : Heap} {locs : List Loc} (h : va_S A H0 H locs) : va_S A H H locs := ⟨Nat.le_refl _, fun _ _ _ => rfl, h.2.2⟩
/-- a write: the heap behind it -/
theorem hb_wr {G : Gh} {K : Nat → Nat} {Ls : List Nat} {h h' : hp} {U : State} {H H1 H0 : Heap} {a q : Nat} {e : va_E} {locs1 : List Loc} (hB : HB G K Ls h U H H0) (ha : K a ≠ 0) (ha2 : K a ≠ 25) (hq : (va_pl Ls (Fh G K h))[q]? = some (a, Fh G K h a))
    (hP : va_P G.1 vwCl ((va_pl Ls (Fh G K h)).set q (a, e)) H1) (hD : va_D (gA G) ((va_pl Ls (Fh G K h)).set q (a, e))) (hS : va_S (gA G) H H1 locs1) (he : Fk G h' a (K a) = e) (ho : ∀ b, b ≠ a → K b ≠ 0 → Fk G h' b (K b) = Fk G h b (K b)) (hz' : hz h' = hz h) (hT : Ty K h') (hX : Sx G K h' U H0) : HB G K Ls h' U H1 H0 := by
  obtain ⟨b1, b2, b3, b4, b5, b6, b7, b8⟩ := hB
  have e1 : (va_pl Ls (Fh G K h)).set q (a, e) = va_pl Ls (Fh G K h') := by
    have := va_pl_set (X := []) (A := gA G) (e := e) b3 ((b5 a).mpr ⟨ha, ha2⟩) hq
    rw [List.nil_append, List.nil_append] at this
    rw [this]
    exact pl_congr (fun b hb => Fh_up he ho b ((b5 b).mp hb).1)
  rw [e1] at hP hD
  exact ⟨b1, hP, hD, ⟨by rw [hz']; have := hS.1; omega, b4.2.1, fun a ha => by rw [hz']; exact b4.2.2 a ha⟩, b5, hT, hX, b8⟩
theorem up2_s {α : Type} (g : Nat → Nat → α) (f x : Nat) (v : α) : up2 g f x v f x = v := by simp [up2]
theorem up2_x {α : Type} (g : Nat → Nat → α) {f x f' x' : Nat} (v : α) (h : x' ≠ x) : up2 g f x v f' x' = g f' x' := by simp [up2, h]
theorem up2_f {α : Type} (g : Nat → Nat → α) {f x f' x' : Nat} (v : α) (h : f' ≠ f) : up2 g f x v f' x' = g f' x' := by simp [up2, h]
theorem nar_ref {ty : FieldType} (ht : (∃ C, ty = .object C) ∨ ∃ t, ty = .array t) (x : Nat) : narrow ty (rv x) = rv x ∧ fits ty (rv x) = true := by
  rcases ht with ⟨C, rfl⟩ | ⟨t, rfl⟩ <;> cases x <;> exact ⟨rfl, rfl⟩
section K2
variable {own : String} {cc : ByteArray} {nL : Nat} {rt : Option FieldType} {ini : Bool} {pc : Nat}
theorem k_gi {Cn : String} {T : u_T} {N : Nat} (hin : ∀ w ∈ u_ws Cn T N, w ∈ lw_g) {ci k x : Nat} (hd : decode cc pc = .ok (.getfield x, 3)) (hc : vwCl[ci]? = some (Cn, T, N)) (hk : k < N ∧ k < nF ci ∧ ci < 8) (hf : frt ci k = 0) (hw : Cond.fieldLink own x (T k).1 (T k).2.1 (T k).2.2.1 ∈ lw_g) : SOK own cc nL rt ini pc (s_gi (pc + 3) (ci + 1) (100 * ci + k)) := by
  intro p l e R s m args below meth c G K0 d mc ms kk Q C nx hn L S h cu su st h1 h2 K Ls H locs ls hB hS hE hl hs
  unfold s_gi at st
  split at st
  · next t y S' =>
    obtain ⟨hy, hs2⟩ := List.forall_mem_cons.mp hs
    cases ht : Nat.beq t (ci + 1) with
    | false => rw [ht] at st; exact st.elim
    | true =>
      rw [ht] at st
      have e := Nat.eq_of_beq_eq_true ht
      subst e
      cases y with
      | zero => exact (st : False).elim
      | succ a =>
        have hka : K a = ci + 1 := (hy a rfl).1
        obtain ⟨q, hq⟩ := hb_at hB (a := a) (by omega) (by omega)
        rw [Fh_obj hka hk.2.2] at hq
        refine va_get (D := G.1) C.1 C.2.1 C.2.2.2.2.1 hin C.2.2.2.1 hB.1 hB.2.1 q hq hc k hk.1 (C.2.2.2.2.1 _ hw) (fun _ z => z) (fls_get hk.2.1) hd ?_
        rw [show fval h (a + 1) ci k = .int (hfI h (100 * ci + k) (a + 1)) by unfold fval; rw [if_pos hf]]
        exact hn _ _ _ _ _ _ (st : nx _ _ _ _ _ _) h1 h2 K Ls H locs ls hB hS hE hl (List.forall_mem_cons.mpr ⟨trivial, hs2⟩)
  · exact st.elim
theorem k_gr {Cn : String} {T : u_T} {N : Nat} (hin : ∀ w ∈ u_ws Cn T N, w ∈ lw_g) {ci k x r : Nat} (hd : decode cc pc = .ok (.getfield x, 3)) (hc : vwCl[ci]? = some (Cn, T, N)) (hk : k < N ∧ k < nF ci ∧ ci < 8 ∧ r ≠ 0) (hf : frt ci k = r) (hw : Cond.fieldLink own x (T k).1 (T k).2.1 (T k).2.2.1 ∈ lw_g) : SOK own cc nL rt ini pc (s_gr (pc + 3) (ci + 1) (100 * ci + k) r) := by
  intro p l e R s m args below meth c G K0 d mc ms kk Q C nx hn L S h cu su st h1 h2 K Ls H locs ls hB hS hE hl hs
  unfold s_gr at st
  split at st
  · next t y S' =>
    obtain ⟨hy, hs2⟩ := List.forall_mem_cons.mp hs
    cases ht : Nat.beq t (ci + 1) with
    | false => rw [ht] at st; exact st.elim
    | true =>
      rw [ht] at st
      have e := Nat.eq_of_beq_eq_true ht
      subst e
      cases y with
      | zero => exact (st : False).elim
      | succ a =>
        have hka : K a = ci + 1 := (hy a rfl).1
        obtain ⟨q, hq⟩ := hb_at hB (a := a) (by omega) (by omega)
        rw [Fh_obj hka hk.2.2.1] at hq
        refine va_get (D := G.1) C.1 C.2.1 C.2.2.2.2.1 hin C.2.2.2.1 hB.1 hB.2.1 q hq hc k hk.1 (C.2.2.2.2.1 _ hw) (fun _ z => z) (fls_get hk.2.1) hd ?_
        rw [show fval h (a + 1) ci k = rv (hfR h (100 * ci + k) (a + 1)) by unfold fval; rw [if_neg (by rw [hf]; exact hk.2.2.2)]]
        have hty := hB.2.2.2.2.2.1.1 a ci k hka (by rw [hf]; exact hk.2.2.2)
        rw [hf] at hty
        exact hn _ _ _ _ _ _ (st : nx _ _ _ _ _ _) h1 h2 K Ls H locs ls hB hS hE hl (List.forall_mem_cons.mpr ⟨hty, hs2⟩)
  · exact st.elim
theorem wfI_fval_o {h : hp} {f a x ci j : Nat} {v : Int32} (hx : x ≠ a) : fval (wfI h f a v) x ci j = fval h x ci j := by
  unfold fval
  show (if frt ci j = 0 then Value.int (up2 h.1 f a v (100 * ci + j) x) else rv (hfR h (100 * ci + j) x)) = _
  rw [up2_x _ _ hx]
  rfl
theorem wfR_fval_o {h : hp} {f a x ci j v : Nat} (hx : x ≠ a) : fval (wfR h f a v) x ci j = fval h x ci j := by
  unfold fval
  show (if frt ci j = 0 then Value.int (hfI h (100 * ci + j) x) else rv (up2 h.2.1 f a v (100 * ci + j) x)) = _
  rw [up2_x _ _ hx]
  rfl
theorem hb_wfI {G : Gh} {K : Nat → Nat} {Ls : List Nat} {h : hp} {U : State} {H H1 H0 : Heap} {a q ci k : Nat} {v : Int32} {locs1 : List Loc} (hB : HB G K Ls h U H H0) (hka : K a = ci + 1) (hk : k < nF ci) (hc : ci < 8) (hf : frt ci k = 0) (hq : (va_pl Ls (Fh G K h))[q]? = some (a, .inr (ci, fls h (a + 1) ci)))
    (hP : va_P G.1 vwCl ((va_pl Ls (Fh G K h)).set q (a, .inr (ci, (fls h (a + 1) ci).set k (.int v)))) H1) (hD : va_D (gA G) ((va_pl Ls (Fh G K h)).set q (a, .inr (ci, (fls h (a + 1) ci).set k (.int v))))) (hS : va_S (gA G) H H1 locs1) : HB G K Ls (wfI h (100 * ci + k) (a + 1) v) U H1 H0 := by
  refine hb_wr hB (by omega) (by omega) (by rw [Fh_obj hka hc]; exact hq) hP hD hS ?_ ?_ rfl hB.2.2.2.2.2.1 hB.2.2.2.2.2.2.1
  · have := Fh_obj (G := G) (K := K) (h := wfI h (100 * ci + k) (a + 1) v) hka hc
    unfold Fh at this
    rw [this, fls_set hk (h' := wfI h (100 * ci + k) (a + 1) v)]
    · unfold fval
      rw [if_pos hf]
      show Value.int (up2 h.1 _ _ v _ _) = _
      rw [up2_s]
    · intro j hj
      unfold fval
      show (if frt ci j = 0 then Value.int (up2 h.1 (100 * ci + k) (a + 1) v (100 * ci + j) (a + 1)) else _) = _
      rw [up2_f _ _ (by omega)]
      rfl
  · intro b hb _
    exact Fk_congr rfl rfl rfl (fun ci j => wfI_fval_o (by omega))
theorem hb_wfR {G : Gh} {K : Nat → Nat} {Ls : List Nat} {h : hp} {U : State} {H H1 H0 : Heap} {a q ci k v : Nat} {locs1 : List Loc} (hB : HB G K Ls h U H H0) (hka : K a = ci + 1) (hk : k < nF ci) (hc : ci < 8) (hf : frt ci k ≠ 0) (hv : okr K (frt ci k) v) (hq : (va_pl Ls (Fh G K h))[q]? = some (a, .inr (ci, fls h (a + 1) ci)))
    (hP : va_P G.1 vwCl ((va_pl Ls (Fh G K h)).set q (a, .inr (ci, (fls h (a + 1) ci).set k (rv v)))) H1) (hD : va_D (gA G) ((va_pl Ls (Fh G K h)).set q (a, .inr (ci, (fls h (a + 1) ci).set k (rv v))))) (hS : va_S (gA G) H H1 locs1) : HB G K Ls (wfR h (100 * ci + k) (a + 1) v) U H1 H0 := by
  obtain ⟨⟨t1, t2⟩, ⟨x1, x2⟩, -⟩ := hB.2.2.2.2.2
  refine hb_wr hB (by omega) (by omega) (by rw [Fh_obj hka hc]; exact hq) hP hD hS ?_ ?_ rfl ⟨?_, t2⟩ ⟨x1, ?_⟩
  · have := Fh_obj (G := G) (K := K) (h := wfR h (100 * ci + k) (a + 1) v) hka hc
    unfold Fh at this
    rw [this, fls_set hk (h' := wfR h (100 * ci + k) (a + 1) v)]
    · unfold fval
      rw [if_neg hf]
      show rv (up2 h.2.1 _ _ v _ _) = _
      rw [up2_s]
    · intro j hj
      unfold fval
      show (if frt ci j = 0 then _ else rv (up2 h.2.1 (100 * ci + k) (a + 1) v (100 * ci + j) (a + 1))) = _
      rw [up2_f _ _ (by omega)]
      rfl
  · intro b hb _
    exact Fk_congr rfl rfl rfl (fun ci j => wfR_fval_o (by omega))
  · intro b cj j hb hj
    show okr K (frt cj j) (up2 h.2.1 (100 * ci + k) (a + 1) v (100 * cj + j) (b + 1))
    by_cases e : b = a
    · subst e
      have : cj = ci := by omega
      subst this
      by_cases e2 : j = k
      · subst e2
        rw [up2_s]
        exact hv
      · rw [up2_f _ _ (by omega)]
        exact t1 b cj j hb hj
    · rw [up2_x _ _ (by omega)]
      exact t1 b cj j hb hj
  · obtain ⟨⟨y1, a1, a2⟩, ⟨y2, b1, b2⟩, ⟨y3, c1, c2⟩⟩ := x2
    refine ⟨⟨y1, ?_, a2⟩, ⟨y2, ?_, b2⟩, ⟨y3, ?_, c2⟩⟩
    · show up2 h.2.1 _ _ v _ 0 = _
      rw [up2_x _ _ (by omega)]; exact a1
    · show up2 h.2.1 _ _ v _ 0 = _
      rw [up2_x _ _ (by omega)]; exact b1
    · show up2 h.2.1 _ _ v _ 0 = _
      rw [up2_x _ _ (by omega)]; exact c1
theorem k_pi {Cn : String} {T : u_T} {N : Nat} {ty0 : Nat → FieldType} (hin : ∀ w ∈ u_ws Cn T N, w ∈ lw_g) (hty : ∀ k, k < N → parseFieldDescriptor (T k).2.2.1 = some (ty0 k)) (hnm : ∀ a, a < N → ∀ b, b < N → a ≠ b → (T a).2.1 ≠ (T b).2.1) {ci k x : Nat} (hd : decode cc pc = .ok (.putfield x, 3)) (hc : vwCl[ci]? = some (Cn, T, N)) (hk : k < N ∧ k < nF ci ∧ ci < 8 ∧ (T k).2.2.2 = false) (hf : frt ci k = 0) (hw : Cond.fieldLink own x (T k).1 (T k).2.1 (T k).2.2.1 ∈ lw_g) (hi : ty0 k = .int := by rfl) : SOK own cc nL rt ini pc (s_pi (pc + 3) (ci + 1) (100 * ci + k)) := by
  intro p l e R s m args below meth c G K0 d mc ms kk Q C nx hn L S h cu su st h1 h2 K Ls H locs ls hB hS hE hl hs
  unfold s_pi at st
  split at st
  · next v t y S' =>
    obtain ⟨-, hs2⟩ := List.forall_mem_cons.mp hs
    obtain ⟨hy, hs3⟩ := List.forall_mem_cons.mp hs2
    cases ht : Nat.beq t (ci + 1) with
    | false => rw [ht] at st; exact st.elim
    | true =>
      rw [ht] at st
      have e := Nat.eq_of_beq_eq_true ht
      subst e
      cases y with
      | zero => exact (st : False).elim
      | succ a =>
        have hka : K a = ci + 1 := (hy a rfl).1
        obtain ⟨q, hq⟩ := hb_at hB (a := a) (by omega) (by omega)
        rw [Fh_obj hka hk.2.2.1] at hq
        refine va_put (D := G.1) C.1 C.2.1 C.2.2.2.2.1 hin ty0 hty hnm C.2.2.2.1 hB.1 hB.2.1 hB.2.2.1 (vS_here hS) q hq hc k hk.1 (C.2.2.2.2.1 _ hw) (fun _ z => z) hk.2.2.2 (v := .int v) (hi ▸ hty k hk.1) rfl rfl (by rw [fls_len]; exact hk.2.1) hd (fun H1 locs1 hP1 hD1 hS1 => ?_)
        exact hn _ _ _ _ _ _ (st : nx _ _ _ _ _ _) h1 h2 K Ls H1 locs1 ls (hb_wfI hB hka hk.2.1 hk.2.2.1 hf hq hP1 hD1 hS1) (vS_trans hS hS1) hE hl hs3
  · exact st.elim
theorem k_piF {Cn : String} {T : u_T} {N : Nat} {ty0 : Nat → FieldType} (hin : ∀ w ∈ u_ws Cn T N, w ∈ lw_g) (hty : ∀ k, k < N → parseFieldDescriptor (T k).2.2.1 = some (ty0 k)) (hnm : ∀ a, a < N → ∀ b, b < N → a ≠ b → (T a).2.1 ≠ (T b).2.1) {ci k x : Nat} (hd : decode cc pc = .ok (.putfield x, 3)) (hc : vwCl[ci]? = some (Cn, T, N)) (hk : k < N ∧ k < nF ci ∧ ci < 8 ∧ (T k).2.2.2 = true ∧ ini = true) (hf : frt ci k = 0) (hw : Cond.fieldLink own x (T k).1 (T k).2.1 (T k).2.2.1 ∈ lw_g) (hi : ty0 k = .int := by rfl) (ho : (T k).1 = own := by rfl) : SOK own cc nL rt ini pc (s_pi (pc + 3) (ci + 1) (100 * ci + k)) := by
  intro p l e R s m args below meth c G K0 d mc ms kk Q C nx hn L S h cu su st h1 h2 K Ls H locs ls hB hS hE hl hs
  unfold s_pi at st
  split at st
  · next v t y S' =>
    obtain ⟨-, hs2⟩ := List.forall_mem_cons.mp hs
    obtain ⟨hy, hs3⟩ := List.forall_mem_cons.mp hs2
    cases ht : Nat.beq t (ci + 1) with
    | false => rw [ht] at st; exact st.elim
    | true =>
      rw [ht] at st
      have e := Nat.eq_of_beq_eq_true ht
      subst e
      cases y with
      | zero => exact (st : False).elim
      | succ a =>
        have hka : K a = ci + 1 := (hy a rfl).1
        obtain ⟨q, hq⟩ := hb_at hB (a := a) (by omega) (by omega)
        rw [Fh_obj hka hk.2.2.1] at hq
        refine va_putF (D := G.1) C.1 C.2.1 C.2.2.2.2.1 hin ty0 hty hnm C.2.2.2.1 hB.1 hB.2.1 hB.2.2.1 (vS_here hS) q hq hc k hk.1 (C.2.2.2.2.1 _ hw) (fun _ z => z) hk.2.2.2.1 (C.2.2.2.2.2.2.1 hk.2.2.2.2) ho (v := .int v) (hi ▸ hty k hk.1) rfl rfl (by rw [fls_len]; exact hk.2.1) hd (fun H1 locs1 hP1 hD1 hS1 => ?_)
        exact hn _ _ _ _ _ _ (st : nx _ _ _ _ _ _) h1 h2 K Ls H1 locs1 ls (hb_wfI hB hka hk.2.1 hk.2.2.1 hf hq hP1 hD1 hS1) (vS_trans hS hS1) hE hl hs3
  · exact st.elim
theorem k_pr {Cn : String} {T : u_T} {N : Nat} {ty0 : Nat → FieldType} (hin : ∀ w ∈ u_ws Cn T N, w ∈ lw_g) (hty : ∀ k, k < N → parseFieldDescriptor (T k).2.2.1 = some (ty0 k)) (hnm : ∀ a, a < N → ∀ b, b < N → a ≠ b → (T a).2.1 ≠ (T b).2.1) {ci k x r : Nat} (hd : decode cc pc = .ok (.putfield x, 3)) (hc : vwCl[ci]? = some (Cn, T, N)) (hk : k < N ∧ k < nF ci ∧ ci < 8 ∧ (T k).2.2.2 = false ∧ r ≠ 0) (hf : frt ci k = r) (hw : Cond.fieldLink own x (T k).1 (T k).2.1 (T k).2.2.1 ∈ lw_g) (hi : (∃ C, ty0 k = .object C) ∨ ∃ t, ty0 k = .array t := by first | exact Or.inl ⟨_, rfl⟩ | exact Or.inr ⟨_, rfl⟩) : SOK own cc nL rt ini pc (s_pr (pc + 3) (ci + 1) (100 * ci + k) r) := by
  intro p l e R s m args below meth c G K0 d mc ms kk Q C nx hn L S h cu su st h1 h2 K Ls H locs ls hB hS hE hl hs
  unfold s_pr at st
  split at st
  · next u v t y S' =>
    obtain ⟨hv, hs2⟩ := List.forall_mem_cons.mp hs
    obtain ⟨hy, hs3⟩ := List.forall_mem_cons.mp hs2
    cases ht : Nat.beq t (ci + 1) && Nat.beq u r with
    | false => rw [ht] at st; exact st.elim
    | true =>
      rw [ht] at st
      obtain ⟨e1, e2⟩ := Bool.and_eq_true_iff.mp ht
      have e := Nat.eq_of_beq_eq_true e1
      subst e
      have e := Nat.eq_of_beq_eq_true e2
      subst e
      cases y with
      | zero => exact (st : False).elim
      | succ a =>
        have hka : K a = ci + 1 := (hy a rfl).1
        obtain ⟨q, hq⟩ := hb_at hB (a := a) (by omega) (by omega)
        rw [Fh_obj hka hk.2.2.1] at hq
        have hv' : okr K (frt ci k) v := by rw [hf]; exact hv
        refine va_put (D := G.1) C.1 C.2.1 C.2.2.2.2.1 hin ty0 hty hnm C.2.2.2.1 hB.1 hB.2.1 hB.2.2.1 (vS_here hS) q hq hc k hk.1 (C.2.2.2.2.1 _ hw) (fun _ z => z) hk.2.2.2.1 (v := rv v) (hty k hk.1) (nar_ref hi v).1 (nar_ref hi v).2 (by rw [fls_len]; exact hk.2.1) hd (fun H1 locs1 hP1 hD1 hS1 => ?_)
        exact hn _ _ _ _ _ _ (st : nx _ _ _ _ _ _) h1 h2 K Ls H1 locs1 ls (hb_wfR hB hka hk.2.1 hk.2.2.1 (by rw [hf]; exact hk.2.2.2.2) hv' hq hP1 hD1 hS1) (vS_trans hS hS1) hE hl hs3
  · exact st.elim
theorem k_prF {Cn : String} {T : u_T} {N : Nat} {ty0 : Nat → FieldType} (hin : ∀ w ∈ u_ws Cn T N, w ∈ lw_g) (hty : ∀ k, k < N → parseFieldDescriptor (T k).2.2.1 = some (ty0 k)) (hnm : ∀ a, a < N → ∀ b, b < N → a ≠ b → (T a).2.1 ≠ (T b).2.1) {ci k x r : Nat} (hd : decode cc pc = .ok (.putfield x, 3)) (hc : vwCl[ci]? = some (Cn, T, N)) (hk : k < N ∧ k < nF ci ∧ ci < 8 ∧ ((T k).2.2.2 = true ∧ ini = true) ∧ r ≠ 0) (hf : frt ci k = r) (hw : Cond.fieldLink own x (T k).1 (T k).2.1 (T k).2.2.1 ∈ lw_g) (hi : (∃ C, ty0 k = .object C) ∨ ∃ t, ty0 k = .array t := by first | exact Or.inl ⟨_, rfl⟩ | exact Or.inr ⟨_, rfl⟩) (ho : (T k).1 = own := by rfl) : SOK own cc nL rt ini pc (s_pr (pc + 3) (ci + 1) (100 * ci + k) r) := by
  intro p l e R s m args below meth c G K0 d mc ms kk Q C nx hn L S h cu su st h1 h2 K Ls H locs ls hB hS hE hl hs
  unfold s_pr at st
  split at st
  · next u v t y S' =>
    obtain ⟨hv, hs2⟩ := List.forall_mem_cons.mp hs
    obtain ⟨hy, hs3⟩ := List.forall_mem_cons.mp hs2
    cases ht : Nat.beq t (ci + 1) && Nat.beq u r with
    | false => rw [ht] at st; exact st.elim
    | true =>
      rw [ht] at st
      obtain ⟨e1, e2⟩ := Bool.and_eq_true_iff.mp ht
      have e := Nat.eq_of_beq_eq_true e1
      subst e
      have e := Nat.eq_of_beq_eq_true e2
      subst e
      cases y with
      | zero => exact (st : False).elim
      | succ a =>
        have hka : K a = ci + 1 := (hy a rfl).1
        obtain ⟨q, hq⟩ := hb_at hB (a := a) (by omega) (by omega)
        rw [Fh_obj hka hk.2.2.1] at hq
        have hv' : okr K (frt ci k) v := by rw [hf]; exact hv
        refine va_putF (D := G.1) C.1 C.2.1 C.2.2.2.2.1 hin ty0 hty hnm C.2.2.2.1 hB.1 hB.2.1 hB.2.2.1 (vS_here hS) q hq hc k hk.1 (C.2.2.2.2.1 _ hw) (fun _ z => z) hk.2.2.2.1.1 (C.2.2.2.2.2.2.1 hk.2.2.2.1.2) ho (v := rv v) (hty k hk.1) (nar_ref hi v).1 (nar_ref hi v).2 (by rw [fls_len]; exact hk.2.1) hd (fun H1 locs1 hP1 hD1 hS1 => ?_)
        exact hn _ _ _ _ _ _ (st : nx _ _ _ _ _ _) h1 h2 K Ls H1 locs1 ls (hb_wfR hB hka hk.2.1 hk.2.2.1 (by rw [hf]; exact hk.2.2.2.2) hv' hq hP1 hD1 hS1) (vS_trans hS hS1) hE hl hs3
  · exact st.elim
end K2
end
section
/-! ===== ENGINE: arrays, new cells ===== -/
theorem ty_ext {K K' : Nat → Nat} {t x : Nat} (ht : t ≠ 0) (hE : Ext K K') (h : okr K t x) : okr K' t x := okr_ext hE h
theorem waI_o {h : hp} {a x : Nat} {g : Nat → Int32} (hx : x ≠ a) : haI (waI h a g) x = haI h x := va_up_ne _ _ hx
theorem waI_s {h : hp} {a : Nat} {g : Nat → Int32} : haI (waI h a g) a = g := va_up_self _ _ _
theorem waR_o {h : hp} {a x : Nat} {g : Nat → Nat} (hx : x ≠ a) : haR (waR h a g) x = haR h x := va_up_ne _ _ hx
theorem waR_s {h : hp} {a : Nat} {g : Nat → Nat} : haR (waR h a g) a = g := va_up_self _ _ _
theorem sx_waI {G : Gh} {K : Nat → Nat} {h : hp} {U : State} {H0 : Heap} {a : Nat} {g : Nat → Int32} (ha : K a ≠ 25) (hX : Sx G K h U H0) : Sx G K (waI h (a + 1) g) U H0 := by
  refine ⟨fun b hb => ?_, hX.2⟩
  have e : b ≠ a := fun q => ha (q ▸ hb)
  rw [waI_o (by omega)]
  exact hX.1 b hb
theorem hb_waI20 {G : Gh} {K : Nat → Nat} {Ls : List Nat} {h : hp} {U : State} {H H1 H0 : Heap} {a q : Nat} {g : Nat → Int32} {locs1 : List Loc} (hB : HB G K Ls h U H H0) (hka : K a = 20) (hq : (va_pl Ls (Fh G K h))[q]? = some (a, .inl (G.2.1 0, haL h (a + 1), .inl (haI h (a + 1)))))
    (hP : va_P G.1 vwCl ((va_pl Ls (Fh G K h)).set q (a, .inl (G.2.1 0, haL h (a + 1), .inl g))) H1) (hD : va_D (gA G) ((va_pl Ls (Fh G K h)).set q (a, .inl (G.2.1 0, haL h (a + 1), .inl g)))) (hS : va_S (gA G) H H1 locs1) : HB G K Ls (waI h (a + 1) g) U H1 H0 := by
  refine hb_wr hB (by omega) (by omega) (by rw [Fh_20 hka]; exact hq) hP hD hS ?_ ?_ rfl hB.2.2.2.2.2.1 (sx_waI (by omega) hB.2.2.2.2.2.2.1)
  · have := Fh_20 (G := G) (K := K) (h := waI h (a + 1) g) hka
    unfold Fh at this
    rw [this, waI_s]
    rfl
  · intro b hb _
    exact Fk_congr rfl (waI_o (by omega)) rfl (fun ci j => rfl)
theorem hb_waI21 {G : Gh} {K : Nat → Nat} {Ls : List Nat} {h : hp} {U : State} {H H1 H0 : Heap} {a q : Nat} {g : Nat → Int32} {locs1 : List Loc} (hB : HB G K Ls h U H H0) (hka : K a = 21) (hq : (va_pl Ls (Fh G K h))[q]? = some (a, .inl (G.2.1 1, haL h (a + 1), .inl (haI h (a + 1)))))
    (hP : va_P G.1 vwCl ((va_pl Ls (Fh G K h)).set q (a, .inl (G.2.1 1, haL h (a + 1), .inl g))) H1) (hD : va_D (gA G) ((va_pl Ls (Fh G K h)).set q (a, .inl (G.2.1 1, haL h (a + 1), .inl g)))) (hS : va_S (gA G) H H1 locs1) : HB G K Ls (waI h (a + 1) g) U H1 H0 := by
  refine hb_wr hB (by omega) (by omega) (by rw [Fh_21 hka]; exact hq) hP hD hS ?_ ?_ rfl hB.2.2.2.2.2.1 (sx_waI (by omega) hB.2.2.2.2.2.2.1)
  · have := Fh_21 (G := G) (K := K) (h := waI h (a + 1) g) hka
    unfold Fh at this
    rw [this, waI_s]
    rfl
  · intro b hb _
    exact Fk_congr rfl (waI_o (by omega)) rfl (fun ci j => rfl)
theorem dr_up (f : Nat → Nat) (i v : Nat) : va_up (fun j => dr (f j)) i (dr v) = fun j => dr (va_up f i v j) := by
  funext j
  unfold va_up
  split <;> rfl
section K3
variable {own : String} {cc : ByteArray} {nL : Nat} {rt : Option FieldType} {ini : Bool} {pc : Nat}
theorem k_iaload (hd : decode cc pc = .ok (.iaload, 1)) : SOK own cc nL rt ini pc (s_iald (pc + 1)) := by
  intro p l e R s m args below meth c G K0 d mc ms kk Q C nx hn L S h cu su st h1 h2 K Ls H locs ls hB hS hE hl hs
  unfold s_iald at st
  split at st
  · next i t y S' =>
    obtain ⟨hy, hs3⟩ := List.forall_mem_cons.mp (List.forall_mem_cons.mp hs).2
    cases ht : Nat.beq t 20 || Nat.beq t 25 with
    | false => rw [ht] at st; exact st.elim
    | true =>
      rw [ht] at st
      cases y with
      | zero => exact (st : False).elim
      | succ a =>
        have st : vp_in i (haL h (a + 1)) ∧ nx (pc + 1) L (.inl (haI h (a + 1) i.toNatClampNeg) :: S') h cu su := st
        have hka : K a = t := (hy a rfl).1
        have k := hn _ _ _ _ _ _ st.2 h1 h2 K Ls H locs ls hB hS hE hl (List.forall_mem_cons.mpr ⟨trivial, hs3⟩)
        rcases Bool.or_eq_true_iff.mp ht with e | e
        · have e := Nat.eq_of_beq_eq_true e
          subst e
          obtain ⟨q, hq⟩ := hb_at hB (a := a) (by omega) (by omega)
          rw [Fh_20 hka] at hq
          exact va_iald (D := G.1) C.1 C.2.1 hB.1 hB.2.1 q 0 hq rfl st.1 hd k
        · have e := Nat.eq_of_beq_eq_true e
          subst e
          exact va_ti C.1 C.2.1 (hB.2.2.2.2.2.2.1.1 a hka) hS st.1 rfl hd k
  · exact st.elim
theorem k_baload (hd : decode cc pc = .ok (.baload, 1)) : SOK own cc nL rt ini pc (s_zald (pc + 1)) := by
  intro p l e R s m args below meth c G K0 d mc ms kk Q C nx hn L S h cu su st h1 h2 K Ls H locs ls hB hS hE hl hs
  unfold s_zald at st
  split at st
  · next i t y S' =>
    obtain ⟨hy, hs3⟩ := List.forall_mem_cons.mp (List.forall_mem_cons.mp hs).2
    cases ht : Nat.beq t 21 with
    | false => rw [ht] at st; exact st.elim
    | true =>
      rw [ht] at st
      cases y with
      | zero => exact (st : False).elim
      | succ a =>
        have st : vp_in i (haL h (a + 1)) ∧ nx (pc + 1) L (.inl (haI h (a + 1) i.toNatClampNeg) :: S') h cu su := st
        have e := Nat.eq_of_beq_eq_true ht
        subst e
        have hka : K a = 21 := (hy a rfl).1
        obtain ⟨q, hq⟩ := hb_at hB (a := a) (by omega) (by omega)
        rw [Fh_21 hka] at hq
        exact va_zald (D := G.1) C.1 C.2.1 hB.1 hB.2.1 q 1 hq rfl st.1 hd (hn _ _ _ _ _ _ st.2 h1 h2 K Ls H locs ls hB hS hE hl (List.forall_mem_cons.mpr ⟨trivial, hs3⟩))
  · exact st.elim
theorem k_iastore (hd : decode cc pc = .ok (.iastore, 1)) : SOK own cc nL rt ini pc (s_iast (pc + 1)) := by
  intro p l e R s m args below meth c G K0 d mc ms kk Q C nx hn L S h cu su st h1 h2 K Ls H locs ls hB hS hE hl hs
  unfold s_iast at st
  split at st
  · next v i t y S' =>
    obtain ⟨hy, hs3⟩ := List.forall_mem_cons.mp (List.forall_mem_cons.mp (List.forall_mem_cons.mp hs).2).2
    cases ht : Nat.beq t 20 with
    | false => rw [ht] at st; exact st.elim
    | true =>
      rw [ht] at st
      cases y with
      | zero => exact (st : False).elim
      | succ a =>
        have st : vp_in i (haL h (a + 1)) ∧ nx (pc + 1) L S' (waI h (a + 1) (upd (haI h (a + 1)) i.toNatClampNeg v)) cu su := st
        have e := Nat.eq_of_beq_eq_true ht
        subst e
        have hka : K a = 20 := (hy a rfl).1
        obtain ⟨q, hq⟩ := hb_at hB (a := a) (by omega) (by omega)
        rw [Fh_20 hka] at hq
        exact va_iast (D := G.1) C.1 C.2.1 hB.1 hB.2.1 hB.2.2.1 (vS_here hS) q 0 hq rfl st.1 hd (fun H1 locs1 hP1 hD1 hS1 => hn _ _ _ _ _ _ st.2 h1 h2 K Ls H1 locs1 ls (hb_waI20 hB hka hq hP1 hD1 hS1) (vS_trans hS hS1) hE hl hs3)
  · exact st.elim
theorem k_bastore (hd : decode cc pc = .ok (.bastore, 1)) : SOK own cc nL rt ini pc (s_zast (pc + 1)) := by
  intro p l e R s m args below meth c G K0 d mc ms kk Q C nx hn L S h cu su st h1 h2 K Ls H locs ls hB hS hE hl hs
  unfold s_zast at st
  split at st
  · next v i t y S' =>
    obtain ⟨hy, hs3⟩ := List.forall_mem_cons.mp (List.forall_mem_cons.mp (List.forall_mem_cons.mp hs).2).2
    cases ht : Nat.beq t 21 with
    | false => rw [ht] at st; exact st.elim
    | true =>
      rw [ht] at st
      cases y with
      | zero => exact (st : False).elim
      | succ a =>
        have st : vp_in i (haL h (a + 1)) ∧ nx (pc + 1) L S' (waI h (a + 1) (upd (haI h (a + 1)) i.toNatClampNeg (vp_nar .boolean v))) cu su := st
        have e := Nat.eq_of_beq_eq_true ht
        subst e
        have hka : K a = 21 := (hy a rfl).1
        obtain ⟨q, hq⟩ := hb_at hB (a := a) (by omega) (by omega)
        rw [Fh_21 hka] at hq
        exact va_zast (D := G.1) C.1 C.2.1 hB.1 hB.2.1 hB.2.2.1 (vS_here hS) q 1 hq rfl st.1 hd (fun H1 locs1 hP1 hD1 hS1 => hn _ _ _ _ _ _ st.2 h1 h2 K Ls H1 locs1 ls (hb_waI21 hB hka hq hP1 hD1 hS1) (vS_trans hS hS1) hE hl hs3)
  · exact st.elim
theorem k_len (hd : decode cc pc = .ok (.arraylength, 1)) : SOK own cc nL rt ini pc (s_len (pc + 1)) := by
  intro p l e R s m args below meth c G K0 d mc ms kk Q C nx hn L S h cu su st h1 h2 K Ls H locs ls hB hS hE hl hs
  unfold s_len at st
  split at st
  · next t y S' =>
    obtain ⟨hy, hs3⟩ := List.forall_mem_cons.mp hs
    cases ht : Nat.beq t 20 with
    | false => rw [ht] at st; exact st.elim
    | true =>
      rw [ht] at st
      cases y with
      | zero => exact (st : False).elim
      | succ a =>
        have st : nx (pc + 1) L (.inl (nI (haL h (a + 1))) :: S') h cu su := st
        have e := Nat.eq_of_beq_eq_true ht
        subst e
        have hka : K a = 20 := (hy a rfl).1
        obtain ⟨q, hq⟩ := hb_at hB (a := a) (by omega) (by omega)
        rw [Fh_20 hka] at hq
        exact va_alen (D := G.1) C.1 C.2.1 hB.1 hB.2.1 q 0 hq rfl rfl hd (hn _ _ _ _ _ _ st h1 h2 K Ls H locs ls hB hS hE hl (List.forall_mem_cons.mpr ⟨trivial, hs3⟩))
  · exact st.elim
theorem hb_waR22 {G : Gh} {K : Nat → Nat} {Ls : List Nat} {h : hp} {U : State} {H H1 H0 : Heap} {a q i v : Nat} {locs1 : List Loc} (hB : HB G K Ls h U H H0) (hka : K a = 22) (hv : okr K 2 v) (hq : (va_pl Ls (Fh G K h))[q]? = some (a, .inl (G.2.1 2, haL h (a + 1), .inr (.inr (.inr (.inr (fun j => dr (haR h (a + 1) j))))))))
    (hP : va_P G.1 vwCl ((va_pl Ls (Fh G K h)).set q (a, .inl (G.2.1 2, haL h (a + 1), .inr (.inr (.inr (.inr (va_up (fun j => dr (haR h (a + 1) j)) i (dr v)))))))) H1) (hD : va_D (gA G) ((va_pl Ls (Fh G K h)).set q (a, .inl (G.2.1 2, haL h (a + 1), .inr (.inr (.inr (.inr (va_up (fun j => dr (haR h (a + 1) j)) i (dr v))))))))) (hS : va_S (gA G) H H1 locs1) : HB G K Ls (waR h (a + 1) (va_up (haR h (a + 1)) i v)) U H1 H0 := by
  obtain ⟨t1, t2, t3, t4⟩ := hB.2.2.2.2.2.1
  have ar : ∀ (c e : Nat), (c = 22 → okr K e v) → (∀ a j, K a = c → okr K e (haR h (a + 1) j)) → ∀ b j, K b = c → okr K e (haR (waR h (a + 1) (va_up (haR h (a + 1)) i v)) (b + 1) j) := by
    intro c e h1 h2 b j hb
    by_cases e1 : b = a
    · subst e1
      rw [waR_s]
      by_cases e2 : j = i
      · subst e2; rw [va_up_self]; exact h1 (by omega)
      · rw [va_up_ne _ _ e2]; exact h2 b j hb
    · rw [waR_o (by omega)]
      exact h2 b j hb
  refine hb_wr hB (by omega) (by omega) (by rw [Fh_22 hka]; exact hq) hP hD hS ?_ ?_ rfl ⟨t1, ar 22 2 (fun z => by first | exact hv | omega) t2, ar 23 4 (fun z => by first | exact hv | omega) t3, ar 24 6 (fun z => by first | exact hv | omega) t4⟩ hB.2.2.2.2.2.2.1
  · have := Fh_22 (G := G) (K := K) (h := waR h (a + 1) (va_up (haR h (a + 1)) i v)) hka
    unfold Fh at this
    rw [this, waR_s, dr_up]
    rfl
  · intro b hb _
    exact Fk_congr rfl rfl (waR_o (by omega)) (fun ci j => rfl)
theorem k_aaload22 (hd : decode cc pc = .ok (.aaload, 1)) : SOK own cc nL rt ini pc (s_aald (pc + 1) 22 2) := by
  intro p l e R s m args below meth c G K0 d mc ms kk Q C nx hn L S h cu su st h1 h2 K Ls H locs ls hB hS hE hl hs
  unfold s_aald at st
  split at st
  · next i t y S' =>
    obtain ⟨hy, hs3⟩ := List.forall_mem_cons.mp (List.forall_mem_cons.mp hs).2
    cases ht : Nat.beq t 22 with
    | false => rw [ht] at st; exact st.elim
    | true =>
      rw [ht] at st
      cases y with
      | zero => exact (st : False).elim
      | succ a =>
        have st : vp_in i (haL h (a + 1)) ∧ nx (pc + 1) L (.inr (.inr (2, haR h (a + 1) i.toNatClampNeg)) :: S') h cu su := st
        have e := Nat.eq_of_beq_eq_true ht
        subst e
        have hka : K a = 22 := (hy a rfl).1
        obtain ⟨q, hq⟩ := hb_at hB (a := a) (by omega) (by omega)
        rw [Fh_22 hka] at hq
        refine va_aldq (D := G.1) C.1 C.2.1 hB.1 hB.2.1 q 2 hq rfl st.1 hd ?_
        rw [rf_dr]
        exact hn _ _ _ _ _ _ st.2 h1 h2 K Ls H locs ls hB hS hE hl (List.forall_mem_cons.mpr ⟨hB.2.2.2.2.2.1.2.1 a _ hka, hs3⟩)
  · exact st.elim
theorem k_aastore22 (hd : decode cc pc = .ok (.aastore, 1)) : SOK own cc nL rt ini pc (s_aast (pc + 1) 22 2) := by
  intro p l e R s m args below meth c G K0 d mc ms kk Q C nx hn L S h cu su st h1 h2 K Ls H locs ls hB hS hE hl hs
  unfold s_aast at st
  split at st
  · next u v i t y S' =>
    obtain ⟨hv, hs2⟩ := List.forall_mem_cons.mp hs
    obtain ⟨hy, hs3⟩ := List.forall_mem_cons.mp (List.forall_mem_cons.mp hs2).2
    cases ht : Nat.beq t 22 && (Nat.beq u 2 || Nat.beq v 0) with
    | false => rw [ht] at st; exact st.elim
    | true =>
      rw [ht] at st
      obtain ⟨e1, e2⟩ := Bool.and_eq_true_iff.mp ht
      cases y with
      | zero => exact (st : False).elim
      | succ a =>
        have st : vp_in i (haL h (a + 1)) ∧ nx (pc + 1) L S' (waR h (a + 1) (va_up (haR h (a + 1)) i.toNatClampNeg v)) cu su := st
        have e := Nat.eq_of_beq_eq_true e1
        subst e
        have hka : K a = 22 := (hy a rfl).1
        obtain ⟨q, hq⟩ := hb_at hB (a := a) (by omega) (by omega)
        rw [Fh_22 hka] at hq
        cases v with
        | zero => exact va_astqN (D := G.1) C.1 C.2.1 hB.1 hB.2.1 hB.2.2.1 (vS_here hS) q 2 hq rfl st.1 hd (fun H1 locs1 hP1 hD1 hS1 => hn _ _ _ _ _ _ st.2 h1 h2 K Ls H1 locs1 ls (hb_waR22 (v := 0) hB hka (fun b hb => by omega) hq hP1 hD1 hS1) (vS_trans hS hS1) hE hl hs3)
        | succ v =>
          have e3 : u = 2 := by
            rcases Bool.or_eq_true_iff.mp e2 with z | z
            · exact Nat.eq_of_beq_eq_true z
            · cases z
          subst e3
          have hkv : K v = 2 := (hv v rfl).1
          obtain ⟨qv, hqv⟩ := hb_at hB (a := v) (by omega) (by omega)
          rw [Fh_obj (ci := 1) hkv (by decide)] at hqv
          exact va_astq (D := G.1) C.1 C.2.1 hB.1 hB.2.1 hB.2.2.1 (vS_here hS) q 2 qv 1 (r := (RX1, TX1, nF 1)) hq rfl hqv rfl st.1 hd (fun H1 locs1 hP1 hD1 hS1 => hn _ _ _ _ _ _ st.2 h1 h2 K Ls H1 locs1 ls (hb_waR22 (v := v + 1) hB hka hv hq hP1 hD1 hS1) (vS_trans hS hS1) hE hl hs3)
  · exact st.elim
theorem hb_waR23 {G : Gh} {K : Nat → Nat} {Ls : List Nat} {h : hp} {U : State} {H H1 H0 : Heap} {a q i v : Nat} {locs1 : List Loc} (hB : HB G K Ls h U H H0) (hka : K a = 23) (hv : okr K 4 v) (hq : (va_pl Ls (Fh G K h))[q]? = some (a, .inl (G.2.1 3, haL h (a + 1), .inr (.inr (.inr (.inr (fun j => dr (haR h (a + 1) j))))))))
    (hP : va_P G.1 vwCl ((va_pl Ls (Fh G K h)).set q (a, .inl (G.2.1 3, haL h (a + 1), .inr (.inr (.inr (.inr (va_up (fun j => dr (haR h (a + 1) j)) i (dr v)))))))) H1) (hD : va_D (gA G) ((va_pl Ls (Fh G K h)).set q (a, .inl (G.2.1 3, haL h (a + 1), .inr (.inr (.inr (.inr (va_up (fun j => dr (haR h (a + 1) j)) i (dr v))))))))) (hS : va_S (gA G) H H1 locs1) : HB G K Ls (waR h (a + 1) (va_up (haR h (a + 1)) i v)) U H1 H0 := by
  obtain ⟨t1, t2, t3, t4⟩ := hB.2.2.2.2.2.1
  have ar : ∀ (c e : Nat), (c = 23 → okr K e v) → (∀ a j, K a = c → okr K e (haR h (a + 1) j)) → ∀ b j, K b = c → okr K e (haR (waR h (a + 1) (va_up (haR h (a + 1)) i v)) (b + 1) j) := by
    intro c e h1 h2 b j hb
    by_cases e1 : b = a
    · subst e1
      rw [waR_s]
      by_cases e2 : j = i
      · subst e2; rw [va_up_self]; exact h1 (by omega)
      · rw [va_up_ne _ _ e2]; exact h2 b j hb
    · rw [waR_o (by omega)]
      exact h2 b j hb
  refine hb_wr hB (by omega) (by omega) (by rw [Fh_23 hka]; exact hq) hP hD hS ?_ ?_ rfl ⟨t1, ar 22 2 (fun z => by first | exact hv | omega) t2, ar 23 4 (fun z => by first | exact hv | omega) t3, ar 24 6 (fun z => by first | exact hv | omega) t4⟩ hB.2.2.2.2.2.2.1
  · have := Fh_23 (G := G) (K := K) (h := waR h (a + 1) (va_up (haR h (a + 1)) i v)) hka
    unfold Fh at this
    rw [this, waR_s, dr_up]
    rfl
  · intro b hb _
    exact Fk_congr rfl rfl (waR_o (by omega)) (fun ci j => rfl)
theorem k_aaload23 (hd : decode cc pc = .ok (.aaload, 1)) : SOK own cc nL rt ini pc (s_aald (pc + 1) 23 4) := by
  intro p l e R s m args below meth c G K0 d mc ms kk Q C nx hn L S h cu su st h1 h2 K Ls H locs ls hB hS hE hl hs
  unfold s_aald at st
  split at st
  · next i t y S' =>
    obtain ⟨hy, hs3⟩ := List.forall_mem_cons.mp (List.forall_mem_cons.mp hs).2
    cases ht : Nat.beq t 23 with
    | false => rw [ht] at st; exact st.elim
    | true =>
      rw [ht] at st
      cases y with
      | zero => exact (st : False).elim
      | succ a =>
        have st : vp_in i (haL h (a + 1)) ∧ nx (pc + 1) L (.inr (.inr (4, haR h (a + 1) i.toNatClampNeg)) :: S') h cu su := st
        have e := Nat.eq_of_beq_eq_true ht
        subst e
        have hka : K a = 23 := (hy a rfl).1
        obtain ⟨q, hq⟩ := hb_at hB (a := a) (by omega) (by omega)
        rw [Fh_23 hka] at hq
        refine va_aldq (D := G.1) C.1 C.2.1 hB.1 hB.2.1 q 3 hq rfl st.1 hd ?_
        rw [rf_dr]
        exact hn _ _ _ _ _ _ st.2 h1 h2 K Ls H locs ls hB hS hE hl (List.forall_mem_cons.mpr ⟨hB.2.2.2.2.2.1.2.2.1 a _ hka, hs3⟩)
  · exact st.elim
theorem k_aastore23 (hd : decode cc pc = .ok (.aastore, 1)) : SOK own cc nL rt ini pc (s_aast (pc + 1) 23 4) := by
  intro p l e R s m args below meth c G K0 d mc ms kk Q C nx hn L S h cu su st h1 h2 K Ls H locs ls hB hS hE hl hs
  unfold s_aast at st
  split at st
  · next u v i t y S' =>
    obtain ⟨hv, hs2⟩ := List.forall_mem_cons.mp hs
    obtain ⟨hy, hs3⟩ := List.forall_mem_cons.mp (List.forall_mem_cons.mp hs2).2
    cases ht : Nat.beq t 23 && (Nat.beq u 4 || Nat.beq v 0) with
    | false => rw [ht] at st; exact st.elim
    | true =>
      rw [ht] at st
      obtain ⟨e1, e2⟩ := Bool.and_eq_true_iff.mp ht
      cases y with
      | zero => exact (st : False).elim
      | succ a =>
        have st : vp_in i (haL h (a + 1)) ∧ nx (pc + 1) L S' (waR h (a + 1) (va_up (haR h (a + 1)) i.toNatClampNeg v)) cu su := st
        have e := Nat.eq_of_beq_eq_true e1
        subst e
        have hka : K a = 23 := (hy a rfl).1
        obtain ⟨q, hq⟩ := hb_at hB (a := a) (by omega) (by omega)
        rw [Fh_23 hka] at hq
        cases v with
        | zero => exact va_astqN (D := G.1) C.1 C.2.1 hB.1 hB.2.1 hB.2.2.1 (vS_here hS) q 3 hq rfl st.1 hd (fun H1 locs1 hP1 hD1 hS1 => hn _ _ _ _ _ _ st.2 h1 h2 K Ls H1 locs1 ls (hb_waR23 (v := 0) hB hka (fun b hb => by omega) hq hP1 hD1 hS1) (vS_trans hS hS1) hE hl hs3)
        | succ v =>
          have e3 : u = 4 := by
            rcases Bool.or_eq_true_iff.mp e2 with z | z
            · exact Nat.eq_of_beq_eq_true z
            · cases z
          subst e3
          have hkv : K v = 4 := (hv v rfl).1
          obtain ⟨qv, hqv⟩ := hb_at hB (a := v) (by omega) (by omega)
          rw [Fh_obj (ci := 3) hkv (by decide)] at hqv
          exact va_astq (D := G.1) C.1 C.2.1 hB.1 hB.2.1 hB.2.2.1 (vS_here hS) q 3 qv 3 (r := (RX3, TX3, nF 3)) hq rfl hqv rfl st.1 hd (fun H1 locs1 hP1 hD1 hS1 => hn _ _ _ _ _ _ st.2 h1 h2 K Ls H1 locs1 ls (hb_waR23 (v := v + 1) hB hka hv hq hP1 hD1 hS1) (vS_trans hS hS1) hE hl hs3)
  · exact st.elim
theorem hb_waR24 {G : Gh} {K : Nat → Nat} {Ls : List Nat} {h : hp} {U : State} {H H1 H0 : Heap} {a q i v : Nat} {locs1 : List Loc} (hB : HB G K Ls h U H H0) (hka : K a = 24) (hv : okr K 6 v) (hq : (va_pl Ls (Fh G K h))[q]? = some (a, .inl (G.2.1 4, haL h (a + 1), .inr (.inr (.inr (.inr (fun j => dr (haR h (a + 1) j))))))))
    (hP : va_P G.1 vwCl ((va_pl Ls (Fh G K h)).set q (a, .inl (G.2.1 4, haL h (a + 1), .inr (.inr (.inr (.inr (va_up (fun j => dr (haR h (a + 1) j)) i (dr v)))))))) H1) (hD : va_D (gA G) ((va_pl Ls (Fh G K h)).set q (a, .inl (G.2.1 4, haL h (a + 1), .inr (.inr (.inr (.inr (va_up (fun j => dr (haR h (a + 1) j)) i (dr v))))))))) (hS : va_S (gA G) H H1 locs1) : HB G K Ls (waR h (a + 1) (va_up (haR h (a + 1)) i v)) U H1 H0 := by
  obtain ⟨t1, t2, t3, t4⟩ := hB.2.2.2.2.2.1
  have ar : ∀ (c e : Nat), (c = 24 → okr K e v) → (∀ a j, K a = c → okr K e (haR h (a + 1) j)) → ∀ b j, K b = c → okr K e (haR (waR h (a + 1) (va_up (haR h (a + 1)) i v)) (b + 1) j) := by
    intro c e h1 h2 b j hb
    by_cases e1 : b = a
    · subst e1
      rw [waR_s]
      by_cases e2 : j = i
      · subst e2; rw [va_up_self]; exact h1 (by omega)
      · rw [va_up_ne _ _ e2]; exact h2 b j hb
    · rw [waR_o (by omega)]
      exact h2 b j hb
  refine hb_wr hB (by omega) (by omega) (by rw [Fh_24 hka]; exact hq) hP hD hS ?_ ?_ rfl ⟨t1, ar 22 2 (fun z => by first | exact hv | omega) t2, ar 23 4 (fun z => by first | exact hv | omega) t3, ar 24 6 (fun z => by first | exact hv | omega) t4⟩ hB.2.2.2.2.2.2.1
  · have := Fh_24 (G := G) (K := K) (h := waR h (a + 1) (va_up (haR h (a + 1)) i v)) hka
    unfold Fh at this
    rw [this, waR_s, dr_up]
    rfl
  · intro b hb _
    exact Fk_congr rfl rfl (waR_o (by omega)) (fun ci j => rfl)
theorem k_aaload24 (hd : decode cc pc = .ok (.aaload, 1)) : SOK own cc nL rt ini pc (s_aald (pc + 1) 24 6) := by
  intro p l e R s m args below meth c G K0 d mc ms kk Q C nx hn L S h cu su st h1 h2 K Ls H locs ls hB hS hE hl hs
  unfold s_aald at st
  split at st
  · next i t y S' =>
    obtain ⟨hy, hs3⟩ := List.forall_mem_cons.mp (List.forall_mem_cons.mp hs).2
    cases ht : Nat.beq t 24 with
    | false => rw [ht] at st; exact st.elim
    | true =>
      rw [ht] at st
      cases y with
      | zero => exact (st : False).elim
      | succ a =>
        have st : vp_in i (haL h (a + 1)) ∧ nx (pc + 1) L (.inr (.inr (6, haR h (a + 1) i.toNatClampNeg)) :: S') h cu su := st
        have e := Nat.eq_of_beq_eq_true ht
        subst e
        have hka : K a = 24 := (hy a rfl).1
        obtain ⟨q, hq⟩ := hb_at hB (a := a) (by omega) (by omega)
        rw [Fh_24 hka] at hq
        refine va_aldq (D := G.1) C.1 C.2.1 hB.1 hB.2.1 q 4 hq rfl st.1 hd ?_
        rw [rf_dr]
        exact hn _ _ _ _ _ _ st.2 h1 h2 K Ls H locs ls hB hS hE hl (List.forall_mem_cons.mpr ⟨hB.2.2.2.2.2.1.2.2.2 a _ hka, hs3⟩)
  · exact st.elim
theorem k_aastore24 (hd : decode cc pc = .ok (.aastore, 1)) : SOK own cc nL rt ini pc (s_aast (pc + 1) 24 6) := by
  intro p l e R s m args below meth c G K0 d mc ms kk Q C nx hn L S h cu su st h1 h2 K Ls H locs ls hB hS hE hl hs
  unfold s_aast at st
  split at st
  · next u v i t y S' =>
    obtain ⟨hv, hs2⟩ := List.forall_mem_cons.mp hs
    obtain ⟨hy, hs3⟩ := List.forall_mem_cons.mp (List.forall_mem_cons.mp hs2).2
    cases ht : Nat.beq t 24 && (Nat.beq u 6 || Nat.beq v 0) with
    | false => rw [ht] at st; exact st.elim
    | true =>
      rw [ht] at st
      obtain ⟨e1, e2⟩ := Bool.and_eq_true_iff.mp ht
      cases y with
      | zero => exact (st : False).elim
      | succ a =>
        have st : vp_in i (haL h (a + 1)) ∧ nx (pc + 1) L S' (waR h (a + 1) (va_up (haR h (a + 1)) i.toNatClampNeg v)) cu su := st
        have e := Nat.eq_of_beq_eq_true e1
        subst e
        have hka : K a = 24 := (hy a rfl).1
        obtain ⟨q, hq⟩ := hb_at hB (a := a) (by omega) (by omega)
        rw [Fh_24 hka] at hq
        cases v with
        | zero => exact va_astqN (D := G.1) C.1 C.2.1 hB.1 hB.2.1 hB.2.2.1 (vS_here hS) q 4 hq rfl st.1 hd (fun H1 locs1 hP1 hD1 hS1 => hn _ _ _ _ _ _ st.2 h1 h2 K Ls H1 locs1 ls (hb_waR24 (v := 0) hB hka (fun b hb => by omega) hq hP1 hD1 hS1) (vS_trans hS hS1) hE hl hs3)
        | succ v =>
          have e3 : u = 6 := by
            rcases Bool.or_eq_true_iff.mp e2 with z | z
            · exact Nat.eq_of_beq_eq_true z
            · cases z
          subst e3
          have hkv : K v = 6 := (hv v rfl).1
          obtain ⟨qv, hqv⟩ := hb_at hB (a := v) (by omega) (by omega)
          rw [Fh_obj (ci := 5) hkv (by decide)] at hqv
          exact va_astq (D := G.1) C.1 C.2.1 hB.1 hB.2.1 hB.2.2.1 (vS_here hS) q 4 qv 5 (r := (RX5, TX5, nF 5)) hq rfl hqv rfl st.1 hd (fun H1 locs1 hP1 hD1 hS1 => hn _ _ _ _ _ _ st.2 h1 h2 K Ls H1 locs1 ls (hb_waR24 (v := v + 1) hB hka hv hq hP1 hD1 hS1) (vS_trans hS hS1) hE hl hs3)
  · exact st.elim
theorem k_gs {f x : Nat} {nm : String} (hd : decode cc pc = .ok (.getstatic x, 3)) (hw : Cond.fieldLink own x "ChalkCastle" nm "[I" ∈ lw_g) (hf : ∀ (G : Gh) (K : Nat → Nat) (h : hp) (U : State) (H : Heap), Sx G K h U H → Sx1 G K h U H f nm) : SOK own cc nL rt ini pc (s_gs (pc + 3) f) := by
  intro p l e R s m args below meth c G K0 d mc ms kk Q C nx hn L S h cu su st h1 h2 K Ls H locs ls hB hS hE hl hs
  obtain ⟨t, e1, e2, e3⟩ := hf _ _ _ _ _ hB.2.2.2.2.2.2.1
  have st : nx (pc + 3) L (.inr (.inr (25, hfR h f 0)) :: S) h cu su := st
  rw [e1] at st
  exact va_gets C.1 C.2.1 e3 hS C.2.2.2.1 (C.2.2.2.2.1 _ hw) (fun _ z => z) hd (hn _ _ _ _ _ _ st h1 h2 K Ls H locs ls hB hS hE hl (List.forall_mem_cons.mpr ⟨fun b hb => by cases hb; exact ⟨e2, by decide⟩, hs⟩))
theorem k_gs_IS_TOO {x : Nat} (hd : decode cc pc = .ok (.getstatic x, 3)) (hw : Cond.fieldLink own x "ChalkCastle" "IS_TOO" "[I" ∈ lw_g) : SOK own cc nL rt ini pc (s_gs (pc + 3) 9001) := k_gs hd hw (fun _ _ _ _ _ h => h.2.1)
theorem k_gs_SIZE_BODIES {x : Nat} (hd : decode cc pc = .ok (.getstatic x, 3)) (hw : Cond.fieldLink own x "ChalkCastle" "SIZE_BODIES" "[I" ∈ lw_g) : SOK own cc nL rt ini pc (s_gs (pc + 3) 9002) := k_gs hd hw (fun _ _ _ _ _ h => h.2.2.1)
theorem k_gs_MARK_BODIES {x : Nat} (hd : decode cc pc = .ok (.getstatic x, 3)) (hw : Cond.fieldLink own x "ChalkCastle" "MARK_BODIES" "[I" ∈ lw_g) : SOK own cc nL rt ini pc (s_gs (pc + 3) 9003) := k_gs hd hw (fun _ _ _ _ _ h => h.2.2.2)
end K3
/-- a new cell: the heap behind it -/
theorem hb_new {G : Gh} {K : Nat → Nat} {Ls : List Nat} {h h' : hp} {U : State} {H H1 H0 : Heap} {t : Nat} (hB : HB G K Ls h U H H0) (hH0 : H0.size ≤ H.size) (ht : t ≠ 0 ∧ t ≠ 25) (z1 : H1.size = H.size + 1) (o1 : ∀ q : Nat, q < H.size → H1[q]? = H[q]?) (hcell : va_at G.1 vwCl (H.size, Fk G h' H.size t) H1)
    (ho : ∀ b, b ≠ H.size → Fk G h' b (K b) = Fk G h b (K b)) (hz' : hz h' = H.size + 2) (hT : Ty (va_up K H.size t) h') (hX : ∀ b, b ≠ H.size → haL h' (b + 1) = haL h (b + 1) ∧ haI h' (b + 1) = haI h (b + 1)) (hR : ∀ f, hfR h' f 0 = hfR h f 0) :
    HB G (va_up K H.size t) (Ls ++ [H.size]) h' U H1 H0 ∧ Ext K (va_up K H.size t) := by
  obtain ⟨b1, b2, b3, b4, b5, b6, b7, b8⟩ := hB
  have hK0 : K H.size = 0 := by
    by_cases q : K H.size = 0
    · exact q
    · have := b4.2.2 _ q; have := b4.1; omega
  have hnot : H.size ∉ Ls := fun q => ((b5 _).mp q).1 hK0
  have e1 : va_pl (Ls ++ [H.size]) (Fh G (va_up K H.size t) h') = va_pl Ls (Fh G K h) ++ [(H.size, Fk G h' H.size t)] := by
    rw [va_pl_push hnot]
    apply va_pl_congr
    intro b
    unfold Fh
    by_cases q : b = H.size
    · subst q
      rw [va_up_self, va_up_self]
    · rw [va_up_ne _ _ q, va_up_ne _ _ q]
      exact ho b q
  have hP1 : va_P G.1 vwCl (va_pl Ls (Fh G K h)) H1 := b2.kept (fun k x hx => o1 x.1 ((b2 k x hx).lt))
  refine ⟨⟨b1, ?_, ?_, ⟨by omega, b4.2.1, fun a ha => ?_⟩, fun a => ?_, hT, ⟨fun b hb => ?_, ?_⟩, b8⟩, ?_⟩
  · rw [e1]
    refine hP1.app (fun k x hx => ?_)
    have hz : k < 1 := (List.getElem?_eq_some_iff.mp hx).1
    rw [show k = 0 by omega] at hx
    cases hx
    exact hcell
  · rw [e1]
    exact b3.push b2 rfl (Nat.le_trans b4.2.1 hH0)
  · by_cases q : a = H.size
    · omega
    · rw [va_up_ne _ _ q] at ha
      have := b4.2.2 a ha; have := b4.1; omega
  · rw [List.mem_append, List.mem_singleton]
    by_cases q : a = H.size
    · subst q
      rw [va_up_self]
      exact ⟨fun _ => ht, fun _ => Or.inr rfl⟩
    · rw [va_up_ne _ _ q]
      exact ⟨fun z => z.elim (fun z => (b5 a).mp z) (fun z => absurd z q), fun z => Or.inl ((b5 a).mpr z)⟩
  · have q : b ≠ H.size := by
      intro q
      subst q
      rw [va_up_self] at hb
      exact ht.2 hb
    rw [va_up_ne _ _ q] at hb
    rw [(hX b q).1, (hX b q).2]
    exact b7.1 b hb
  · obtain ⟨⟨y1, a1, a2, a3⟩, ⟨y2, c1, c2, c3⟩, ⟨y3, d1, d2, d3⟩⟩ := b7.2
    have g : ∀ y, K y = 25 → va_up K H.size t y = 25 := fun y hy => by rw [va_up_ne _ _ (fun q => by subst q; omega)]; exact hy
    exact ⟨⟨y1, by rw [hR]; exact a1, g _ a2, a3⟩, ⟨y2, by rw [hR]; exact c1, g _ c2, c3⟩, ⟨y3, by rw [hR]; exact d1, g _ d2, d3⟩⟩
  · intro a ha
    exact va_up_ne _ _ (fun q => ha (by rw [q]; exact hK0))
theorem warr_o {h : hp} {x n y : Nat} (hy : y ≠ x) : haL (warr h x n) y = haL h y ∧ haI (warr h x n) y = haI h y ∧ haR (warr h x n) y = haR h y := ⟨va_up_ne _ _ hy, va_up_ne _ _ hy, va_up_ne _ _ hy⟩
theorem ty_warr {K : Nat → Nat} {h : hp} {a n t : Nat} (hT : Ty K h) (hK0 : K a = 0) (ht : 20 ≤ t) : Ty (va_up K a t) (warr h (a + 1) n) := by
  obtain ⟨t1, t2, t3, t4⟩ := hT
  have hE : Ext K (va_up K a t) := fun b hb => va_up_ne _ _ (fun q => hb (by rw [q]; exact hK0))
  have hb0 : ∀ b c, c ≠ t → va_up K a t b = c → b ≠ a ∧ K b = c := by
    intro b c hc hb
    by_cases q : b = a
    · subst q
      rw [va_up_self] at hb
      exact absurd hb.symm hc
    · rw [va_up_ne _ _ q] at hb
      exact ⟨q, hb⟩
  have arr : ∀ (c e : Nat), e ≠ 0 → (∀ a j, K a = c → okr K e (haR h (a + 1) j)) → ∀ b j, va_up K a t b = c → okr (va_up K a t) e (haR (warr h (a + 1) n) (b + 1) j) := by
    intro c e he hc b j hb
    by_cases q : b = a
    · subst q
      show okr _ e (va_up h.2.2.2.2.1 (b + 1) (fun _ => 0) (b + 1) j)
      rw [va_up_self]
      intro z hz; omega
    · rw [va_up_ne _ _ q] at hb
      rw [(warr_o (h := h) (n := n) (show b + 1 ≠ a + 1 by omega)).2.2]
      exact ty_ext he hE (hc b j hb)
  refine ⟨fun b ci k hb hk => ?_, arr 22 2 (by omega) t2, arr 23 4 (by omega) t3, arr 24 6 (by omega) t4⟩
  by_cases q : b = a
  · subst q
    rw [va_up_self] at hb
    exfalso
    apply hk
    have : 8 ≤ ci := by omega
    unfold frt
    have e : frT[ci]? = none := List.getElem?_eq_none (show 8 ≤ ci from this)
    rw [e]
    rfl
  · rw [va_up_ne _ _ q] at hb
    exact ty_ext hk hE (t1 b ci k hb hk)
theorem wobj_o {h : hp} {x y ci j : Nat} (hy : y ≠ x) : fval (wobj h x) y ci j = fval h y ci j := by
  unfold fval
  show (if frt ci j = 0 then Value.int (if y = x then 0 else h.1 _ y) else rv (if y = x then 0 else h.2.1 _ y)) = _
  rw [if_neg hy, if_neg hy]
  rfl
theorem ty_wobj {K : Nat → Nat} {h : hp} {a t : Nat} (hT : Ty K h) (hK0 : K a = 0) (ht : t < 20) : Ty (va_up K a t) (wobj h (a + 1)) := by
  obtain ⟨t1, t2, t3, t4⟩ := hT
  have hE : Ext K (va_up K a t) := fun b hb => va_up_ne _ _ (fun q => hb (by rw [q]; exact hK0))
  have arr : ∀ (c e : Nat), 20 ≤ c → e ≠ 0 → (∀ a j, K a = c → okr K e (haR h (a + 1) j)) → ∀ b j, va_up K a t b = c → okr (va_up K a t) e (haR (wobj h (a + 1)) (b + 1) j) := by
    intro c e hc0 he hc b j hb
    by_cases q : b = a
    · subst q
      rw [va_up_self] at hb
      omega
    · rw [va_up_ne _ _ q] at hb
      exact ty_ext he hE (hc b j hb)
  refine ⟨fun b ci k hb hk => ?_, arr 22 2 (by omega) (by omega) t2, arr 23 4 (by omega) (by omega) t3, arr 24 6 (by omega) (by omega) t4⟩
  show okr _ _ (if b + 1 = a + 1 then 0 else h.2.1 _ (b + 1))
  by_cases q : b = a
  · rw [if_pos (by omega)]
    intro z hz; omega
  · rw [va_up_ne _ _ q] at hb
    rw [if_neg (by omega)]
    exact ty_ext hk hE (t1 b ci k hb hk)
section K4
variable {own : String} {cc : ByteArray} {nL : Nat} {rt : Option FieldType} {ini : Bool} {pc : Nat}
theorem hb_K0 {G : Gh} {K : Nat → Nat} {Ls : List Nat} {h : hp} {U : State} {H H0 : Heap} (hB : HB G K Ls h U H H0) : K H.size = 0 := by
  by_cases q : K H.size = 0
  · exact q
  · have := hB.2.2.2.1.2.2 _ q; have := hB.2.2.2.1.1; omega
theorem i1000 {k : Int32} (h0 : ¬ k < 0) (h1 : k ≤ 1000) : k.toNatClampNeg ≤ 1000 := by
  obtain ⟨j, hj, rfl⟩ := nI_of2 (n := 1000) (by decide) h0 h1
  rw [nI_clamp (by omega)]
  exact hj
theorem k_newp {t : Nat} {ix : Nat} {at' : ArrayType} {ty : FieldType} (hd : decode cc pc = .ok (.newarray at', 2)) (hty : newarray.typeOf at' = ty) (htr : ∀ U cA, va_RA U cA ty = (U.vm.findClass ("[" ++ ty.toString) = some cA)) (hw : Cond.arrayClass ty ∈ lw_g) (hix : ∀ G, (gty G)[ix]? = some (G.2.1 ix, ty)) (ht : 20 ≤ t ∧ t ≠ 25) (hb : componentBytes ty ≤ 8) (hdv : defaultValue ty = .int 0)
    (hF : ∀ (G : Gh) (h : hp) (a : Nat), Fk G h a t = .inl (G.2.1 ix, haL h (a + 1), .inl (haI h (a + 1)))) : SOK own cc nL rt ini pc (s_newa (pc + 2) t) := by
  intro p l e R s m args below meth c G K0 d mc ms kk Q C nx hn L S h cu su st h1 h2 K Ls H locs ls hB hS hE hl hs
  unfold s_newa at st
  split at st
  · next k S' =>
    obtain ⟨⟨g1, g2⟩, ⟨g3, g4⟩, st⟩ := st
    have hs2 := (List.forall_mem_cons.mp hs).2
    have hk := i1000 g1 g2
    subst hty
    refine va_newaK C.1 C.2.1 (C.2.2.2.2.1 _ hw) rfl hd rfl g1 rfl (Nat.le_trans (Nat.mul_le_mul hk hb) (by decide)) (Nat.le_trans g3 C.2.2.2.2.2.1.2.2.1) (Nat.le_trans g4 C.2.2.2.2.2.1.2.2.2) rfl (fun H1 cA e1 z1 o1 hAr hNm => ?_)
    have hcA : cA = G.2.1 ix := by
      have := (hB.1.2 ix _ (hix G)).2
      rw [htr] at this
      exact Option.some.inj (hNm.symm.trans this)
    have hK0 := hb_K0 hB
    obtain ⟨n1, n2⟩ := hb_new (h' := warr h (H.size + 1) k.toNatClampNeg) (t := t) hB hS.1 ⟨by omega, ht.2⟩ z1 o1 (by
        rw [hF]
        show H1[H.size]? = some (vp_cell (G.2.1 ix) (va_up h.2.2.2.1 (H.size + 1) k.toNatClampNeg (H.size + 1), .inl (va_up h.2.2.1 (H.size + 1) (fun _ => 0) (H.size + 1))))
        rw [va_up_self, va_up_self, e1, hcA, hdv]
        rfl) (fun b hb => by
        have w := warr_o (h := h) (n := k.toNatClampNeg) (show b + 1 ≠ H.size + 1 by omega)
        exact Fk_congr w.1 w.2.1 w.2.2 (fun _ _ => rfl)) rfl (ty_warr hB.2.2.2.2.2.1 hK0 ht.1) (fun b hb => by
        have w := warr_o (h := h) (n := k.toNatClampNeg) (show b + 1 ≠ H.size + 1 by omega)
        exact ⟨w.1, w.2.1⟩) (fun _ => rfl)
    have hok : ∀ v, okv K v → okv (va_up K H.size t) v := fun v hv => okv_ext n2 hv
    exact hn _ _ _ _ _ _ (st (H.size + 1) hB.2.2.2.1.1) (by omega) (by omega) _ _ H1 locs ls n1 ⟨Nat.le_trans hS.1 (by omega), fun x q1 q2 => (o1 x (Nat.lt_of_lt_of_le q1 hS.1)).trans (hS.2.1 x q1 q2), hS.2.2⟩ (hE.tr n2) (lrel_ext hok hl) (List.forall_mem_cons.mpr ⟨fun b hb => by cases hb; exact ⟨va_up_self _ _ _, by omega⟩, fun v hv => hok v (hs2 v hv)⟩)
  · exact st.elim
end K4
end
section
/-! ===== ENGINE: new objects, library members, calls, the entry ===== -/
section K5
variable {own : String} {cc : ByteArray} {nL : Nat} {rt : Option FieldType} {ini : Bool} {pc : Nat}
theorem tw_aI : Cond.arrayClass .int ∈ lw_g := by decide +kernel
theorem tw_aZ : Cond.arrayClass .boolean ∈ lw_g := by decide +kernel
theorem k_newi (hd : decode cc pc = .ok (.newarray .int, 2)) : SOK own cc nL rt ini pc (s_newa (pc + 2) 20) := k_newp (ix := 0) hd rfl (fun _ _ => rfl) tw_aI (fun _ => rfl) (by decide) (by decide) rfl (fun _ _ _ => rfl)
theorem k_newz (hd : decode cc pc = .ok (.newarray .boolean, 2)) : SOK own cc nL rt ini pc (s_newa (pc + 2) 21) := k_newp (ix := 1) hd rfl (fun _ _ => rfl) tw_aZ (fun _ => rfl) (by decide) (by decide) rfl (fun _ _ _ => rfl)
theorem k_newq {t ix x : Nat} {Cn : String} (hd : decode cc pc = .ok (.anewarray x, 3)) (hw : Cond.classLink own x Cn ∈ lw_g) (ho : ∀ U, Nw5 U → va_AO Cn U) (hix : ∀ G, (gty G)[ix]? = some (G.2.1 ix, .object Cn)) (ht : 20 ≤ t ∧ t ≠ 25)
    (hF : ∀ (G : Gh) (h : hp) (a : Nat), Fk G h a t = .inl (G.2.1 ix, haL h (a + 1), .inr (.inr (.inr (.inr (fun j => dr (haR h (a + 1) j))))))) : SOK own cc nL rt ini pc (s_newa (pc + 3) t) := by
  intro p l e R s m args below meth c G K0 d mc ms kk Q C nx hn L S h cu su st h1 h2 K Ls H locs ls hB hS hE hl hs
  unfold s_newa at st
  split at st
  · next k S' =>
    obtain ⟨⟨g1, g2⟩, ⟨g3, g4⟩, st⟩ := st
    have hs2 := (List.forall_mem_cons.mp hs).2
    have hk := i1000 g1 g2
    refine W.anew C.1 C.2.1 C.2.2.2.1 (C.2.2.2.2.1 _ hw) (va_AO.use (ho _ hB.2.2.2.2.2.2.2)) rfl hd rfl g1 (Nat.le_trans (Nat.mul_le_mul hk (Nat.le_refl 4)) (by decide)) (Nat.le_trans g3 C.2.2.2.2.2.1.2.2.1) (Nat.le_trans g4 C.2.2.2.2.2.1.2.2.2) (fun cA kA comp f1 f2 f3 f4 => ?_)
    generalize hH1 : H.push ({ cls := cA, slots := Array.replicate k.toNatClampNeg .null, vm := .none } : Cell) = H1
    have z1 : H1.size = H.size + 1 := by rw [← hH1, Array.size_push]
    have e1 : H1[H.size]? = some (arrV cA k.toNatClampNeg (fun _ => .null)) := by rw [← hH1, Array.getElem?_push_size, ← arrV_new]
    have o1 : ∀ q : Nat, q < H.size → H1[q]? = H[q]? := fun q hq => by rw [← hH1, Array.getElem?_push, if_neg (Nat.ne_of_lt hq)]
    have hcA : cA = G.2.1 ix := by
      obtain ⟨kA', comp', r1, r2, r3, r4⟩ := (hB.1.2 ix _ (hix G)).2
      exact Option.some.inj (f1.symm.trans r4)
    have hK0 := hb_K0 hB
    obtain ⟨n1, n2⟩ := hb_new (h' := warr h (H.size + 1) k.toNatClampNeg) (t := t) hB hS.1 ⟨by omega, ht.2⟩ z1 o1 (by
        rw [hF]
        show H1[H.size]? = some (vp_cell (G.2.1 ix) (va_up h.2.2.2.1 (H.size + 1) k.toNatClampNeg (H.size + 1), .inr (.inr (.inr (.inr (fun j => dr (va_up h.2.2.2.2.1 (H.size + 1) (fun _ => 0) (H.size + 1) j)))))))
        rw [va_up_self, va_up_self, e1, hcA]
        rfl) (fun b hb => by
        have w := warr_o (h := h) (n := k.toNatClampNeg) (show b + 1 ≠ H.size + 1 by omega)
        exact Fk_congr w.1 w.2.1 w.2.2 (fun _ _ => rfl)) rfl (ty_warr hB.2.2.2.2.2.1 hK0 ht.1) (fun b hb => by
        have w := warr_o (h := h) (n := k.toNatClampNeg) (show b + 1 ≠ H.size + 1 by omega)
        exact ⟨w.1, w.2.1⟩) (fun _ => rfl)
    exact hn _ _ _ _ _ _ (st (H.size + 1) hB.2.2.2.1.1) (by omega) (by omega) _ _ H1 locs ls n1 ⟨Nat.le_trans hS.1 (by omega), fun x q1 q2 => (o1 x (Nat.lt_of_lt_of_le q1 hS.1)).trans (hS.2.1 x q1 q2), hS.2.2⟩ (hE.tr n2) (lrel_ext (fun v hv => okv_ext n2 hv) hl) (List.forall_mem_cons.mpr ⟨fun b hb => by cases hb; exact ⟨va_up_self _ _ _, by omega⟩, fun v hv => okv_ext n2 (hs2 v hv)⟩)
  · exact st.elim
theorem k_newq22 {x : Nat} (hd : decode cc pc = .ok (.anewarray x, 3)) (hw : Cond.classLink own x RX1 ∈ lw_g) : SOK own cc nL rt ini pc (s_newa (pc + 3) 22) := k_newq (ix := 2) hd hw (fun _ h => h.1) (fun _ => rfl) (by decide) (fun _ _ _ => rfl)
theorem k_newq23 {x : Nat} (hd : decode cc pc = .ok (.anewarray x, 3)) (hw : Cond.classLink own x RX3 ∈ lw_g) : SOK own cc nL rt ini pc (s_newa (pc + 3) 23) := k_newq (ix := 3) hd hw (fun _ h => h.2.1) (fun _ => rfl) (by decide) (fun _ _ _ => rfl)
theorem k_newq24 {x : Nat} (hd : decode cc pc = .ok (.anewarray x, 3)) (hw : Cond.classLink own x RX5 ∈ lw_g) : SOK own cc nL rt ini pc (s_newa (pc + 3) 24) := k_newq (ix := 4) hd hw (fun _ h => h.2.2.1) (fun _ => rfl) (by decide) (fun _ _ _ => rfl)
theorem k_new {Cn : String} {T : u_T} {N ci x : Nat} {ty0 : Nat → FieldType} (hin : ∀ w ∈ u_ws Cn T N, w ∈ lw_g) (hty : ∀ k, k < N → parseFieldDescriptor (T k).2.2.1 = some (ty0 k)) (hc : vwCl[ci]? = some (Cn, T, N)) (hci : ci < 8) (hN : nF ci = N) (hdv : ∀ j, j < N → defaultValue (ty0 j) = if frt ci j = 0 then .int 0 else .null) (hinst : Cond.instantiable Cn N ∈ lw_g) (hini : Cond.initialized Cn ∈ lw_g) (hd : decode cc pc = .ok (.new x, 3)) (hw : Cond.classLink own x Cn ∈ lw_g) : SOK own cc nL rt ini pc (s_new (pc + 3) (ci + 1) N) := by
  intro p l e R s m args below meth c G K0 d mc ms kk Q C nx hn L S h cu su st h1 h2 K Ls H locs ls hB hS hE hl hs
  obtain ⟨⟨g3, g4⟩, st⟩ := st
  have hKn := hB.1.1 ci _ hc
  refine W.newcK C.1 C.2.1 C.2.2.2.1 (C.2.2.2.2.1 _ hw) (C.2.2.2.2.1 _ hinst) (C.2.2.2.2.1 _ hini) rfl hd (Nat.le_trans g3 C.2.2.2.2.2.1.2.2.1) (Nat.le_trans g4 C.2.2.2.2.2.1.2.2.2) hKn.2.1 rfl (fun H1 kC hkC e1 z1 o1 => ?_)
  have hK0 := hb_K0 hB
  obtain ⟨n1, n2⟩ := hb_new (h' := wobj h (H.size + 1)) (t := ci + 1) hB hS.1 ⟨by omega, by omega⟩ z1 o1 (by
      have e2 : Fk G (wobj h (H.size + 1)) H.size (ci + 1) = .inr (ci, fls (wobj h (H.size + 1)) (H.size + 1) ci) := Fh_obj (K := fun _ => ci + 1) rfl hci
      rw [e2]
      refine ⟨_, hc, (u_born ty0 C.2.2.2.2.1 hin hKn hkC e1 hty).to (fun j hj => ?_)⟩
      rw [hdv j hj]
      show _ = (fls (wobj h (H.size + 1)) (H.size + 1) ci).getD j .null
      rw [List.getD_eq_getElem?_getD, fls_get (by rw [hN]; exact hj)]
      show _ = (if frt ci j = 0 then Value.int (if H.size + 1 = H.size + 1 then 0 else _) else rv (if H.size + 1 = H.size + 1 then 0 else _))
      rw [if_pos rfl, if_pos rfl]
      rfl) (fun b hb => Fk_congr rfl rfl rfl (fun ci j => wobj_o (by omega))) rfl (ty_wobj hB.2.2.2.2.2.1 hK0 (by omega)) (fun b hb => ⟨rfl, rfl⟩) (fun f => by
      show (if 0 = H.size + 1 then 0 else h.2.1 f 0) = _
      rw [if_neg (by omega)]; rfl)
  exact hn _ _ _ _ _ _ (st (H.size + 1) hB.2.2.2.1.1) (by omega) (by omega) _ _ H1 locs ls n1 ⟨Nat.le_trans hS.1 (by omega), fun x q1 q2 => (o1 x (Nat.lt_of_lt_of_le q1 hS.1)).trans (hS.2.1 x q1 q2), hS.2.2⟩ (hE.tr n2) (lrel_ext (fun v hv => okv_ext n2 hv) hl) (List.forall_mem_cons.mpr ⟨fun b hb => by cases hb; exact ⟨va_up_self _ _ _, by omega⟩, fun v hv => okv_ext n2 (hs v hv)⟩)
theorem inX0 : ∀ w ∈ u_ws RX0 TX0 6, w ∈ lw_g := by decide +kernel
theorem tw_in0 : Cond.instantiable RX0 6 ∈ lw_g := by decide +kernel
theorem tw_ii0 : Cond.initialized RX0 ∈ lw_g := by decide +kernel
theorem dvX0 : ∀ j, j < 6 → defaultValue (tyX0 j) = if frt 0 j = 0 then .int 0 else .null := by decide
theorem k_new0 {x : Nat} (hd : decode cc pc = .ok (.new x, 3)) (hw : Cond.classLink own x RX0 ∈ lw_g) : SOK own cc nL rt ini pc (s_new (pc + 3) (0 + 1) 6) := k_new inX0 tyX0_ok rfl (by decide) rfl dvX0 tw_in0 tw_ii0 hd hw
theorem inX1 : ∀ w ∈ u_ws RX1 TX1 9, w ∈ lw_g := by decide +kernel
theorem tw_in1 : Cond.instantiable RX1 9 ∈ lw_g := by decide +kernel
theorem tw_ii1 : Cond.initialized RX1 ∈ lw_g := by decide +kernel
theorem dvX1 : ∀ j, j < 9 → defaultValue (tyX1 j) = if frt 1 j = 0 then .int 0 else .null := by decide
theorem k_new1 {x : Nat} (hd : decode cc pc = .ok (.new x, 3)) (hw : Cond.classLink own x RX1 ∈ lw_g) : SOK own cc nL rt ini pc (s_new (pc + 3) (1 + 1) 9) := k_new inX1 tyX1_ok rfl (by decide) rfl dvX1 tw_in1 tw_ii1 hd hw
theorem inX2 : ∀ w ∈ u_ws RX2 TX2 5, w ∈ lw_g := by decide +kernel
theorem tw_in2 : Cond.instantiable RX2 5 ∈ lw_g := by decide +kernel
theorem tw_ii2 : Cond.initialized RX2 ∈ lw_g := by decide +kernel
theorem dvX2 : ∀ j, j < 5 → defaultValue (tyX2 j) = if frt 2 j = 0 then .int 0 else .null := by decide
theorem k_new2 {x : Nat} (hd : decode cc pc = .ok (.new x, 3)) (hw : Cond.classLink own x RX2 ∈ lw_g) : SOK own cc nL rt ini pc (s_new (pc + 3) (2 + 1) 5) := k_new inX2 tyX2_ok rfl (by decide) rfl dvX2 tw_in2 tw_ii2 hd hw
theorem inX3 : ∀ w ∈ u_ws RX3 TX3 2, w ∈ lw_g := by decide +kernel
theorem tw_in3 : Cond.instantiable RX3 2 ∈ lw_g := by decide +kernel
theorem tw_ii3 : Cond.initialized RX3 ∈ lw_g := by decide +kernel
theorem dvX3 : ∀ j, j < 2 → defaultValue (tyX3 j) = if frt 3 j = 0 then .int 0 else .null := by decide
theorem k_new3 {x : Nat} (hd : decode cc pc = .ok (.new x, 3)) (hw : Cond.classLink own x RX3 ∈ lw_g) : SOK own cc nL rt ini pc (s_new (pc + 3) (3 + 1) 2) := k_new inX3 tyX3_ok rfl (by decide) rfl dvX3 tw_in3 tw_ii3 hd hw
theorem inX4 : ∀ w ∈ u_ws RX4 TX4 7, w ∈ lw_g := by decide +kernel
theorem tw_in4 : Cond.instantiable RX4 7 ∈ lw_g := by decide +kernel
theorem tw_ii4 : Cond.initialized RX4 ∈ lw_g := by decide +kernel
theorem dvX4 : ∀ j, j < 7 → defaultValue (tyX4 j) = if frt 4 j = 0 then .int 0 else .null := by decide
theorem k_new4 {x : Nat} (hd : decode cc pc = .ok (.new x, 3)) (hw : Cond.classLink own x RX4 ∈ lw_g) : SOK own cc nL rt ini pc (s_new (pc + 3) (4 + 1) 7) := k_new inX4 tyX4_ok rfl (by decide) rfl dvX4 tw_in4 tw_ii4 hd hw
theorem inX5 : ∀ w ∈ u_ws RX5 TX5 4, w ∈ lw_g := by decide +kernel
theorem tw_in5 : Cond.instantiable RX5 4 ∈ lw_g := by decide +kernel
theorem tw_ii5 : Cond.initialized RX5 ∈ lw_g := by decide +kernel
theorem dvX5 : ∀ j, j < 4 → defaultValue (tyX5 j) = if frt 5 j = 0 then .int 0 else .null := by decide
theorem k_new5 {x : Nat} (hd : decode cc pc = .ok (.new x, 3)) (hw : Cond.classLink own x RX5 ∈ lw_g) : SOK own cc nL rt ini pc (s_new (pc + 3) (5 + 1) 4) := k_new inX5 tyX5_ok rfl (by decide) rfl dvX5 tw_in5 tw_ii5 hd hw
theorem inX6 : ∀ w ∈ u_ws RX6 TX6 15, w ∈ lw_g := by decide +kernel
theorem tw_in6 : Cond.instantiable RX6 15 ∈ lw_g := by decide +kernel
theorem tw_ii6 : Cond.initialized RX6 ∈ lw_g := by decide +kernel
theorem dvX6 : ∀ j, j < 15 → defaultValue (tyX6 j) = if frt 6 j = 0 then .int 0 else .null := by decide
theorem k_new6 {x : Nat} (hd : decode cc pc = .ok (.new x, 3)) (hw : Cond.classLink own x RX6 ∈ lw_g) : SOK own cc nL rt ini pc (s_new (pc + 3) (6 + 1) 15) := k_new inX6 tyX6_ok rfl (by decide) rfl dvX6 tw_in6 tw_ii6 hd hw
theorem inX7 : ∀ w ∈ u_ws RX7 TX7 39, w ∈ lw_g := by decide +kernel
theorem tw_in7 : Cond.instantiable RX7 39 ∈ lw_g := by decide +kernel
theorem tw_ii7 : Cond.initialized RX7 ∈ lw_g := by decide +kernel
theorem dvX7 : ∀ j, j < 39 → defaultValue (tyX7 j) = if frt 7 j = 0 then .int 0 else .null := by decide
theorem k_new7 {x : Nat} (hd : decode cc pc = .ok (.new x, 3)) (hw : Cond.classLink own x RX7 ∈ lw_g) : SOK own cc nL rt ini pc (s_new (pc + 3) (7 + 1) 39) := k_new inX7 tyX7_ok rfl (by decide) rfl dvX7 tw_in7 tw_ii7 hd hw
theorem tw_oi1 : Cond.instanceMethod Lib.objectInit ∈ lw_g := by decide +kernel
theorem tw_oi2 : Cond.code Lib.objectInit ⟨#[0xb1]⟩ 1 none ∈ lw_g := by decide +kernel
theorem tw_mx1 : Cond.static Lib.Math.max.name ∈ lw_g := by decide +kernel
theorem tw_mx2 : Cond.initialized "java/lang/Math" ∈ lw_g := by decide +kernel
theorem tw_mx3 : Cond.code Lib.Math.max.name Lib.Math.max.code 2 (some .int) ∈ lw_g := by decide +kernel
theorem tw_mn1 : Cond.static Lib.Math.min.name ∈ lw_g := by decide +kernel
theorem tw_mn3 : Cond.code Lib.Math.min.name Lib.Math.min.code 2 (some .int) ∈ lw_g := by decide +kernel
theorem tw_ac1 : Cond.native arraycopyName ∈ lw_g := by decide +kernel
theorem tw_ac2 : Cond.static arraycopyName ∈ lw_g := by decide +kernel
theorem tw_ac3 : Cond.initialized "java/lang/System" ∈ lw_g := by decide +kernel
theorem sw_cat (S : List pv) : ((S.map tv).map (fun v => v.category)).sum = sw S := by
  induction S with
  | nil => rfl
  | cons v S ih =>
    rcases v with v | v | ⟨t, x⟩
    · rw [List.map_cons, List.map_cons, List.sum_cons, ih]
      show 1 + sw S = sw S + 1
      omega
    · rw [List.map_cons, List.map_cons, List.sum_cons, ih]
      show 2 + sw S = sw S + 2
      omega
    · have : (tv (.inr (.inr (t, x)))).category = 1 := by cases x <;> rfl
      rw [List.map_cons, List.map_cons, List.sum_cons, this, ih]
      show _ = sw S + 1
      omega
theorem k_oinit {x : Nat} (hd : decode cc pc = .ok (.invokespecial x, 3)) (hw : Cond.methodLink own x Lib.objectInit ∈ lw_g) : SOK own cc nL rt ini pc (s_oinit (pc + 3)) := by
  intro p l e R s m args below meth c G K0 d mc ms kk Q C nx hn L S h cu su st h1 h2 K Ls H locs ls hB hS hE hl hs
  unfold s_oinit at st
  split at st
  · next t y S' =>
    have hs2 := (List.forall_mem_cons.mp hs).2
    cases hb : Nat.ble (sw S') 8 with
    | false => rw [hb] at st; exact st.elim
    | true =>
      rw [hb] at st
      have hb := Nat.le_of_ble_eq_true hb
      cases y with
      | zero => exact (st : False).elim
      | succ a =>
        cases d with
        | zero => exact (st : False).elim
        | succ d =>
          have st : nx (pc + 3) L S' h cu su := st
          have r := C.2.2.2.2.2.1
          refine W.objInit C.1 C.2.1 C.2.2.2.1 (C.2.2.2.2.1 _ hw) (C.2.2.2.2.1 _ tw_oi1) (C.2.2.2.2.1 _ tw_oi2) rfl (by rw [C.2.2.1]; exact hl.1) rfl hd (Nat.le_trans (by omega) r.1) (Nat.le_trans ?_ r.2.1) (hn _ _ _ _ _ _ st h1 h2 K Ls H locs ls hB hS hE hl hs2)
          show 2 * 0 + ((S'.map tv).map fun v => v.category).sum + 12 ≤ _
          rw [sw_cat]
          omega
  · exact st.elim
theorem k_max {x : Nat} (hd : decode cc pc = .ok (.invokestatic x, 3)) (hw : Cond.methodLink own x Lib.Math.max.name ∈ lw_g) : SOK own cc nL rt ini pc (s_mm (pc + 3) (fun a b => if a < b then b else a)) := by
  intro p l e R s m args below meth c G K0 d mc ms kk Q C nx hn L S h cu su st h1 h2 K Ls H locs ls hB hS hE hl hs
  unfold s_mm at st
  split at st
  · next a b S' =>
    have hs2 := (List.forall_mem_cons.mp (List.forall_mem_cons.mp hs).2).2
    cases hb : Nat.ble (sw S') 8 with
    | false => rw [hb] at st; exact st.elim
    | true =>
      rw [hb] at st
      have hb := Nat.le_of_ble_eq_true hb
      cases d with
      | zero => exact (st : False).elim
      | succ d =>
        have r := C.2.2.2.2.2.1
        refine va_mmax C.1 C.2.1 (by rw [C.2.2.1]; exact hl.1.symm) C.2.2.2.1 (C.2.2.2.2.1 _ hw) (C.2.2.2.2.1 _ tw_mx1) (C.2.2.2.2.1 _ tw_mx2) (C.2.2.2.2.1 _ tw_mx3) (Nat.le_trans (by omega) r.1) (Nat.le_trans ?_ r.2.1) (Nat.le_trans h1 r.2.2.1) (Nat.le_trans h2 r.2.2.2) hd (hn _ _ _ _ _ _ st h1 h2 K Ls H locs ls hB hS hE hl (List.forall_mem_cons.mpr ⟨trivial, hs2⟩))
        rw [sw_cat]
        omega
  · exact st.elim
theorem k_min {x : Nat} (hd : decode cc pc = .ok (.invokestatic x, 3)) (hw : Cond.methodLink own x Lib.Math.min.name ∈ lw_g) : SOK own cc nL rt ini pc (s_mm (pc + 3) (fun a b => if b < a then b else a)) := by
  intro p l e R s m args below meth c G K0 d mc ms kk Q C nx hn L S h cu su st h1 h2 K Ls H locs ls hB hS hE hl hs
  unfold s_mm at st
  split at st
  · next a b S' =>
    have hs2 := (List.forall_mem_cons.mp (List.forall_mem_cons.mp hs).2).2
    cases hb : Nat.ble (sw S') 8 with
    | false => rw [hb] at st; exact st.elim
    | true =>
      rw [hb] at st
      have hb := Nat.le_of_ble_eq_true hb
      cases d with
      | zero => exact (st : False).elim
      | succ d =>
        have r := C.2.2.2.2.2.1
        refine va_mmin C.1 C.2.1 (by rw [C.2.2.1]; exact hl.1.symm) C.2.2.2.1 (C.2.2.2.2.1 _ hw) (C.2.2.2.2.1 _ tw_mn1) (C.2.2.2.2.1 _ tw_mx2) (C.2.2.2.2.1 _ tw_mn3) (Nat.le_trans (by omega) r.1) (Nat.le_trans ?_ r.2.1) (Nat.le_trans h1 r.2.2.1) (Nat.le_trans h2 r.2.2.2) hd (hn _ _ _ _ _ _ st h1 h2 K Ls H locs ls hB hS hE hl (List.forall_mem_cons.mpr ⟨trivial, hs2⟩))
        rw [sw_cat]
        omega
  · exact st.elim
theorem k_acopy {x : Nat} (hd : decode cc pc = .ok (.invokestatic x, 3)) (hw : Cond.methodLink own x arraycopyName ∈ lw_g) : SOK own cc nL rt ini pc (s_acopy (pc + 3)) := by
  intro p l e R s m args below meth c G K0 d mc ms kk Q C nx hn L S h cu su st h1 h2 K Ls H locs ls hB hS hE hl hs
  unfold s_acopy at st
  split at st
  · next k j t2 y i t1 x S' =>
    obtain ⟨hy, hs2⟩ := List.forall_mem_cons.mp (List.forall_mem_cons.mp (List.forall_mem_cons.mp hs).2).2
    obtain ⟨hx, hs3⟩ := List.forall_mem_cons.mp (List.forall_mem_cons.mp hs2).2
    cases hb : (Nat.beq t1 20 && Nat.beq t2 20) && Nat.ble (sw S') 8 with
    | false => rw [hb] at st; exact st.elim
    | true =>
      rw [hb] at st
      obtain ⟨hb1, hb2⟩ := Bool.and_eq_true_iff.mp hb
      obtain ⟨e1, e2⟩ := Bool.and_eq_true_iff.mp hb1
      have e1 := Nat.eq_of_beq_eq_true e1
      have e2 := Nat.eq_of_beq_eq_true e2
      subst e1; subst e2
      have hb2 := Nat.le_of_ble_eq_true hb2
      cases x with
      | zero => exact (st : False).elim
      | succ a =>
        cases y with
        | zero => exact (st : False).elim
        | succ b =>
          cases d with
          | zero => exact (st : False).elim
          | succ d =>
            have st : (¬ i < 0 ∧ ¬ j < 0 ∧ ¬ k < 0 ∧ i.toNatClampNeg + k.toNatClampNeg ≤ haL h (a + 1) ∧ j.toNatClampNeg + k.toNatClampNeg ≤ haL h (b + 1)) ∧ nx (pc + 3) L S' (waI h (b + 1) (va_cpy (haI h (a + 1)) (haI h (b + 1)) i.toNatClampNeg j.toNatClampNeg k.toNatClampNeg)) cu su := st
            have r := C.2.2.2.2.2.1
            have hka : K a = 20 := (hx a rfl).1
            have hkb : K b = 20 := (hy b rfl).1
            obtain ⟨qa, hqa⟩ := hb_at hB (a := a) (by omega) (by omega)
            obtain ⟨qb, hqb⟩ := hb_at hB (a := b) (by omega) (by omega)
            rw [Fh_20 hka] at hqa
            rw [Fh_20 hkb] at hqb
            refine va_copyi (D := G.1) C.1 C.2.1 (by rw [C.2.2.1]; exact hl.1.symm) C.2.2.2.1 (C.2.2.2.2.1 _ hw) (C.2.2.2.2.1 _ tw_ac1) (C.2.2.2.2.1 _ tw_ac2) (C.2.2.2.2.1 _ tw_ac3) hB.1 hB.2.1 hB.2.2.1 (vS_here hS) qa qb 0 0 hqa hqb rfl rfl rfl st.1.1 st.1.2.1 st.1.2.2.1 st.1.2.2.2.1 st.1.2.2.2.2 (fun _ _ => rfl) (Nat.le_trans (by omega) r.1) (Nat.le_trans ?_ r.2.1) hd (fun H1 locs1 hP1 hD1 hS1 => hn _ _ _ _ _ _ st.2 h1 h2 K Ls H1 locs1 ls (hb_waI20 hB hkb hqb hP1 hD1 hS1) (vS_trans hS hS1) hE hl hs3)
            rw [sw_cat]
            have : nativeFrameWords "java/lang/System" "arraycopy" 5 ≤ 40 := by decide
            omega
  · exact st.elim
end K5
end
section
/-! ===== ENGINE: calls, and a method out of its table ===== -/
theorem Sx.moved {G : Gh} {K : Nat → Nat} {h : hp} {u U : State} {H : Heap} (hvm : u.vm.Alike U.vm) (hX : Sx G K h u H) : Sx G K h U H := by
  obtain ⟨a, ⟨y1, a1, a2, a3⟩, ⟨y2, b1, b2, b3⟩, ⟨y3, c1, c2, c3⟩⟩ := hX
  exact ⟨fun b hb => va_T.moved hvm (a b hb), ⟨y1, a1, a2, va_Z.moved hvm a3⟩, ⟨y2, b1, b2, va_Z.moved hvm b3⟩, ⟨y3, c1, c2, va_Z.moved hvm c3⟩⟩
theorem Sx.kept {G : Gh} {K : Nat → Nat} {h : hp} {U : State} {H H1 : Heap} (hq : ∀ a : Nat, a < H.size → ¬ gA G a → H1[a]? = H[a]?) (hX : Sx G K h U H) : Sx G K h U H1 := by
  obtain ⟨a, ⟨y1, a1, a2, a3⟩, ⟨y2, b1, b2, b3⟩, ⟨y3, c1, c2, c3⟩⟩ := hX
  exact ⟨fun b hb => va_T.kept (a b hb) hq, ⟨y1, a1, a2, va_Z.kept a3 hq⟩, ⟨y2, b1, b2, va_Z.kept b3 hq⟩, ⟨y3, c1, c2, va_Z.kept c3 hq⟩⟩
theorem HB.warm {G : Gh} {K : Nat → Nat} {Ls : List Nat} {h : hp} {s U : State} {H H0 : Heap} (hW : s.WarmedH U.vm) (hB : HB G K Ls h s H H0) : HB G K Ls h U H H0 :=
  ⟨va_K.moved hW.alike hB.1, hB.2.1, hB.2.2.1, hB.2.2.2.1, hB.2.2.2.2.1, hB.2.2.2.2.2.1, hB.2.2.2.2.2.2.1.moved hW.alike, hB.2.2.2.2.2.2.2.warm hW⟩
theorem HB.here {G : Gh} {K : Nat → Nat} {Ls : List Nat} {h : hp} {U : State} {H H0 : Heap} {locs : List Loc} (hS : va_S (gA G) H0 H locs) (hB : HB G K Ls h U H H0) : HB G K Ls h U H H :=
  ⟨hB.1, hB.2.1, hB.2.2.1, ⟨hB.2.2.2.1.1, Nat.le_trans hB.2.2.2.1.2.1 hS.1, hB.2.2.2.1.2.2⟩, hB.2.2.2.2.1, hB.2.2.2.2.2.1, hB.2.2.2.2.2.2.1.kept hS.2.1, hB.2.2.2.2.2.2.2⟩
theorem HB.blind {G : Gh} {K : Nat → Nat} {Ls : List Nat} {h : hp} {as : List Value} : FrameBlind (va_Pc as (fun U => HB G K Ls h U U.heap U.heap)) := by
  intro a U g mk q
  obtain ⟨q0, qB⟩ := q
  refine ⟨q0, va_K.moved (u := U) (U := U.calling g mk a) (Vm.Alike.refl U.vm) qB.1, qB.2.1, qB.2.2.1, qB.2.2.2.1, qB.2.2.2.2.1, qB.2.2.2.2.2.1, Sx.moved (u := U) (U := U.calling g mk a) (Vm.Alike.refl U.vm) qB.2.2.2.2.2.2.1, ?_⟩
  obtain ⟨n1, n2, n3, n4⟩ := qB.2.2.2.2.2.2.2
  exact ⟨va_AO.moved (u := U) (U := U.calling g mk a) (Vm.Alike.refl U.vm) n1, va_AO.moved (u := U) (U := U.calling g mk a) (Vm.Alike.refl U.vm) n2, va_AO.moved (u := U) (U := U.calling g mk a) (Vm.Alike.refl U.vm) n3, fun q hq => va_Nw.same rfl (u := U) rfl (n4 q hq)⟩
theorem call_go {p : Program} {l : Launch} {e : Env} {R : Room} {s : State} {m : MethodId} {args : Array Value} {below : List Frame} {meth : Method} {c : Code} {H : Heap} {locs : List Loc} {cells slots mc' ms' pc : Nat} {ls : Array Slot} {st0 rest : List Value} {G : Gh} {K : Nat → Nat} {kk : Rt} {a : Array Value} {Q : State → Prop}
    (hr : va_Run p l e R s m args below meth c H locs cells slots mc' ms' (F0 m pc ls st0) rest (QcK G K kk a) (gA G)) (hS : va_S (gA G) s.heap H locs) (hbase : G.2.2 ≤ s.heap.size) (hN : Nw5 s)
    (go : ∀ (v : Option pv) (K' : Nat → Nat) (Ls' : List Nat) (h' : hp) (H1 : Heap) (locs1 : List Loc), kk v h' → HB G K' Ls' h' s H1 s.heap → va_S (gA G) s.heap H1 locs1 → (∀ w, v = some w → okv K' w) → Ext K K' → W p l e R s m args below meth c H1 locs1 (cells + mc') (slots + ms') Q (F0 m (pc + 3) ls ((v.map tv).toList ++ rest))) : W p l e R s m args below meth c H locs cells slots Q (F0 m pc ls st0) := by
  intro T hT X
  obtain ⟨v, st₀, t, T', L, h0, X', hL, e1, e2, hq, st⟩ := hr T hT X
  obtain ⟨⟨v', K', Ls', h', hv, hk, hB, hok, hE⟩, hz, hkeep⟩ := hq
  have hv : v = v'.map tv := by cases hv; rfl
  subst hv
  rw [h0] at hz hkeep
  have hvm : s.vm.Alike t.vm := by rw [← e2]; exact X'.warmed.alike
  have hS1 : va_S (gA G) s.heap t.heap (locs ++ L) := ⟨Nat.le_trans hS.1 hz, fun q h1 h2 => by rw [hkeep q (Nat.lt_of_lt_of_le h1 hS.1) h2]; exact hS.2.1 q h1 h2, fun q hq => by
      rcases List.mem_append.mp hq with h | h
      · exact hS.2.2 q h
      · exact hL q h⟩
  have hB1 : HB G K' Ls' h' s t.heap s.heap := by
    refine ⟨va_K.moved hvm.symm hB.1, hB.2.1, hB.2.2.1, ⟨hB.2.2.2.1.1, hbase, hB.2.2.2.1.2.2⟩, hB.2.2.2.2.1, hB.2.2.2.2.2.1, (hB.2.2.2.2.2.2.1.moved hvm.symm).kept (fun q h1 h2 => ?_), hN⟩
    have : q < s.heap.size := by
      have : ¬ G.2.2 ≤ q := h2
      omega
    exact (hS1.2.1 q this h2).symm
  obtain ⟨t2, a1, b1⟩ := go v' K' Ls' h' t.heap (locs ++ L) hk hB1 hS1 hok hE T' e1 X'
  exact ⟨t2, st t2 a1, b1⟩
theorem cgo_spec {d mc ms cu su : Nat} {y : MI} {mc' ms' : Nat} {as : List pv} {h : hp} {K : Nat → Nat → Rt} (g : cgo CL d mc ms cu su y mc' ms' as h K) (h1 : cu ≤ mc) (h2 : su ≤ ms) : ∃ d', d = d' + 1 ∧ cu + mc' ≤ mc ∧ su + ms' ≤ ms ∧ CL d' y mc' ms' as h (K (cu + mc') (su + ms')) := by
  unfold cgo at g
  cases d with
  | zero => exact (g : False).elim
  | succ d =>
    cases mc' with
    | zero =>
      cases ms' with
      | zero => exact ⟨d, rfl, h1, h2, g⟩
      | succ q => exact (g : False).elim
    | succ q => exact ⟨d, rfl, g.1.1, g.1.2, g.2⟩
/-- what the tables say of a method that is called with n arguments -/
def MOK (y : MI) (n : Nat) : Prop := Cond.code y.1 y.2.1 y.2.2.1 y.2.2.2 ∈ lw_g ∧ Cond.initialized y.1.cls ∈ lw_g ∧ (y.1.cls ≠ "java/lang/invoke/MethodHandle" ∧ y.1.cls ≠ "java/lang/invoke/VarHandle" ∧ (parseMethodDescriptor y.1.desc).map (fun d => d.parameters.length) = some n) ∧ y.2.2.1 ≤ 45
def MOKs (y : MI) (n : Nat) : Prop := MOK y n ∧ Cond.static y.1 ∈ lw_g
def MOKv (y : MI) (n : Nat) : Prop := MOK y n ∧ Cond.instanceMethod y.1 ∈ lw_g ∧ Cond.selects y.1.cls y.1 y.1 ∈ lw_g
def MOKi (y : MI) (n : Nat) : Prop := MOK y n ∧ Cond.instanceMethod y.1 ∈ lw_g ∧ y.1.name = "<init>" ∧ y.2.2.2 = none
theorem mws_good {y : MI} (h : Cond.code y.1 y.2.1 y.2.2.1 y.2.2.2 ∈ lw_g) : GoodIn lw_g (mws y) := fun w hw => by
  rcases List.mem_cons.mp hw with rfl | hw
  · exact g_good _ h
  · exact g_good w hw
theorem take_rev (S : List pv) (k : Nat) : S.map tv = ((S.take k).reverse.map tv).reverse ++ (S.drop k).map tv := by
  rw [← List.map_reverse, List.reverse_reverse, ← List.map_append, List.take_append_drop]
section K6
variable {own : String} {cc : ByteArray} {nL : Nat} {rt : Option FieldType} {ini : Bool} {pc : Nat}
theorem k_cS {x k mc' ms' : Nat} {y : MI} (hd : decode cc pc = .ok (.invokestatic x, 3)) (hw : Cond.methodLink own x y.1 ∈ lw_g) (ok : MOKs y k) : SOK own cc nL rt ini pc (s_cS (pc + 3) y k mc' ms') := by
  intro p l e R s m args below meth c G K0 d mc ms kk Q C nx hn L S h cu su st h1 h2 K Ls H locs ls hB hS hE hl hs
  unfold s_cS at st
  cases hb : Nat.ble (sw (S.drop k)) 8 && Nat.beq (S.take k).length k with
  | false => rw [hb] at st; exact st.elim
  | true =>
    rw [hb] at st
    obtain ⟨b1, b2⟩ := Bool.and_eq_true_iff.mp hb
    have b1 := Nat.le_of_ble_eq_true b1
    have b2 := Nat.eq_of_beq_eq_true b2
    rw [cond_true] at st
    obtain ⟨d', hd', f1, f2, hM⟩ := cgo_spec st h1 h2
    have r := C.2.2.2.2.2.1
    subst hd'
    have hts := C.2.2.2.2.1
    refine call_go (va_runS (cc := cc) (nL := nL) (own := own) (Ts := lw_g) (index := x) (n := k) (bytes := y.2.1) (maxL := y.2.2.1) (ret := y.2.2.2) (As := (S.take k).reverse.map tv) (rest := (S.drop k).map tv) ⟨C.1, C.2.1, C.2.2.1, C.2.2.2.1, hts⟩ (hM l G K Ls (fun v hv => hs v (List.mem_of_mem_take (List.mem_reverse.mp hv)))) ⟨callB_of k hts (mws_good ok.1.1) rfl rfl rfl (hts _ ok.1.2.1) (hts _ hw) ok.1.2.2.1 ⟨r.1, ?_⟩, hts _ ok.2⟩ ⟨HB.blind, fun U hU hW => ⟨rfl, ?_⟩⟩ rfl ?_ hl.1 (take_rev S k) ?_ hd ⟨Nat.le_trans f1 r.2.2.1, Nat.le_trans f2 r.2.2.2⟩) hS hB.2.2.2.1.2.1 hB.2.2.2.2.2.2.2 (fun v K' Ls' h' H1 locs1 g1 g2 g3 g4 g5 => ?_)
    · have := ok.1.2.2.2
      show 8 + (y.2.2.1 + 11) + 64 * d' ≤ R.locals
      omega
    · show HB G K Ls h U U.heap U.heap
      rw [hU]; exact (HB.here hS hB).warm hW
    · rw [List.length_map, List.length_reverse]; exact b2
    · show 2 * 0 + (((S.drop k).map tv).map fun v => v.category).sum ≤ 8
      rw [sw_cat]; omega
    · have := hn _ _ _ _ _ _ g1 f1 f2 K' Ls' H1 locs1 ls g2 g3 (hE.tr g5) (lrel_ext (fun v hv => okv_ext g5 hv) hl) (fun w hw => by
        rcases List.mem_append.mp hw with z | z
        · cases v with
          | none => cases z
          | some v =>
            rcases List.mem_singleton.mp z with rfl
            exact g4 _ rfl
        · exact okv_ext g5 (hs w (List.mem_of_mem_drop z)))
      rw [List.map_append] at this
      rw [show (v.map tv).toList = v.toList.map tv by cases v <;> rfl]
      exact this
theorem k_cSN {x k mc' ms' : Nat} {y : MI} (hd : decode cc pc = .ok (.invokestatic x, 3)) (hw : (own, x, y.1) ∈ nests) (ok : MOKs y k) : SOK own cc nL rt ini pc (s_cS (pc + 3) y k mc' ms') := by
  intro p l e R s m args below meth c G K0 d mc ms kk Q C nx hn L S h cu su st h1 h2 K Ls H locs ls hB hS hE hl hs
  unfold s_cS at st
  cases hb : Nat.ble (sw (S.drop k)) 8 && Nat.beq (S.take k).length k with
  | false => rw [hb] at st; exact st.elim
  | true =>
    rw [hb] at st
    obtain ⟨b1, b2⟩ := Bool.and_eq_true_iff.mp hb
    have b1 := Nat.le_of_ble_eq_true b1
    have b2 := Nat.eq_of_beq_eq_true b2
    rw [cond_true] at st
    obtain ⟨d', hd', f1, f2, hM⟩ := cgo_spec st h1 h2
    have r := C.2.2.2.2.2.1
    subst hd'
    have hts := C.2.2.2.2.1
    refine call_go (va_runSN (cc := cc) (nL := nL) (own := own) (host := "ChalkCastle") (Ts := lw_g) (index := x) (n := k) (bytes := y.2.1) (maxL := y.2.2.1) (ret := y.2.2.2) (As := (S.take k).reverse.map tv) (rest := (S.drop k).map tv) ⟨C.1, C.2.1, C.2.2.1, C.2.2.2.1, hts⟩ (hM l G K Ls (fun v hv => hs v (List.mem_of_mem_take (List.mem_reverse.mp hv)))) ⟨va_cnB k hts (mws_good ok.1.1) rfl rfl rfl (hB.2.2.2.2.2.2.2.2.2.2 _ hw) (hts _ ok.1.2.1) ok.1.2.2.1 ⟨r.1, ?_⟩, hts _ ok.2, trivial⟩ ⟨HB.blind, fun U hU hW => ⟨rfl, ?_⟩⟩ rfl ?_ hl.1 (take_rev S k) ?_ hd ⟨Nat.le_trans f1 r.2.2.1, Nat.le_trans f2 r.2.2.2⟩) hS hB.2.2.2.1.2.1 hB.2.2.2.2.2.2.2 (fun v K' Ls' h' H1 locs1 g1 g2 g3 g4 g5 => ?_)
    · have := ok.1.2.2.2
      show 8 + (y.2.2.1 + 11) + 64 * d' ≤ R.locals
      omega
    · show HB G K Ls h U U.heap U.heap
      rw [hU]; exact (HB.here hS hB).warm hW
    · rw [List.length_map, List.length_reverse]; exact b2
    · show 2 * 0 + (((S.drop k).map tv).map fun v => v.category).sum ≤ 8
      rw [sw_cat]; omega
    · have := hn _ _ _ _ _ _ g1 f1 f2 K' Ls' H1 locs1 ls g2 g3 (hE.tr g5) (lrel_ext (fun v hv => okv_ext g5 hv) hl) (fun w hw => by
        rcases List.mem_append.mp hw with z | z
        · cases v with
          | none => cases z
          | some v =>
            rcases List.mem_singleton.mp z with rfl
            exact g4 _ rfl
        · exact okv_ext g5 (hs w (List.mem_of_mem_drop z)))
      rw [List.map_append] at this
      rw [show (v.map tv).toList = v.toList.map tv by cases v <;> rfl]
      exact this
theorem drop_cons {S S' : List pv} {k : Nat} {v : pv} (h : S.drop k = v :: S') : S.drop (k + 1) = S' ∧ v ∈ S := by
  constructor
  · rw [← List.drop_drop, h]; rfl
  · exact List.mem_of_mem_drop (by rw [h]; exact List.mem_cons_self)
theorem k_cV {ci x k mc' ms' N : Nat} {T : u_T} {y : MI} (hd : decode cc pc = .ok (.invokevirtual x, 3)) (hw : Cond.methodLink own x y.1 ∈ lw_g) (ok : MOKv y k) (hc : vwCl[ci]? = some (y.1.cls, T, N) := by rfl) (hci : ci < 8 := by decide) : SOK own cc nL rt ini pc (s_cV (pc + 3) y (ci + 1) k mc' ms') := by
  intro p l e R s m args below meth c G K0 d mc ms kk Q C nx hn L S h cu su st h1 h2 K Ls H locs ls hB hS hE hl hs
  unfold s_cV at st
  cases hb : Nat.ble (sw (S.drop (k + 1))) 8 && Nat.beq (S.take k).length k with
  | false => rw [hb] at st; exact st.elim
  | true =>
    rw [hb] at st
    obtain ⟨b1, b2⟩ := Bool.and_eq_true_iff.mp hb
    have b1 := Nat.le_of_ble_eq_true b1
    have b2 := Nat.eq_of_beq_eq_true b2
    simp only [cond_true] at st
    split at st
    · next t z S' hdr =>
      obtain ⟨dr1, dr2⟩ := drop_cons hdr
      have hz := hs _ dr2
      cases ht : Nat.beq t (ci + 1) with
      | false => rw [ht] at st; exact st.elim
      | true =>
        rw [ht] at st
        have et := Nat.eq_of_beq_eq_true ht
        subst et
        cases z with
        | zero => exact (st : False).elim
        | succ a =>
          have hka : K a = ci + 1 := (hz a rfl).1
          rw [cond_true, if_neg (Nat.succ_ne_zero a)] at st
          obtain ⟨d', hd', f1, f2, hM⟩ := cgo_spec st h1 h2
          have r := C.2.2.2.2.2.1
          subst hd'
          have hts := C.2.2.2.2.1
          obtain ⟨q, hq⟩ := hb_at hB (a := a) (by omega) (by omega)
          rw [Fh_obj hka hci] at hq
          refine call_go (va_runV (cc := cc) (nL := nL) (own := own) (C := y.1.cls) (Ts := lw_g) (index := x) (n := k) (bytes := y.2.1) (maxL := y.2.2.1) (ret := y.2.2.2) (b := a) (As := (S.take k).reverse.map tv) (rest := (S.drop (k + 1)).map tv) ⟨C.1, C.2.1, C.2.2.1, C.2.2.2.1, hts⟩ (hM l G K Ls (List.forall_mem_cons.mpr ⟨hz, fun v hv => hs v (List.mem_of_mem_take (List.mem_reverse.mp hv))⟩)) ⟨callB_of k hts (mws_good ok.1.1) rfl rfl rfl (hts _ ok.1.2.1) (hts _ hw) ok.1.2.2.1 ⟨r.1, ?_⟩, hts _ ok.2.1, hts _ ok.2.2⟩ ⟨HB.blind, va_recv hB.1 hB.2.1 hc hq, fun U hU hW => ⟨rfl, ?_⟩⟩ rfl ?_ hl.1 ?_ ?_ hd ⟨Nat.le_trans f1 r.2.2.1, Nat.le_trans f2 r.2.2.2⟩) hS hB.2.2.2.1.2.1 hB.2.2.2.2.2.2.2 (fun v K' Ls' h' H1 locs1 g1 g2 g3 g4 g5 => ?_)
          · have := ok.1.2.2.2
            show 8 + (y.2.2.1 + 11) + 64 * d' ≤ R.locals
            omega
          · show HB G K Ls h U U.heap U.heap
            rw [hU]; exact (HB.here hS hB).warm hW
          · rw [List.length_map, List.length_reverse]; exact b2
          · show S.map tv = _
            rw [take_rev S k, hdr, dr1]
            rfl
          · show 2 * 0 + (((S.drop (k + 1)).map tv).map fun v => v.category).sum ≤ 8
            rw [sw_cat]; omega
          · have := hn _ _ _ _ _ _ g1 f1 f2 K' Ls' H1 locs1 ls g2 g3 (hE.tr g5) (lrel_ext (fun v hv => okv_ext g5 hv) hl) (fun w hw => by
              rcases List.mem_append.mp hw with z | z
              · cases v with
                | none => cases z
                | some v =>
                  rcases List.mem_singleton.mp z with rfl
                  exact g4 _ rfl
              · exact okv_ext g5 (hs w (List.mem_of_mem_drop z)))
            rw [List.map_append] at this
            rw [show (v.map tv).toList = v.toList.map tv by cases v <;> rfl]
            exact this
    · exact st.elim
theorem k_cI {ci x k mc' ms' : Nat} {y : MI} (hd : decode cc pc = .ok (.invokespecial x, 3)) (hw : Cond.methodLink own x y.1 ∈ lw_g) (ok : MOKi y k) : SOK own cc nL rt ini pc (s_cV (pc + 3) y (ci + 1) k mc' ms') := by
  intro p l e R s m args below meth c G K0 d mc ms kk Q C nx hn L S h cu su st h1 h2 K Ls H locs ls hB hS hE hl hs
  unfold s_cV at st
  cases hb : Nat.ble (sw (S.drop (k + 1))) 8 && Nat.beq (S.take k).length k with
  | false => rw [hb] at st; exact st.elim
  | true =>
    rw [hb] at st
    obtain ⟨b1, b2⟩ := Bool.and_eq_true_iff.mp hb
    have b1 := Nat.le_of_ble_eq_true b1
    have b2 := Nat.eq_of_beq_eq_true b2
    simp only [cond_true] at st
    split at st
    · next t z S' hdr =>
      obtain ⟨dr1, dr2⟩ := drop_cons hdr
      have hz := hs _ dr2
      cases ht : Nat.beq t (ci + 1) with
      | false => rw [ht] at st; exact st.elim
      | true =>
        rw [ht] at st
        cases z with
        | zero => exact (st : False).elim
        | succ a =>
          rw [cond_true, if_neg (Nat.succ_ne_zero a)] at st
          obtain ⟨d', hd', f1, f2, hM⟩ := cgo_spec st h1 h2
          have r := C.2.2.2.2.2.1
          subst hd'
          have hts := C.2.2.2.2.1
          have hcb := callB_of (own := own) (index := x) (R := R) (rm := rmO d' mc' ms') (mc := mc') (ms := ms') k hts (mws_good ok.1.1) rfl rfl rfl (hts _ ok.1.2.1) (hts _ hw) ok.1.2.2.1 ⟨r.1, by
            have := ok.1.2.2.2
            show 8 + (y.2.2.1 + 11) + 64 * d' ≤ R.locals
            omega⟩
          rw [ok.2.2.2] at hcb
          refine call_go (va_runI (cc := cc) (nL := nL) (own := own) (Ts := lw_g) (index := x) (n := k) (bytes := y.2.1) (maxL := y.2.2.1) (b := a) (As := (S.take k).reverse.map tv) (rest := (S.drop (k + 1)).map tv) ⟨C.1, C.2.1, C.2.2.1, C.2.2.2.1, hts⟩ (hM l G K Ls (List.forall_mem_cons.mpr ⟨hz, fun v hv => hs v (List.mem_of_mem_take (List.mem_reverse.mp hv))⟩)) ⟨hcb, ok.2.2.1, hts _ ok.2.1⟩ ⟨HB.blind, fun U hU hW => ⟨rfl, ?_⟩⟩ rfl ?_ hl.1 ?_ ?_ hd ⟨Nat.le_trans f1 r.2.2.1, Nat.le_trans f2 r.2.2.2⟩) hS hB.2.2.2.1.2.1 hB.2.2.2.2.2.2.2 (fun v K' Ls' h' H1 locs1 g1 g2 g3 g4 g5 => ?_)
          · show HB G K Ls h U U.heap U.heap
            rw [hU]; exact (HB.here hS hB).warm hW
          · rw [List.length_map, List.length_reverse]; exact b2
          · show S.map tv = _
            rw [take_rev S k, hdr, dr1]
            rfl
          · show 2 * 0 + (((S.drop (k + 1)).map tv).map fun v => v.category).sum ≤ 8
            rw [sw_cat]; omega
          · have := hn _ _ _ _ _ _ g1 f1 f2 K' Ls' H1 locs1 ls g2 g3 (hE.tr g5) (lrel_ext (fun v hv => okv_ext g5 hv) hl) (fun w hw => by
              rcases List.mem_append.mp hw with z | z
              · cases v with
                | none => cases z
                | some v =>
                  rcases List.mem_singleton.mp z with rfl
                  exact g4 _ rfl
              · exact okv_ext g5 (hs w (List.mem_of_mem_drop z)))
            rw [List.map_append] at this
            rw [show (v.map tv).toList = v.toList.map tv by cases v <;> rfl]
            exact this
    · exact st.elim
end K6
theorem blk_ok {p : Program} {l : Launch} {e : Env} {R : Room} {s : State} {m : MethodId} {args : Array Value} {below : List Frame} {meth : Method} {c : Code} {G : Gh} {K0 : Nat → Nat} {own : String} {cc : ByteArray} {nL : Nat} {rt : Option FieldType} {ini : Bool} {d mc ms : Nat} {kk : Rt} {Q : State → Prop} {P : Nat → Step}
    (hP : ∀ pc, SOK own cc nL rt ini pc (P pc)) (C : CX p l e R s m args below meth c G K0 own cc nL rt ini d mc ms kk Q) (cut : Nat → Bool) : ∀ (n pc : Nat) (L : Lo) (S : List pv) (h : hp) (cu su : Nat), blk P cut (WM p l e R s m args below meth c G K0 nL mc ms Q) CL d mc ms kk n pc L S h cu su → WM p l e R s m args below meth c G K0 nL mc ms Q pc L S h cu su := by
  intro n
  induction n with
  | zero => intro pc L S h cu su hf; exact (hf : False).elim
  | succ n ih =>
    intro pc L S h cu su hf
    have hf : (bif cut pc then WM p l e R s m args below meth c G K0 nL mc ms Q pc L S h cu su else P pc CL d mc ms kk (blk P cut (WM p l e R s m args below meth c G K0 nL mc ms Q) CL d mc ms kk n) L S h cu su) := hf
    cases hc : cut pc with
    | true => rw [hc] at hf; exact hf
    | false =>
      rw [hc] at hf
      exact hP pc p l e R s m args below meth c G K0 d mc ms kk Q C _ ih L S h cu su hf
def TAB (y : MI) (P : Nat → Step) : Prop := plainName y.1.cls = true ∧ ∃ ini, (ini = true → y.1.name = "<init>") ∧ ∀ pc, SOK y.1.cls y.2.1 y.2.2.1 y.2.2.2 ini pc (P pc)
theorem largs_len : ∀ (as : List pv) (n : Nat), sw as ≤ n → (largs as n).length = n
  | [], n, _ => by simp [largs]
  | .inl v :: t, 0, h => by simp [sw] at h
  | .inr (.inl v) :: t, 0, h => by simp [sw] at h
  | .inr (.inr v) :: t, 0, h => by simp [sw] at h
  | .inl v :: t, n + 1, h => by
    show (largs t n).length + 1 = n + 1
    rw [largs_len t n (by simp only [sw] at h; omega)]
  | .inr (.inr v) :: t, n + 1, h => by
    show (largs t n).length + 1 = n + 1
    rw [largs_len t n (by simp only [sw] at h; omega)]
  | .inr (.inl v) :: t, 1, h => by simp only [sw] at h; omega
  | .inr (.inl v) :: t, n + 2, h => by
    show (largs t n).length + 1 + 1 = n + 2
    rw [largs_len t n (by simp only [sw] at h; omega)]
theorem lget_rep : ∀ (n i : Nat) (v : pv), lget (List.replicate n none) i = some v → False
  | 0, i, v, h => by simp [lget] at h
  | n + 1, 0, v, h => by simp [lget, List.replicate_succ] at h
  | n + 1, i + 1, v, h => lget_rep n i v h
theorem largs_get : ∀ (as : List pv) (n j i : Nat) (v : pv), lget (largs as n) i = some v → (j + i, tv v) ∈ lv_args j (as.map tv) ∧ v ∈ as
  | [], n, j, i, v, h => (lget_rep n i v h).elim
  | .inl w :: t, 0, j, i, v, h => by simp [largs, lget] at h
  | .inr (.inl w) :: t, 0, j, i, v, h => by simp [largs, lget] at h
  | .inr (.inr w) :: t, 0, j, i, v, h => by simp [largs, lget] at h
  | .inl w :: t, n + 1, j, i, v, h => by
    have e : lv_args j ((.inl w :: t : List pv).map tv) = (j, .int w) :: lv_args (j + 1) (t.map tv) := rfl
    rw [e]
    cases i with
    | zero =>
      have h : some (Sum.inl w) = some v := h
      cases h
      exact ⟨List.mem_cons_self, List.mem_cons_self⟩
    | succ i =>
      have := largs_get t n (j + 1) i v h
      rw [show j + 1 + i = j + (i + 1) by omega] at this
      exact ⟨List.mem_cons_of_mem _ this.1, List.mem_cons_of_mem _ this.2⟩
  | .inr (.inr w) :: t, n + 1, j, i, v, h => by
    have e : lv_args j ((.inr (.inr w) :: t : List pv).map tv) = (j, tv (.inr (.inr w))) :: lv_args (j + 1) (t.map tv) := by
      obtain ⟨q, x⟩ := w
      cases x <;> rfl
    rw [e]
    cases i with
    | zero =>
      have h : some (Sum.inr (Sum.inr w)) = some v := h
      cases h
      exact ⟨List.mem_cons_self, List.mem_cons_self⟩
    | succ i =>
      have := largs_get t n (j + 1) i v h
      rw [show j + 1 + i = j + (i + 1) by omega] at this
      exact ⟨List.mem_cons_of_mem _ this.1, List.mem_cons_of_mem _ this.2⟩
  | .inr (.inl w) :: t, 1, j, i, v, h => by simp [largs, lget] at h
  | .inr (.inl w) :: t, n + 2, j, i, v, h => by
    have e : lv_args j ((.inr (.inl w) :: t : List pv).map tv) = (j, .long w) :: lv_args (j + 2) (t.map tv) := rfl
    rw [e]
    match i, h with
    | 0, h =>
      have h : some (Sum.inr (Sum.inl w)) = some v := h
      cases h
      exact ⟨List.mem_cons_self, List.mem_cons_self⟩
    | 1, h => cases h
    | i + 2, h =>
      have := largs_get t n (j + 2) i v h
      rw [show j + 2 + i = j + (i + 2) by omega] at this
      exact ⟨List.mem_cons_of_mem _ this.1, List.mem_cons_of_mem _ this.2⟩
theorem lgsl_len : ∀ (as : List pv), (lg_sl (as.map tv)).length = sw as
  | [] => rfl
  | .inl w :: t => by
    have := lgsl_len t
    simp only [lg_sl, List.map_cons, List.flatMap_cons, List.length_append] at this ⊢
    rw [this]
    show 1 + sw t = sw t + 1
    omega
  | .inr (.inl w) :: t => by
    have := lgsl_len t
    simp only [lg_sl, List.map_cons, List.flatMap_cons, List.length_append] at this ⊢
    rw [this]
    show 2 + sw t = sw t + 2
    omega
  | .inr (.inr (q, x)) :: t => by
    have := lgsl_len t
    simp only [lg_sl, List.map_cons, List.flatMap_cons, List.length_append] at this ⊢
    rw [this]
    cases x
    · show 1 + sw t = sw t + 1
      omega
    · show 1 + sw t = sw t + 1
      omega
/-- a method's contract, out of its table -/
theorem mv {y : MI} {P : Nat → Step} (T : TAB y P) {d mc ms : Nat} {as : List pv} {h : hp} {kk : Rt} (ha : sw as ≤ y.2.2.1) (body : ∀ Wm : Nx, (∀ (cut : Nat → Bool) (n pc : Nat) (L : Lo) (S : List pv) (h : hp) (cu su : Nat), P pc CL d mc ms kk (blk P cut Wm CL d mc ms kk n) L S h cu su → Wm pc L S h cu su) → Wm 0 (largs as y.2.2.1) [] h 0 0) : CL d y mc ms as h kk := by
  intro l G K Ls hok
  obtain ⟨hpl, ini, hin, hP⟩ := T
  refine Met.ofW (cc := y.2.1) (maxL := y.2.2.1) (ret := y.2.2.2) hpl rfl ?_
  intro p e s m args below meth c s₁ B hml hv
  obtain ⟨rfl, hB⟩ := hv
  have hts : ∀ w ∈ lw_g, w.before (as.map tv).toArray s = true := fun w hw => atoms_spec (ws := mws y) B.pre w (List.mem_cons_of_mem _ hw)
  have hlocks := B.notSynchronized
  have C : CX p l e (rmO d mc ms) s m (as.map tv).toArray below meth c G K y.1.cls y.2.1 y.2.2.1 y.2.2.2 ini d mc ms kk (MQ below (QcK G K kk) (as.map tv).toArray s mc ms (gA G)) := by
    refine ⟨B.exec, B.bytes, hml, findClass_of_methodNamed B.named, hts, ⟨Nat.le_refl _, Nat.le_refl _, Nat.le_refl _, Nat.le_refl _⟩, fun hi => (name_of_methodNamed B.named B.method).1.trans (hin hi), ?_⟩
    intro v h' cu su hk h1 h2 hrt K' Ls' H locs ls pc hB' hS hE hok' hd
    have hq : ∀ t : State, t.heap = H → s.WarmedH t.vm → QcK G K kk (as.map tv).toArray s (.returned (v.map tv)) t := by
      intro t ht hW
      refine ⟨⟨v, K', Ls', h', rfl, hk, ?_, hok', hE⟩, hS.F ht⟩
      rw [ht]
      exact (HB.here hS hB').warm hW
    refine W.widen (k := mc) (n := ms) h1 h2 ?_
    match v, hrt, hd, hq with
    | none, hrt, hd, hq => exact W.vret B.exec B.bytes (B.returns.trans hrt) hq hS.2.2 hd
    | some (.inl w), hrt, hd, hq =>
      rcases hrt with hrt | ⟨hrt, hw⟩
      · exact W.iret B.exec B.bytes (B.returns.trans hrt) hq hS.2.2 hd
      · refine W.zret B.exec B.bytes (B.returns.trans hrt) ?_ hq hS.2.2 hd
        rcases hw with rfl | rfl <;> decide
    | some (.inr (.inl w)), hrt, hd, hq => exact W.lret B.exec B.bytes (B.returns.trans hrt) hq hS.2.2 hd
    | some (.inr (.inr w)), hrt, hd, hq => exact (hrt : False).elim
  have key := body (WM p l e (rmO d mc ms) s m (as.map tv).toArray below meth c G K y.2.2.1 mc ms (MQ below (QcK G K kk) (as.map tv).toArray s mc ms (gA G))) (fun cut n pc L S h cu su hh => hP pc p l e (rmO d mc ms) s m _ below meth c G K d mc ms kk _ C _ (blk_ok hP C cut n) L S h cu su hh)
  have hl := lv_entry (as.map tv) (n := y.2.2.1) (by rw [lgsl_len]; exact ha)
  rw [lg_entry_eq]
  exact key (Nat.zero_le _) (Nat.zero_le _) K Ls s.heap [] _ hB va_S.rf (Ext.rf K) ⟨hl.1, hl.2.1, largs_len _ _ ha, fun i v hi => by
    obtain ⟨q1, q2⟩ := largs_get as _ 0 i v hi
    rw [Nat.zero_add] at q1
    exact ⟨hl.2.2 _ q1, hok v q2⟩⟩ (fun v hv => by cases hv)
end
