-- ===== PART A: goes FIRST, ahead of the names: the tables' words, and 'selects' of the private methods out of them =====
/-- a private method of a class that the tables say can be made, by its rows of tables_1 -/
def lw_okq (q : MethodName × Nat) : Prop := (q.1.cls ≠ "java/lang/invoke/MethodHandle" ∧ q.1.cls ≠ "java/lang/invoke/VarHandle") ∧ Cond.instantiable q.1.cls q.2 ∈ tables_1 ∧ Cond.privateMethod q.1 ∈ tables_1 ∧ Cond.instanceMethod q.1 ∈ tables_1
theorem lw_p0 : lw_okq (⟨"ChalkCastle", "found", "(I)I"⟩, 14) := ⟨⟨by decide +kernel, by decide +kernel⟩, List.mem_of_getElem? (i := 13) (by decide +kernel), List.mem_of_getElem? (i := 266) (by decide +kernel), List.mem_of_getElem? (i := 267) (by decide +kernel)⟩
theorem lw_p1 : lw_okq (⟨"ChalkCastle", "foundNone", "(I)I"⟩, 14) := ⟨⟨by decide +kernel, by decide +kernel⟩, List.mem_of_getElem? (i := 13) (by decide +kernel), List.mem_of_getElem? (i := 278) (by decide +kernel), List.mem_of_getElem? (i := 279) (by decide +kernel)⟩
theorem lw_p2 : lw_okq (⟨"ChalkCastle", "beginAct", "()V"⟩, 14) := ⟨⟨by decide +kernel, by decide +kernel⟩, List.mem_of_getElem? (i := 13) (by decide +kernel), List.mem_of_getElem? (i := 430) (by decide +kernel), List.mem_of_getElem? (i := 431) (by decide +kernel)⟩
theorem lw_p3 : lw_okq (⟨"ChalkCastle", "hasCastle", "()Z"⟩, 14) := ⟨⟨by decide +kernel, by decide +kernel⟩, List.mem_of_getElem? (i := 13) (by decide +kernel), List.mem_of_getElem? (i := 446) (by decide +kernel), List.mem_of_getElem? (i := 447) (by decide +kernel)⟩
theorem lw_p4 : lw_okq (⟨"ChalkCastle", "standingNow", "()I"⟩, 14) := ⟨⟨by decide +kernel, by decide +kernel⟩, List.mem_of_getElem? (i := 13) (by decide +kernel), List.mem_of_getElem? (i := 466) (by decide +kernel), List.mem_of_getElem? (i := 467) (by decide +kernel)⟩
theorem lw_p5 : lw_okq (⟨"ChalkCastle", "fallingWithout", "(I)I"⟩, 14) := ⟨⟨by decide +kernel, by decide +kernel⟩, List.mem_of_getElem? (i := 13) (by decide +kernel), List.mem_of_getElem? (i := 509) (by decide +kernel), List.mem_of_getElem? (i := 510) (by decide +kernel)⟩
theorem lw_p6 : lw_okq (⟨"ChalkCastle", "tellsWritings", "([III)Z"⟩, 14) := ⟨⟨by decide +kernel, by decide +kernel⟩, List.mem_of_getElem? (i := 13) (by decide +kernel), List.mem_of_getElem? (i := 536) (by decide +kernel), List.mem_of_getElem? (i := 537) (by decide +kernel)⟩
theorem lw_p7 : lw_okq (⟨"ChalkCastle", "onlyLessened", "([II)I"⟩, 14) := ⟨⟨by decide +kernel, by decide +kernel⟩, List.mem_of_getElem? (i := 13) (by decide +kernel), List.mem_of_getElem? (i := 558) (by decide +kernel), List.mem_of_getElem? (i := 559) (by decide +kernel)⟩
theorem lw_p8 : lw_okq (⟨"ChalkCastle", "fitsKind", "(II[III)Z"⟩, 14) := ⟨⟨by decide +kernel, by decide +kernel⟩, List.mem_of_getElem? (i := 13) (by decide +kernel), List.mem_of_getElem? (i := 566) (by decide +kernel), List.mem_of_getElem? (i := 567) (by decide +kernel)⟩
theorem lw_p9 : lw_okq (⟨"ChalkCastle", "linesAtOnce", "(II)I"⟩, 14) := ⟨⟨by decide +kernel, by decide +kernel⟩, List.mem_of_getElem? (i := 13) (by decide +kernel), List.mem_of_getElem? (i := 579) (by decide +kernel), List.mem_of_getElem? (i := 580) (by decide +kernel)⟩
theorem lw_p10 : lw_okq (⟨"ChalkCastle", "drawWriting", "(J)V"⟩, 14) := ⟨⟨by decide +kernel, by decide +kernel⟩, List.mem_of_getElem? (i := 13) (by decide +kernel), List.mem_of_getElem? (i := 606) (by decide +kernel), List.mem_of_getElem? (i := 607) (by decide +kernel)⟩
theorem lw_p11 : lw_okq (⟨"ChalkCastle", "rowsThere", "()I"⟩, 14) := ⟨⟨by decide +kernel, by decide +kernel⟩, List.mem_of_getElem? (i := 13) (by decide +kernel), List.mem_of_getElem? (i := 660) (by decide +kernel), List.mem_of_getElem? (i := 661) (by decide +kernel)⟩
theorem lw_p12 : lw_okq (⟨"ChalkCastleModel", "meets", "(I)I"⟩, 39) := ⟨⟨by decide +kernel, by decide +kernel⟩, List.mem_of_getElem? (i := 668) (by decide +kernel), List.mem_of_getElem? (i := 808) (by decide +kernel), List.mem_of_getElem? (i := 809) (by decide +kernel)⟩
theorem lw_p13 : lw_okq (⟨"ChalkCastleModel", "well", "(I)I"⟩, 39) := ⟨⟨by decide +kernel, by decide +kernel⟩, List.mem_of_getElem? (i := 668) (by decide +kernel), List.mem_of_getElem? (i := 813) (by decide +kernel), List.mem_of_getElem? (i := 814) (by decide +kernel)⟩
theorem lw_p14 : lw_okq (⟨"ChalkCastleModel", "isPart", "(III)Z"⟩, 39) := ⟨⟨by decide +kernel, by decide +kernel⟩, List.mem_of_getElem? (i := 668) (by decide +kernel), List.mem_of_getElem? (i := 828) (by decide +kernel), List.mem_of_getElem? (i := 829) (by decide +kernel)⟩
theorem lw_p15 : lw_okq (⟨"ChalkCastleModel", "reads", "()Z"⟩, 39) := ⟨⟨by decide +kernel, by decide +kernel⟩, List.mem_of_getElem? (i := 668) (by decide +kernel), List.mem_of_getElem? (i := 849) (by decide +kernel), List.mem_of_getElem? (i := 850) (by decide +kernel)⟩
def lw_privs_1 : List (MethodName × Nat) := [(⟨"ChalkCastle", "found", "(I)I"⟩, 14), (⟨"ChalkCastle", "foundNone", "(I)I"⟩, 14), (⟨"ChalkCastle", "beginAct", "()V"⟩, 14), (⟨"ChalkCastle", "hasCastle", "()Z"⟩, 14), (⟨"ChalkCastle", "standingNow", "()I"⟩, 14), (⟨"ChalkCastle", "fallingWithout", "(I)I"⟩, 14), (⟨"ChalkCastle", "tellsWritings", "([III)Z"⟩, 14), (⟨"ChalkCastle", "onlyLessened", "([II)I"⟩, 14), (⟨"ChalkCastle", "fitsKind", "(II[III)Z"⟩, 14), (⟨"ChalkCastle", "linesAtOnce", "(II)I"⟩, 14), (⟨"ChalkCastle", "drawWriting", "(J)V"⟩, 14), (⟨"ChalkCastle", "rowsThere", "()I"⟩, 14), (⟨"ChalkCastleModel", "meets", "(I)I"⟩, 39), (⟨"ChalkCastleModel", "well", "(I)I"⟩, 39), (⟨"ChalkCastleModel", "isPart", "(III)Z"⟩, 39), (⟨"ChalkCastleModel", "reads", "()Z"⟩, 39)]
theorem lw_r1 : ∀ q ∈ lw_privs_1, lw_okq q := List.forall_mem_cons.mpr ⟨lw_p0, List.forall_mem_cons.mpr ⟨lw_p1, List.forall_mem_cons.mpr ⟨lw_p2, List.forall_mem_cons.mpr ⟨lw_p3, List.forall_mem_cons.mpr ⟨lw_p4, List.forall_mem_cons.mpr ⟨lw_p5, List.forall_mem_cons.mpr ⟨lw_p6, List.forall_mem_cons.mpr ⟨lw_p7, List.forall_mem_cons.mpr ⟨lw_p8, List.forall_mem_cons.mpr ⟨lw_p9, List.forall_mem_cons.mpr ⟨lw_p10, List.forall_mem_cons.mpr ⟨lw_p11, List.forall_mem_cons.mpr ⟨lw_p12, List.forall_mem_cons.mpr ⟨lw_p13, List.forall_mem_cons.mpr ⟨lw_p14, List.forall_mem_cons.mpr ⟨lw_p15, fun _ h => absurd h List.not_mem_nil⟩⟩⟩⟩⟩⟩⟩⟩⟩⟩⟩⟩⟩⟩⟩⟩
theorem lw_p16 : lw_okq (⟨"ChalkCastleModel", "readsLaw", "()Z"⟩, 39) := ⟨⟨by decide +kernel, by decide +kernel⟩, List.mem_of_getElem? (i := 668) (by decide +kernel), List.mem_of_getElem? (i := 853) (by decide +kernel), List.mem_of_getElem? (i := 854) (by decide +kernel)⟩
theorem lw_p17 : lw_okq (⟨"ChalkCastleModel", "readsSign", "(I)Z"⟩, 39) := ⟨⟨by decide +kernel, by decide +kernel⟩, List.mem_of_getElem? (i := 668) (by decide +kernel), List.mem_of_getElem? (i := 857) (by decide +kernel), List.mem_of_getElem? (i := 858) (by decide +kernel)⟩
theorem lw_p18 : lw_okq (⟨"ChalkCastleModel", "here", "()I"⟩, 39) := ⟨⟨by decide +kernel, by decide +kernel⟩, List.mem_of_getElem? (i := 668) (by decide +kernel), List.mem_of_getElem? (i := 861) (by decide +kernel), List.mem_of_getElem? (i := 862) (by decide +kernel)⟩
theorem lw_p19 : lw_okq (⟨"ChalkCastleModel", "fails", "(I)Z"⟩, 39) := ⟨⟨by decide +kernel, by decide +kernel⟩, List.mem_of_getElem? (i := 668) (by decide +kernel), List.mem_of_getElem? (i := 865) (by decide +kernel), List.mem_of_getElem? (i := 866) (by decide +kernel)⟩
theorem lw_p20 : lw_okq (⟨"ChalkCastleModel", "number", "(II)I"⟩, 39) := ⟨⟨by decide +kernel, by decide +kernel⟩, List.mem_of_getElem? (i := 668) (by decide +kernel), List.mem_of_getElem? (i := 869) (by decide +kernel), List.mem_of_getElem? (i := 870) (by decide +kernel)⟩
theorem lw_p21 : lw_okq (⟨"ChalkCastleModel", "run", "()I"⟩, 39) := ⟨⟨by decide +kernel, by decide +kernel⟩, List.mem_of_getElem? (i := 668) (by decide +kernel), List.mem_of_getElem? (i := 873) (by decide +kernel), List.mem_of_getElem? (i := 874) (by decide +kernel)⟩
theorem lw_p22 : lw_okq (⟨"ChalkCastleModel", "isFigure", "(I)Z"⟩, 39) := ⟨⟨by decide +kernel, by decide +kernel⟩, List.mem_of_getElem? (i := 668) (by decide +kernel), List.mem_of_getElem? (i := 877) (by decide +kernel), List.mem_of_getElem? (i := 878) (by decide +kernel)⟩
theorem lw_p23 : lw_okq (⟨"ChalkCastleModel", "readsItem", "()Z"⟩, 39) := ⟨⟨by decide +kernel, by decide +kernel⟩, List.mem_of_getElem? (i := 668) (by decide +kernel), List.mem_of_getElem? (i := 881) (by decide +kernel), List.mem_of_getElem? (i := 882) (by decide +kernel)⟩
theorem lw_p24 : lw_okq (⟨"ChalkCastleModel", "readsBlock", "()Z"⟩, 39) := ⟨⟨by decide +kernel, by decide +kernel⟩, List.mem_of_getElem? (i := 668) (by decide +kernel), List.mem_of_getElem? (i := 885) (by decide +kernel), List.mem_of_getElem? (i := 886) (by decide +kernel)⟩
theorem lw_p25 : lw_okq (⟨"ChalkCastleModel", "readsRest", "()Z"⟩, 39) := ⟨⟨by decide +kernel, by decide +kernel⟩, List.mem_of_getElem? (i := 668) (by decide +kernel), List.mem_of_getElem? (i := 889) (by decide +kernel), List.mem_of_getElem? (i := 890) (by decide +kernel)⟩
theorem lw_p26 : lw_okq (⟨"ChalkCastleModel", "readsClerk", "()Z"⟩, 39) := ⟨⟨by decide +kernel, by decide +kernel⟩, List.mem_of_getElem? (i := 668) (by decide +kernel), List.mem_of_getElem? (i := 896) (by decide +kernel), List.mem_of_getElem? (i := 897) (by decide +kernel)⟩
theorem lw_p27 : lw_okq (⟨"ChalkCastleModel", "isClerk", "(I)Z"⟩, 39) := ⟨⟨by decide +kernel, by decide +kernel⟩, List.mem_of_getElem? (i := 668) (by decide +kernel), List.mem_of_getElem? (i := 914) (by decide +kernel), List.mem_of_getElem? (i := 915) (by decide +kernel)⟩
theorem lw_p28 : lw_okq (⟨"ChalkCastleModel", "isBlock", "(I)Z"⟩, 39) := ⟨⟨by decide +kernel, by decide +kernel⟩, List.mem_of_getElem? (i := 668) (by decide +kernel), List.mem_of_getElem? (i := 918) (by decide +kernel), List.mem_of_getElem? (i := 919) (by decide +kernel)⟩
theorem lw_p29 : lw_okq (⟨"ChalkCastleModel", "takesOf", "([III)I"⟩, 39) := ⟨⟨by decide +kernel, by decide +kernel⟩, List.mem_of_getElem? (i := 668) (by decide +kernel), List.mem_of_getElem? (i := 922) (by decide +kernel), List.mem_of_getElem? (i := 923) (by decide +kernel)⟩
theorem lw_p30 : lw_okq (⟨"ChalkCastleModel", "takesBy", "(IIII)I"⟩, 39) := ⟨⟨by decide +kernel, by decide +kernel⟩, List.mem_of_getElem? (i := 668) (by decide +kernel), List.mem_of_getElem? (i := 926) (by decide +kernel), List.mem_of_getElem? (i := 927) (by decide +kernel)⟩
theorem lw_p31 : lw_okq (⟨"ChalkCastleModel", "remember", "()V"⟩, 39) := ⟨⟨by decide +kernel, by decide +kernel⟩, List.mem_of_getElem? (i := 668) (by decide +kernel), List.mem_of_getElem? (i := 933) (by decide +kernel), List.mem_of_getElem? (i := 934) (by decide +kernel)⟩
def lw_privs_2 : List (MethodName × Nat) := [(⟨"ChalkCastleModel", "readsLaw", "()Z"⟩, 39), (⟨"ChalkCastleModel", "readsSign", "(I)Z"⟩, 39), (⟨"ChalkCastleModel", "here", "()I"⟩, 39), (⟨"ChalkCastleModel", "fails", "(I)Z"⟩, 39), (⟨"ChalkCastleModel", "number", "(II)I"⟩, 39), (⟨"ChalkCastleModel", "run", "()I"⟩, 39), (⟨"ChalkCastleModel", "isFigure", "(I)Z"⟩, 39), (⟨"ChalkCastleModel", "readsItem", "()Z"⟩, 39), (⟨"ChalkCastleModel", "readsBlock", "()Z"⟩, 39), (⟨"ChalkCastleModel", "readsRest", "()Z"⟩, 39), (⟨"ChalkCastleModel", "readsClerk", "()Z"⟩, 39), (⟨"ChalkCastleModel", "isClerk", "(I)Z"⟩, 39), (⟨"ChalkCastleModel", "isBlock", "(I)Z"⟩, 39), (⟨"ChalkCastleModel", "takesOf", "([III)I"⟩, 39), (⟨"ChalkCastleModel", "takesBy", "(IIII)I"⟩, 39), (⟨"ChalkCastleModel", "remember", "()V"⟩, 39)]
theorem lw_r2 : ∀ q ∈ lw_privs_2, lw_okq q := List.forall_mem_cons.mpr ⟨lw_p16, List.forall_mem_cons.mpr ⟨lw_p17, List.forall_mem_cons.mpr ⟨lw_p18, List.forall_mem_cons.mpr ⟨lw_p19, List.forall_mem_cons.mpr ⟨lw_p20, List.forall_mem_cons.mpr ⟨lw_p21, List.forall_mem_cons.mpr ⟨lw_p22, List.forall_mem_cons.mpr ⟨lw_p23, List.forall_mem_cons.mpr ⟨lw_p24, List.forall_mem_cons.mpr ⟨lw_p25, List.forall_mem_cons.mpr ⟨lw_p26, List.forall_mem_cons.mpr ⟨lw_p27, List.forall_mem_cons.mpr ⟨lw_p28, List.forall_mem_cons.mpr ⟨lw_p29, List.forall_mem_cons.mpr ⟨lw_p30, List.forall_mem_cons.mpr ⟨lw_p31, fun _ h => absurd h List.not_mem_nil⟩⟩⟩⟩⟩⟩⟩⟩⟩⟩⟩⟩⟩⟩⟩⟩
theorem lw_p32 : lw_okq (⟨"ChalkCastleModel", "writes", "([IIII)Z"⟩, 39) := ⟨⟨by decide +kernel, by decide +kernel⟩, List.mem_of_getElem? (i := 668) (by decide +kernel), List.mem_of_getElem? (i := 937) (by decide +kernel), List.mem_of_getElem? (i := 938) (by decide +kernel)⟩
theorem lw_p33 : lw_okq (⟨"ChalkCastleModel", "rainsOn", "([I)V"⟩, 39) := ⟨⟨by decide +kernel, by decide +kernel⟩, List.mem_of_getElem? (i := 668) (by decide +kernel), List.mem_of_getElem? (i := 949) (by decide +kernel), List.mem_of_getElem? (i := 950) (by decide +kernel)⟩
theorem lw_p34 : lw_okq (⟨"ChalkCastleModel", "standing", "([I)I"⟩, 39) := ⟨⟨by decide +kernel, by decide +kernel⟩, List.mem_of_getElem? (i := 668) (by decide +kernel), List.mem_of_getElem? (i := 953) (by decide +kernel), List.mem_of_getElem? (i := 954) (by decide +kernel)⟩
theorem lw_p35 : lw_okq (⟨"ChalkCastleModel", "restingOn", "(I)I"⟩, 39) := ⟨⟨by decide +kernel, by decide +kernel⟩, List.mem_of_getElem? (i := 668) (by decide +kernel), List.mem_of_getElem? (i := 957) (by decide +kernel), List.mem_of_getElem? (i := 958) (by decide +kernel)⟩
theorem lw_p36 : lw_okq (⟨"ChalkCastleModel", "fallen", "([I)I"⟩, 39) := ⟨⟨by decide +kernel, by decide +kernel⟩, List.mem_of_getElem? (i := 668) (by decide +kernel), List.mem_of_getElem? (i := 981) (by decide +kernel), List.mem_of_getElem? (i := 982) (by decide +kernel)⟩
theorem lw_p37 : lw_okq (⟨"ChalkCastleModel", "allChalk", "()I"⟩, 39) := ⟨⟨by decide +kernel, by decide +kernel⟩, List.mem_of_getElem? (i := 668) (by decide +kernel), List.mem_of_getElem? (i := 985) (by decide +kernel), List.mem_of_getElem? (i := 986) (by decide +kernel)⟩
theorem lw_p38 : lw_okq (⟨"ChalkCastleModel", "allLines", "()I"⟩, 39) := ⟨⟨by decide +kernel, by decide +kernel⟩, List.mem_of_getElem? (i := 668) (by decide +kernel), List.mem_of_getElem? (i := 989) (by decide +kernel), List.mem_of_getElem? (i := 990) (by decide +kernel)⟩
theorem lw_p39 : lw_okq (⟨"ChalkCastleModel", "isBlocks", "(I)Z"⟩, 39) := ⟨⟨by decide +kernel, by decide +kernel⟩, List.mem_of_getElem? (i := 668) (by decide +kernel), List.mem_of_getElem? (i := 997) (by decide +kernel), List.mem_of_getElem? (i := 998) (by decide +kernel)⟩
theorem lw_p40 : lw_okq (⟨"ChalkCastleModel", "standingWithout", "(I)I"⟩, 39) := ⟨⟨by decide +kernel, by decide +kernel⟩, List.mem_of_getElem? (i := 668) (by decide +kernel), List.mem_of_getElem? (i := 1001) (by decide +kernel), List.mem_of_getElem? (i := 1002) (by decide +kernel)⟩
theorem lw_p41 : lw_okq (⟨"ChalkCastleModel", "copyNow", "()V"⟩, 39) := ⟨⟨by decide +kernel, by decide +kernel⟩, List.mem_of_getElem? (i := 668) (by decide +kernel), List.mem_of_getElem? (i := 1005) (by decide +kernel), List.mem_of_getElem? (i := 1006) (by decide +kernel)⟩
theorem lw_p42 : lw_okq (⟨"ChalkCastleModel", "chalkBut", "(I)I"⟩, 39) := ⟨⟨by decide +kernel, by decide +kernel⟩, List.mem_of_getElem? (i := 668) (by decide +kernel), List.mem_of_getElem? (i := 1020) (by decide +kernel), List.mem_of_getElem? (i := 1021) (by decide +kernel)⟩
theorem lw_p43 : lw_okq (⟨"ChalkCastleModel", "itemAt", "(II)I"⟩, 39) := ⟨⟨by decide +kernel, by decide +kernel⟩, List.mem_of_getElem? (i := 668) (by decide +kernel), List.mem_of_getElem? (i := 1032) (by decide +kernel), List.mem_of_getElem? (i := 1033) (by decide +kernel)⟩
theorem lw_p44 : lw_okq (⟨"ChalkCastleModel", "standingBy", "(IIII)I"⟩, 39) := ⟨⟨by decide +kernel, by decide +kernel⟩, List.mem_of_getElem? (i := 668) (by decide +kernel), List.mem_of_getElem? (i := 1036) (by decide +kernel), List.mem_of_getElem? (i := 1037) (by decide +kernel)⟩
theorem lw_p45 : lw_okq (⟨"ChalkCastleModel", "isLeft", "(IIII)Z"⟩, 39) := ⟨⟨by decide +kernel, by decide +kernel⟩, List.mem_of_getElem? (i := 668) (by decide +kernel), List.mem_of_getElem? (i := 1044) (by decide +kernel), List.mem_of_getElem? (i := 1045) (by decide +kernel)⟩
theorem lw_p46 : lw_okq (⟨"ChalkCastleModel", "isOf", "(II)Z"⟩, 39) := ⟨⟨by decide +kernel, by decide +kernel⟩, List.mem_of_getElem? (i := 668) (by decide +kernel), List.mem_of_getElem? (i := 1098) (by decide +kernel), List.mem_of_getElem? (i := 1099) (by decide +kernel)⟩
theorem lw_p47 : lw_okq (⟨"ChalkCastleModel", "sizeOf", "(I)I"⟩, 39) := ⟨⟨by decide +kernel, by decide +kernel⟩, List.mem_of_getElem? (i := 668) (by decide +kernel), List.mem_of_getElem? (i := 1106) (by decide +kernel), List.mem_of_getElem? (i := 1107) (by decide +kernel)⟩
def lw_privs_3 : List (MethodName × Nat) := [(⟨"ChalkCastleModel", "writes", "([IIII)Z"⟩, 39), (⟨"ChalkCastleModel", "rainsOn", "([I)V"⟩, 39), (⟨"ChalkCastleModel", "standing", "([I)I"⟩, 39), (⟨"ChalkCastleModel", "restingOn", "(I)I"⟩, 39), (⟨"ChalkCastleModel", "fallen", "([I)I"⟩, 39), (⟨"ChalkCastleModel", "allChalk", "()I"⟩, 39), (⟨"ChalkCastleModel", "allLines", "()I"⟩, 39), (⟨"ChalkCastleModel", "isBlocks", "(I)Z"⟩, 39), (⟨"ChalkCastleModel", "standingWithout", "(I)I"⟩, 39), (⟨"ChalkCastleModel", "copyNow", "()V"⟩, 39), (⟨"ChalkCastleModel", "chalkBut", "(I)I"⟩, 39), (⟨"ChalkCastleModel", "itemAt", "(II)I"⟩, 39), (⟨"ChalkCastleModel", "standingBy", "(IIII)I"⟩, 39), (⟨"ChalkCastleModel", "isLeft", "(IIII)Z"⟩, 39), (⟨"ChalkCastleModel", "isOf", "(II)Z"⟩, 39), (⟨"ChalkCastleModel", "sizeOf", "(I)I"⟩, 39)]
theorem lw_r3 : ∀ q ∈ lw_privs_3, lw_okq q := List.forall_mem_cons.mpr ⟨lw_p32, List.forall_mem_cons.mpr ⟨lw_p33, List.forall_mem_cons.mpr ⟨lw_p34, List.forall_mem_cons.mpr ⟨lw_p35, List.forall_mem_cons.mpr ⟨lw_p36, List.forall_mem_cons.mpr ⟨lw_p37, List.forall_mem_cons.mpr ⟨lw_p38, List.forall_mem_cons.mpr ⟨lw_p39, List.forall_mem_cons.mpr ⟨lw_p40, List.forall_mem_cons.mpr ⟨lw_p41, List.forall_mem_cons.mpr ⟨lw_p42, List.forall_mem_cons.mpr ⟨lw_p43, List.forall_mem_cons.mpr ⟨lw_p44, List.forall_mem_cons.mpr ⟨lw_p45, List.forall_mem_cons.mpr ⟨lw_p46, List.forall_mem_cons.mpr ⟨lw_p47, fun _ h => absurd h List.not_mem_nil⟩⟩⟩⟩⟩⟩⟩⟩⟩⟩⟩⟩⟩⟩⟩⟩
theorem lw_p48 : lw_okq (⟨"ChalkCastleModel", "body11", "(I)I"⟩, 39) := ⟨⟨by decide +kernel, by decide +kernel⟩, List.mem_of_getElem? (i := 668) (by decide +kernel), List.mem_of_getElem? (i := 1110) (by decide +kernel), List.mem_of_getElem? (i := 1111) (by decide +kernel)⟩
theorem lw_p49 : lw_okq (⟨"ChalkCastleModel", "leaves", "(I)V"⟩, 39) := ⟨⟨by decide +kernel, by decide +kernel⟩, List.mem_of_getElem? (i := 668) (by decide +kernel), List.mem_of_getElem? (i := 1114) (by decide +kernel), List.mem_of_getElem? (i := 1115) (by decide +kernel)⟩
theorem lw_p50 : lw_okq (⟨"ChalkCastleModel", "body10", "(I)I"⟩, 39) := ⟨⟨by decide +kernel, by decide +kernel⟩, List.mem_of_getElem? (i := 668) (by decide +kernel), List.mem_of_getElem? (i := 1118) (by decide +kernel), List.mem_of_getElem? (i := 1119) (by decide +kernel)⟩
theorem lw_p51 : lw_okq (⟨"ChalkCastleModel", "markOf", "(I)I"⟩, 39) := ⟨⟨by decide +kernel, by decide +kernel⟩, List.mem_of_getElem? (i := 668) (by decide +kernel), List.mem_of_getElem? (i := 1122) (by decide +kernel), List.mem_of_getElem? (i := 1123) (by decide +kernel)⟩
theorem lw_p52 : lw_okq (⟨"ChalkCastleModel", "body21", "(I)I"⟩, 39) := ⟨⟨by decide +kernel, by decide +kernel⟩, List.mem_of_getElem? (i := 668) (by decide +kernel), List.mem_of_getElem? (i := 1126) (by decide +kernel), List.mem_of_getElem? (i := 1127) (by decide +kernel)⟩
theorem lw_p53 : lw_okq (⟨"ChalkCastleModel", "body20", "(I)I"⟩, 39) := ⟨⟨by decide +kernel, by decide +kernel⟩, List.mem_of_getElem? (i := 668) (by decide +kernel), List.mem_of_getElem? (i := 1130) (by decide +kernel), List.mem_of_getElem? (i := 1131) (by decide +kernel)⟩
theorem lw_p54 : lw_okq (⟨"ChalkCastleModel", "boySize", "(I)I"⟩, 39) := ⟨⟨by decide +kernel, by decide +kernel⟩, List.mem_of_getElem? (i := 668) (by decide +kernel), List.mem_of_getElem? (i := 1134) (by decide +kernel), List.mem_of_getElem? (i := 1135) (by decide +kernel)⟩
theorem lw_p55 : lw_okq (⟨"ChalkCastleModel", "body13", "(I)I"⟩, 39) := ⟨⟨by decide +kernel, by decide +kernel⟩, List.mem_of_getElem? (i := 668) (by decide +kernel), List.mem_of_getElem? (i := 1138) (by decide +kernel), List.mem_of_getElem? (i := 1139) (by decide +kernel)⟩
def lw_privs_4 : List (MethodName × Nat) := [(⟨"ChalkCastleModel", "body11", "(I)I"⟩, 39), (⟨"ChalkCastleModel", "leaves", "(I)V"⟩, 39), (⟨"ChalkCastleModel", "body10", "(I)I"⟩, 39), (⟨"ChalkCastleModel", "markOf", "(I)I"⟩, 39), (⟨"ChalkCastleModel", "body21", "(I)I"⟩, 39), (⟨"ChalkCastleModel", "body20", "(I)I"⟩, 39), (⟨"ChalkCastleModel", "boySize", "(I)I"⟩, 39), (⟨"ChalkCastleModel", "body13", "(I)I"⟩, 39)]
theorem lw_r4 : ∀ q ∈ lw_privs_4, lw_okq q := List.forall_mem_cons.mpr ⟨lw_p48, List.forall_mem_cons.mpr ⟨lw_p49, List.forall_mem_cons.mpr ⟨lw_p50, List.forall_mem_cons.mpr ⟨lw_p51, List.forall_mem_cons.mpr ⟨lw_p52, List.forall_mem_cons.mpr ⟨lw_p53, List.forall_mem_cons.mpr ⟨lw_p54, List.forall_mem_cons.mpr ⟨lw_p55, fun _ h => absurd h List.not_mem_nil⟩⟩⟩⟩⟩⟩⟩⟩
def lw_privs : List (MethodName × Nat) := lw_privs_1 ++ (lw_privs_2 ++ (lw_privs_3 ++ (lw_privs_4)))
def lw_tbl : List Cond := k2_sels lw_privs ++ tables_1
theorem lw_privs_ok : ∀ q ∈ lw_privs, lw_okq q := by
  show ∀ q ∈ lw_privs_1 ++ (lw_privs_2 ++ (lw_privs_3 ++ (lw_privs_4))), lw_okq q
  exact List.forall_mem_append.mpr ⟨lw_r1, List.forall_mem_append.mpr ⟨lw_r2, List.forall_mem_append.mpr ⟨lw_r3, lw_r4⟩⟩⟩
def RX0 : String := "ChalkCastle$Asking"
def TX0 : u_T := fun k => match k with
  | 0 => ("ChalkCastle$Asking", "trace", "[I", true)
  | 1 => ("ChalkCastle$Asking", "length", "I", false)
  | 2 => ("ChalkCastle$Asking", "number", "I", false)
  | 3 => ("ChalkCastle$Asking", "kind", "I", false)
  | 4 => ("ChalkCastle$Asking", "hand", "I", false)
  | _ => ("ChalkCastle$Asking", "lines", "I", false)
def tyX0 : Nat → FieldType := fun k => match k with
  | 0 => .array .int
  | 1 => .int
  | 2 => .int
  | 3 => .int
  | 4 => .int
  | _ => .int
abbrev wsX00 : List Cond := u_ws RX0 TX0 6
theorem nmX0 : ∀ a, a < 6 → ∀ b, b < 6 → a ≠ b → (TX0 a).2.1 ≠ (TX0 b).2.1 := by decide +kernel
theorem tyX0_ok : ∀ k, k < 6 → parseFieldDescriptor (TX0 k).2.2.1 = some (tyX0 k) := by decide +kernel
abbrev cX0_init : ByteArray := prog_2_method_1_code
def yX0_init : MethodName := ⟨RX0, "<init>", "()V"⟩
abbrev cX0_begin : ByteArray := prog_2_method_2_code
def yX0_begin : MethodName := ⟨RX0, "begin", "(IIII)V"⟩
abbrev cX0_leave : ByteArray := prog_2_method_3_code
def yX0_leave : MethodName := ⟨RX0, "leave", "(I)V"⟩
def RX1 : String := "ChalkCastle$Plan"
def TX1 : u_T := fun k => match k with
  | 0 => ("ChalkCastle$Plan", "rain", "I", false)
  | 1 => ("ChalkCastle$Plan", "rubs", "I", false)
  | 2 => ("ChalkCastle$Plan", "blocks", "I", false)
  | 3 => ("ChalkCastle$Plan", "rests", "I", false)
  | 4 => ("ChalkCastle$Plan", "clerks", "I", false)
  | 5 => ("ChalkCastle$Plan", "chalk", "[I", true)
  | 6 => ("ChalkCastle$Plan", "below", "[I", true)
  | 7 => ("ChalkCastle$Plan", "layers", "[I", true)
  | 8 => ("ChalkCastle$Plan", "kinds", "[I", true)
  | _ => ("ChalkCastle$Plan", "hands", "[I", true)
def tyX1 : Nat → FieldType := fun k => match k with
  | 0 => .int
  | 1 => .int
  | 2 => .int
  | 3 => .int
  | 4 => .int
  | 5 => .array .int
  | 6 => .array .int
  | 7 => .array .int
  | 8 => .array .int
  | _ => .array .int
abbrev wsX10 : List Cond := u_ws RX1 TX1 10
theorem nmX1 : ∀ a, a < 10 → ∀ b, b < 10 → a ≠ b → (TX1 a).2.1 ≠ (TX1 b).2.1 := by decide +kernel
theorem tyX1_ok : ∀ k, k < 10 → parseFieldDescriptor (TX1 k).2.2.1 = some (tyX1 k) := by decide +kernel
abbrev cX1_init : ByteArray := prog_3_method_1_code
def yX1_init : MethodName := ⟨RX1, "<init>", "()V"⟩
abbrev cX1_clear : ByteArray := prog_3_method_2_code
def yX1_clear : MethodName := ⟨RX1, "clear", "()V"⟩
abbrev cX1_become : ByteArray := prog_3_method_3_code
def yX1_become : MethodName := ⟨RX1, "become", "(LChalkCastle$Plan;)V"⟩
abbrev cX1_hasBlock : ByteArray := prog_3_method_4_code
def yX1_hasBlock : MethodName := ⟨RX1, "hasBlock", "(I)Z"⟩
abbrev cX1_hasClerk : ByteArray := prog_3_method_5_code
def yX1_hasClerk : MethodName := ⟨RX1, "hasClerk", "(I)Z"⟩
abbrev cX1_areBlocks : ByteArray := prog_3_method_6_code
def yX1_areBlocks : MethodName := ⟨RX1, "areBlocks", "(I)Z"⟩
abbrev cX1_above : ByteArray := prog_3_method_7_code
def yX1_above : MethodName := ⟨RX1, "above", "(I)I"⟩
abbrev cX1_standing : ByteArray := prog_3_method_8_code
def yX1_standing : MethodName := ⟨RX1, "standing", "(I)I"⟩
abbrev cX1_settleLayers : ByteArray := prog_3_method_9_code
def yX1_settleLayers : MethodName := ⟨RX1, "settleLayers", "()V"⟩
abbrev cX1_chalkFor : ByteArray := prog_3_method_10_code
def yX1_chalkFor : MethodName := ⟨RX1, "chalkFor", "(III)I"⟩
abbrev cX1_letRain : ByteArray := prog_3_method_11_code
def yX1_letRain : MethodName := ⟨RX1, "letRain", "(LChalkCastle$State;)V"⟩
def RX2 : String := "ChalkCastle$Reader"
def TX2 : u_T := fun k => match k with
  | 0 => ("ChalkCastle$Reader", "plan", "LChalkCastle$Plan;", true)
  | 1 => ("ChalkCastle$Reader", "tape", "[I", true)
  | 2 => ("ChalkCastle$Reader", "bytes", "I", false)
  | 3 => ("ChalkCastle$Reader", "place", "I", false)
  | _ => ("ChalkCastle$Reader", "fault", "I", false)
def tyX2 : Nat → FieldType := fun k => match k with
  | 0 => .object "ChalkCastle$Plan"
  | 1 => .array .int
  | 2 => .int
  | 3 => .int
  | _ => .int
abbrev wsX20 : List Cond := u_ws RX2 TX2 5
theorem nmX2 : ∀ a, a < 5 → ∀ b, b < 5 → a ≠ b → (TX2 a).2.1 ≠ (TX2 b).2.1 := by decide +kernel
theorem tyX2_ok : ∀ k, k < 5 → parseFieldDescriptor (TX2 k).2.2.1 = some (tyX2 k) := by decide +kernel
abbrev cX2_init : ByteArray := prog_4_method_1_code
def yX2_init : MethodName := ⟨RX2, "<init>", "()V"⟩
abbrev cX2_hasTaken : ByteArray := prog_4_method_2_code
def yX2_hasTaken : MethodName := ⟨RX2, "hasTaken", "(I)Z"⟩
abbrev cX2_readCastle : ByteArray := prog_4_method_3_code
def yX2_readCastle : MethodName := ⟨RX2, "readCastle", "()V"⟩
abbrev cX2_readLaw : ByteArray := prog_4_method_4_code
def yX2_readLaw : MethodName := ⟨RX2, "readLaw", "()V"⟩
abbrev cX2_readBlock : ByteArray := prog_4_method_5_code
def yX2_readBlock : MethodName := ⟨RX2, "readBlock", "()V"⟩
abbrev cX2_readRest : ByteArray := prog_4_method_6_code
def yX2_readRest : MethodName := ⟨RX2, "readRest", "()V"⟩
abbrev cX2_readClerk : ByteArray := prog_4_method_7_code
def yX2_readClerk : MethodName := ⟨RX2, "readClerk", "()V"⟩
abbrev cX2_kindOf : ByteArray := prog_4_method_8_code
def yX2_kindOf : MethodName := ⟨RX2, "kindOf", "(I)I"⟩
abbrev cX2_letter : ByteArray := prog_4_method_9_code
def yX2_letter : MethodName := ⟨RX2, "letter", "()I"⟩
abbrev cX2_lookForRoom : ByteArray := prog_4_method_10_code
def yX2_lookForRoom : MethodName := ⟨RX2, "lookForRoom", "(III)V"⟩
abbrev cX2_readSign : ByteArray := prog_4_method_11_code
def yX2_readSign : MethodName := ⟨RX2, "readSign", "(I)V"⟩
abbrev cX2_readNumber : ByteArray := prog_4_method_12_code
def yX2_readNumber : MethodName := ⟨RX2, "readNumber", "(II)I"⟩
def RX3 : String := "ChalkCastle$Row"
def TX3 : u_T := fun k => match k with
  | 0 => ("ChalkCastle$Row", "items", "[I", true)
  | 1 => ("ChalkCastle$Row", "lane", "I", false)
  | _ => ("ChalkCastle$Row", "length", "I", false)
def tyX3 : Nat → FieldType := fun k => match k with
  | 0 => .array .int
  | 1 => .int
  | _ => .int
abbrev wsX30 : List Cond := u_ws RX3 TX3 3
theorem nmX3 : ∀ a, a < 3 → ∀ b, b < 3 → a ≠ b → (TX3 a).2.1 ≠ (TX3 b).2.1 := by decide +kernel
theorem tyX3_ok : ∀ k, k < 3 → parseFieldDescriptor (TX3 k).2.2.1 = some (tyX3 k) := by decide +kernel
abbrev cX3_init : ByteArray := prog_5_method_1_code
def yX3_init : MethodName := ⟨RX3, "<init>", "()V"⟩
abbrev cX3_begin : ByteArray := prog_5_method_2_code
def yX3_begin : MethodName := ⟨RX3, "begin", "(II)V"⟩
abbrev cX3_drop : ByteArray := prog_5_method_3_code
def yX3_drop : MethodName := ⟨RX3, "drop", "()V"⟩
abbrev cX3_isMissing : ByteArray := prog_5_method_4_code
def yX3_isMissing : MethodName := ⟨RX3, "isMissing", "()Z"⟩
abbrev cX3_hasPlaces : ByteArray := prog_5_method_5_code
def yX3_hasPlaces : MethodName := ⟨RX3, "hasPlaces", "(II)Z"⟩
abbrev cX3_lackOf : ByteArray := prog_5_method_6_code
def yX3_lackOf : MethodName := ⟨RX3, "lackOf", "(II)I"⟩
abbrev cX3_lowestBits : ByteArray := prog_5_method_7_code
def yX3_lowestBits : MethodName := ⟨RX3, "lowestBits", "(I)I"⟩
def RX4 : String := "ChalkCastle$Search"
def TX4 : u_T := fun k => match k with
  | 0 => ("ChalkCastle$Search", "state", "LChalkCastle$State;", true)
  | 1 => ("ChalkCastle$Search", "needs", "[I", true)
  | 2 => ("ChalkCastle$Search", "way", "[I", true)
  | 3 => ("ChalkCastle$Search", "firstWay", "[I", true)
  | 4 => ("ChalkCastle$Search", "n", "I", false)
  | _ => ("ChalkCastle$Search", "most", "I", false)
def tyX4 : Nat → FieldType := fun k => match k with
  | 0 => .object "ChalkCastle$State"
  | 1 => .array .int
  | 2 => .array .int
  | 3 => .array .int
  | 4 => .int
  | _ => .int
abbrev wsX40 : List Cond := u_ws RX4 TX4 6
theorem nmX4 : ∀ a, a < 6 → ∀ b, b < 6 → a ≠ b → (TX4 a).2.1 ≠ (TX4 b).2.1 := by decide +kernel
theorem tyX4_ok : ∀ k, k < 6 → parseFieldDescriptor (TX4 k).2.2.1 = some (tyX4 k) := by decide +kernel
abbrev cX4_init : ByteArray := prog_6_method_1_code
def yX4_init : MethodName := ⟨RX4, "<init>", "()V"⟩
abbrev cX4_begin : ByteArray := prog_6_method_2_code
def yX4_begin : MethodName := ⟨RX4, "begin", "(LChalkCastle$State;I)V"⟩
abbrev cX4_keepWay : ByteArray := prog_6_method_3_code
def yX4_keepWay : MethodName := ⟨RX4, "keepWay", "(I)V"⟩
def RX5 : String := "ChalkCastle$State"
def TX5 : u_T := fun k => match k with
  | 0 => ("ChalkCastle$State", "chalk", "[I", true)
  | 1 => ("ChalkCastle$State", "lines", "[I", true)
  | 2 => ("ChalkCastle$State", "dust", "I", false)
  | _ => ("ChalkCastle$State", "day", "I", false)
def tyX5 : Nat → FieldType := fun k => match k with
  | 0 => .array .int
  | 1 => .array .int
  | 2 => .int
  | _ => .int
abbrev wsX50 : List Cond := u_ws RX5 TX5 4
theorem nmX5 : ∀ a, a < 4 → ∀ b, b < 4 → a ≠ b → (TX5 a).2.1 ≠ (TX5 b).2.1 := by decide +kernel
theorem tyX5_ok : ∀ k, k < 4 → parseFieldDescriptor (TX5 k).2.2.1 = some (tyX5 k) := by decide +kernel
abbrev cX5_init : ByteArray := prog_7_method_1_code
def yX5_init : MethodName := ⟨RX5, "<init>", "()V"⟩
abbrev cX5_begin : ByteArray := prog_7_method_2_code
def yX5_begin : MethodName := ⟨RX5, "begin", "(LChalkCastle$Plan;)V"⟩
abbrev cX5_become : ByteArray := prog_7_method_3_code
def yX5_become : MethodName := ⟨RX5, "become", "(LChalkCastle$State;)V"⟩
abbrev cX5_useUp : ByteArray := prog_7_method_4_code
def yX5_useUp : MethodName := ⟨RX5, "useUp", "(II)V"⟩
abbrev cX5_withChalk : ByteArray := prog_7_method_5_code
def yX5_withChalk : MethodName := ⟨RX5, "withChalk", "()I"⟩
abbrev cX5_allChalk : ByteArray := prog_7_method_6_code
def yX5_allChalk : MethodName := ⟨RX5, "allChalk", "()I"⟩
abbrev cX5_allLines : ByteArray := prog_7_method_7_code
def yX5_allLines : MethodName := ⟨RX5, "allLines", "()I"⟩
def RX6 : String := "ChalkCastle"
def TX6 : u_T := fun k => match k with
  | 0 => ("ChalkCastle", "rows", "[LChalkCastle$Row;", true)
  | 1 => ("ChalkCastle", "reader", "LChalkCastle$Reader;", true)
  | 2 => ("ChalkCastle", "latestFault", "I", false)
  | 3 => ("ChalkCastle", "finding", "I", false)
  | 4 => ("ChalkCastle", "plan", "LChalkCastle$Plan;", true)
  | 5 => ("ChalkCastle", "now", "LChalkCastle$State;", true)
  | 6 => ("ChalkCastle", "ahead", "[LChalkCastle$State;", true)
  | 7 => ("ChalkCastle", "nextAct", "I", false)
  | 8 => ("ChalkCastle", "acts", "I", false)
  | 9 => ("ChalkCastle", "imagePlans", "[LChalkCastle$Plan;", true)
  | 10 => ("ChalkCastle", "imageStates", "[LChalkCastle$State;", true)
  | 11 => ("ChalkCastle", "foretold", "LChalkCastle$State;", true)
  | 12 => ("ChalkCastle", "search", "LChalkCastle$Search;", true)
  | _ => ("ChalkCastle", "asking", "LChalkCastle$Asking;", true)
def tyX6 : Nat → FieldType := fun k => match k with
  | 0 => .array (.object "ChalkCastle$Row")
  | 1 => .object "ChalkCastle$Reader"
  | 2 => .int
  | 3 => .int
  | 4 => .object "ChalkCastle$Plan"
  | 5 => .object "ChalkCastle$State"
  | 6 => .array (.object "ChalkCastle$State")
  | 7 => .int
  | 8 => .int
  | 9 => .array (.object "ChalkCastle$Plan")
  | 10 => .array (.object "ChalkCastle$State")
  | 11 => .object "ChalkCastle$State"
  | 12 => .object "ChalkCastle$Search"
  | _ => .object "ChalkCastle$Asking"
abbrev wsX60 : List Cond := u_ws RX6 TX6 14
theorem nmX6 : ∀ a, a < 14 → ∀ b, b < 14 → a ≠ b → (TX6 a).2.1 ≠ (TX6 b).2.1 := by decide +kernel
theorem tyX6_ok : ∀ k, k < 14 → parseFieldDescriptor (TX6 k).2.2.1 = some (tyX6 k) := by decide +kernel
abbrev cX6_init : ByteArray := prog_1_method_1_code
def yX6_init : MethodName := ⟨RX6, "<init>", "()V"⟩
abbrev cX6_row : ByteArray := prog_1_method_2_code
def yX6_row : MethodName := ⟨RX6, "row", "(III)I"⟩
abbrev cX6_set : ByteArray := prog_1_method_3_code
def yX6_set : MethodName := ⟨RX6, "set", "(III)I"⟩
abbrev cX6_copy : ByteArray := prog_1_method_4_code
def yX6_copy : MethodName := ⟨RX6, "copy", "(IIIII)I"⟩
abbrev cX6_drop : ByteArray := prog_1_method_5_code
def yX6_drop : MethodName := ⟨RX6, "drop", "(I)I"⟩
abbrev cX6_feed : ByteArray := prog_1_method_6_code
def yX6_feed : MethodName := ⟨RX6, "feed", "(I)I"⟩
abbrev cX6_castle : ByteArray := prog_1_method_7_code
def yX6_castle : MethodName := ⟨RX6, "castle", "()I"⟩
abbrev cX6_fault : ByteArray := prog_1_method_8_code
def yX6_fault : MethodName := ⟨RX6, "fault", "()I"⟩
abbrev cX6_undo : ByteArray := prog_1_method_9_code
def yX6_undo : MethodName := ⟨RX6, "undo", "()I"⟩
abbrev cX6_write : ByteArray := prog_1_method_10_code
def yX6_write : MethodName := ⟨RX6, "write", "(III)I"⟩
abbrev cX6_rub : ByteArray := prog_1_method_11_code
def yX6_rub : MethodName := ⟨RX6, "rub", "(II)I"⟩
abbrev cX6_rain : ByteArray := prog_1_method_12_code
def yX6_rain : MethodName := ⟨RX6, "rain", "()I"⟩
abbrev cX6_days : ByteArray := prog_1_method_13_code
def yX6_days : MethodName := ⟨RX6, "days", "(I)I"⟩
abbrev cX6_block : ByteArray := prog_1_method_14_code
def yX6_block : MethodName := ⟨RX6, "block", "(II)I"⟩
abbrev cX6_clerk : ByteArray := prog_1_method_15_code
def yX6_clerk : MethodName := ⟨RX6, "clerk", "(II)I"⟩
abbrev cX6_takes : ByteArray := prog_1_method_16_code
def yX6_takes : MethodName := ⟨RX6, "takes", "(II)I"⟩
abbrev cX6_stand : ByteArray := prog_1_method_17_code
def yX6_stand : MethodName := ⟨RX6, "stand", "(I)I"⟩
abbrev cX6_wouldFall : ByteArray := prog_1_method_18_code
def yX6_wouldFall : MethodName := ⟨RX6, "wouldFall", "(I)I"⟩
abbrev cX6_left : ByteArray := prog_1_method_19_code
def yX6_left : MethodName := ⟨RX6, "left", "(I)I"⟩
abbrev cX6_leastFallen : ByteArray := prog_1_method_20_code
def yX6_leastFallen : MethodName := ⟨RX6, "leastFallen", "(III)I"⟩
abbrev cX6_must : ByteArray := prog_1_method_21_code
def yX6_must : MethodName := ⟨RX6, "must", "()I"⟩
abbrev cX6_writings : ByteArray := prog_1_method_22_code
def yX6_writings : MethodName := ⟨RX6, "writings", "(IIII)I"⟩
abbrev cX6_from : ByteArray := prog_1_method_23_code
def yX6_from : MethodName := ⟨RX6, "from", "(III)I"⟩
abbrev cX6_who : ByteArray := prog_1_method_24_code
def yX6_who : MethodName := ⟨RX6, "who", "(IIII)I"⟩
abbrev cX6_layer : ByteArray := prog_1_method_25_code
def yX6_layer : MethodName := ⟨RX6, "layer", "(I)I"⟩
abbrev cX6_longest : ByteArray := prog_1_method_26_code
def yX6_longest : MethodName := ⟨RX6, "longest", "(II)I"⟩
abbrev cX6_rains : ByteArray := prog_1_method_27_code
def yX6_rains : MethodName := ⟨RX6, "rains", "(III)J"⟩
abbrev cX6_share : ByteArray := prog_1_method_28_code
def yX6_share : MethodName := ⟨RX6, "share", "(II)I"⟩
abbrev cX6_drawn : ByteArray := prog_1_method_29_code
def yX6_drawn : MethodName := ⟨RX6, "drawn", "(III)I"⟩
abbrev cX6_image : ByteArray := prog_1_method_30_code
def yX6_image : MethodName := ⟨RX6, "image", "(I)I"⟩
abbrev cX6_restore : ByteArray := prog_1_method_31_code
def yX6_restore : MethodName := ⟨RX6, "restore", "(I)I"⟩
abbrev cX6_kind : ByteArray := prog_1_method_32_code
def yX6_kind : MethodName := ⟨RX6, "kind", "(I)I"⟩
abbrev cX6_as : ByteArray := prog_1_method_33_code
def yX6_as : MethodName := ⟨RX6, "as", "(II)I"⟩
abbrev cX6_ask : ByteArray := prog_1_method_34_code
def yX6_ask : MethodName := ⟨RX6, "ask", "(II)I"⟩
abbrev cX6_trace : ByteArray := prog_1_method_35_code
def yX6_trace : MethodName := ⟨RX6, "trace", "(I)I"⟩
abbrev cX6_count : ByteArray := prog_1_method_36_code
def yX6_count : MethodName := ⟨RX6, "count", "(I)I"⟩
abbrev cX6_status : ByteArray := prog_1_method_37_code
def yX6_status : MethodName := ⟨RX6, "status", "()I"⟩
abbrev cX6_isBelow : ByteArray := prog_1_method_38_code
def yX6_isBelow : MethodName := ⟨RX6, "isBelow", "(II)Z"⟩
abbrev cX6_isLines : ByteArray := prog_1_method_39_code
def yX6_isLines : MethodName := ⟨RX6, "isLines", "(I)Z"⟩
abbrev cX6_found : ByteArray := prog_1_method_40_code
def yX6_found : MethodName := ⟨RX6, "found", "(I)I"⟩
abbrev cX6_foundNone : ByteArray := prog_1_method_41_code
def yX6_foundNone : MethodName := ⟨RX6, "foundNone", "(I)I"⟩
abbrev cX6_hasCastle : ByteArray := prog_1_method_42_code
def yX6_hasCastle : MethodName := ⟨RX6, "hasCastle", "()Z"⟩
abbrev cX6_rowsThere : ByteArray := prog_1_method_43_code
def yX6_rowsThere : MethodName := ⟨RX6, "rowsThere", "()I"⟩
abbrev cX6_beginAct : ByteArray := prog_1_method_44_code
def yX6_beginAct : MethodName := ⟨RX6, "beginAct", "()V"⟩
abbrev cX6_standingNow : ByteArray := prog_1_method_45_code
def yX6_standingNow : MethodName := ⟨RX6, "standingNow", "()I"⟩
abbrev cX6_fallingWithout : ByteArray := prog_1_method_46_code
def yX6_fallingWithout : MethodName := ⟨RX6, "fallingWithout", "(I)I"⟩
abbrev cX6_tellsWritings : ByteArray := prog_1_method_47_code
def yX6_tellsWritings : MethodName := ⟨RX6, "tellsWritings", "([III)Z"⟩
abbrev cX6_tryBlocks : ByteArray := prog_1_method_48_code
def yX6_tryBlocks : MethodName := ⟨RX6, "tryBlocks", "(LChalkCastle$Plan;LChalkCastle$Search;I)V"⟩
abbrev cX6_onlyLessened : ByteArray := prog_1_method_49_code
def yX6_onlyLessened : MethodName := ⟨RX6, "onlyLessened", "([II)I"⟩
abbrev cX6_fitsKind : ByteArray := prog_1_method_50_code
def yX6_fitsKind : MethodName := ⟨RX6, "fitsKind", "(II[III)Z"⟩
abbrev cX6_linesAtOnce : ByteArray := prog_1_method_51_code
def yX6_linesAtOnce : MethodName := ⟨RX6, "linesAtOnce", "(II)I"⟩
abbrev cX6_drawWriting : ByteArray := prog_1_method_52_code
def yX6_drawWriting : MethodName := ⟨RX6, "drawWriting", "(J)V"⟩
abbrev cX6_answerOf : ByteArray := prog_1_method_53_code
def yX6_answerOf : MethodName := ⟨RX6, "answerOf", "(LChalkCastle$Asking;II)I"⟩
abbrev cX6_runBody : ByteArray := prog_1_method_54_code
def yX6_runBody : MethodName := ⟨RX6, "runBody", "(LChalkCastle$Asking;II)I"⟩
abbrev cX6_chalkByKind : ByteArray := prog_1_method_55_code
def yX6_chalkByKind : MethodName := ⟨RX6, "chalkByKind", "(IIII)I"⟩
abbrev cX6_power : ByteArray := prog_1_method_56_code
def yX6_power : MethodName := ⟨RX6, "power", "(JI)J"⟩
abbrev cX6_lowestTerms : ByteArray := prog_1_method_57_code
def yX6_lowestTerms : MethodName := ⟨RX6, "lowestTerms", "(JJI)J"⟩
def RX7 : String := "ChalkCastleModel"
def TX7 : u_T := fun k => match k with
  | 0 => ("ChalkCastleModel", "latest", "I", false)
  | 1 => ("ChalkCastleModel", "sizes", "[I", true)
  | 2 => ("ChalkCastleModel", "lanes", "[I", true)
  | 3 => ("ChalkCastleModel", "items", "[I", true)
  | 4 => ("ChalkCastleModel", "byteMany", "I", false)
  | 5 => ("ChalkCastleModel", "tape", "[I", true)
  | 6 => ("ChalkCastleModel", "faultNumber", "I", false)
  | 7 => ("ChalkCastleModel", "n", "I", false)
  | 8 => ("ChalkCastleModel", "restMany", "I", false)
  | 9 => ("ChalkCastleModel", "clerkMany", "I", false)
  | 10 => ("ChalkCastleModel", "rain", "I", false)
  | 11 => ("ChalkCastleModel", "rubs", "I", false)
  | 12 => ("ChalkCastleModel", "on", "[I", true)
  | 13 => ("ChalkCastleModel", "hands", "[I", true)
  | 14 => ("ChalkCastleModel", "kinds", "[I", true)
  | 15 => ("ChalkCastleModel", "now", "[I", true)
  | 16 => ("ChalkCastleModel", "tried", "[I", true)
  | 17 => ("ChalkCastleModel", "readAt", "I", false)
  | 18 => ("ChalkCastleModel", "readFault", "I", false)
  | 19 => ("ChalkCastleModel", "readBlocks", "I", false)
  | 20 => ("ChalkCastleModel", "readRests", "I", false)
  | 21 => ("ChalkCastleModel", "readClerks", "I", false)
  | 22 => ("ChalkCastleModel", "readLaw", "[I", true)
  | 23 => ("ChalkCastleModel", "readChalk", "[I", true)
  | 24 => ("ChalkCastleModel", "readOn", "[I", true)
  | 25 => ("ChalkCastleModel", "readHands", "[I", true)
  | 26 => ("ChalkCastleModel", "readKinds", "[I", true)
  | 27 => ("ChalkCastleModel", "actMany", "I", false)
  | 28 => ("ChalkCastleModel", "actAt", "I", false)
  | 29 => ("ChalkCastleModel", "acts", "[I", true)
  | 30 => ("ChalkCastleModel", "layers", "[I", true)
  | 31 => ("ChalkCastleModel", "isKept", "[Z", true)
  | 32 => ("ChalkCastleModel", "keptLaw", "[I", true)
  | 33 => ("ChalkCastleModel", "keptOn", "[I", true)
  | 34 => ("ChalkCastleModel", "keptHands", "[I", true)
  | 35 => ("ChalkCastleModel", "keptKinds", "[I", true)
  | 36 => ("ChalkCastleModel", "keptNow", "[I", true)
  | 37 => ("ChalkCastleModel", "traceMany", "I", false)
  | _ => ("ChalkCastleModel", "traced", "[I", true)
def tyX7 : Nat → FieldType := fun k => match k with
  | 0 => .int
  | 1 => .array .int
  | 2 => .array .int
  | 3 => .array .int
  | 4 => .int
  | 5 => .array .int
  | 6 => .int
  | 7 => .int
  | 8 => .int
  | 9 => .int
  | 10 => .int
  | 11 => .int
  | 12 => .array .int
  | 13 => .array .int
  | 14 => .array .int
  | 15 => .array .int
  | 16 => .array .int
  | 17 => .int
  | 18 => .int
  | 19 => .int
  | 20 => .int
  | 21 => .int
  | 22 => .array .int
  | 23 => .array .int
  | 24 => .array .int
  | 25 => .array .int
  | 26 => .array .int
  | 27 => .int
  | 28 => .int
  | 29 => .array .int
  | 30 => .array .int
  | 31 => .array .boolean
  | 32 => .array .int
  | 33 => .array .int
  | 34 => .array .int
  | 35 => .array .int
  | 36 => .array .int
  | 37 => .int
  | _ => .array .int
abbrev wsX70 : List Cond := u_ws RX7 TX7 39
theorem nmX7 : ∀ a, a < 39 → ∀ b, b < 39 → a ≠ b → (TX7 a).2.1 ≠ (TX7 b).2.1 := by decide +kernel
theorem tyX7_ok : ∀ k, k < 39 → parseFieldDescriptor (TX7 k).2.2.1 = some (tyX7 k) := by decide +kernel
abbrev cX7_init : ByteArray := prog_9_method_1_code
def yX7_init : MethodName := ⟨RX7, "<init>", "()V"⟩
abbrev cX7_in : ByteArray := prog_9_method_2_code
def yX7_in : MethodName := ⟨RX7, "in", "(III)Z"⟩
abbrev cX7_has : ByteArray := prog_9_method_3_code
def yX7_has : MethodName := ⟨RX7, "has", "(II)Z"⟩
abbrev cX7_bits : ByteArray := prog_9_method_4_code
def yX7_bits : MethodName := ⟨RX7, "bits", "(I)I"⟩
abbrev cX7_least : ByteArray := prog_9_method_5_code
def yX7_least : MethodName := ⟨RX7, "least", "(II)I"⟩
abbrev cX7_meets : ByteArray := prog_9_method_6_code
def yX7_meets : MethodName := ⟨RX7, "meets", "(I)I"⟩
abbrev cX7_well : ByteArray := prog_9_method_7_code
def yX7_well : MethodName := ⟨RX7, "well", "(I)I"⟩
abbrev cX7_status : ByteArray := prog_9_method_8_code
def yX7_status : MethodName := ⟨RX7, "status", "()I"⟩
abbrev cX7_isRow : ByteArray := prog_9_method_9_code
def yX7_isRow : MethodName := ⟨RX7, "isRow", "(I)Z"⟩
abbrev cX7_cut : ByteArray := prog_9_method_10_code
def yX7_cut : MethodName := ⟨RX7, "cut", "(II)I"⟩
abbrev cX7_row : ByteArray := prog_9_method_11_code
def yX7_row : MethodName := ⟨RX7, "row", "(III)I"⟩
abbrev cX7_set : ByteArray := prog_9_method_12_code
def yX7_set : MethodName := ⟨RX7, "set", "(III)I"⟩
abbrev cX7_isPart : ByteArray := prog_9_method_13_code
def yX7_isPart : MethodName := ⟨RX7, "isPart", "(III)Z"⟩
abbrev cX7_copy : ByteArray := prog_9_method_14_code
def yX7_copy : MethodName := ⟨RX7, "copy", "(IIIII)I"⟩
abbrev cX7_drop : ByteArray := prog_9_method_15_code
def yX7_drop : MethodName := ⟨RX7, "drop", "(I)I"⟩
abbrev cX7_itemAt : ByteArray := prog_9_method_16_code
def yX7_itemAt : MethodName := ⟨RX7, "itemAt", "(II)I"⟩
abbrev cX7_feed : ByteArray := prog_9_method_17_code
def yX7_feed : MethodName := ⟨RX7, "feed", "(I)I"⟩
abbrev cX7_fault : ByteArray := prog_9_method_18_code
def yX7_fault : MethodName := ⟨RX7, "fault", "()I"⟩
abbrev cX7_here : ByteArray := prog_9_method_19_code
def yX7_here : MethodName := ⟨RX7, "here", "()I"⟩
abbrev cX7_isFigure : ByteArray := prog_9_method_20_code
def yX7_isFigure : MethodName := ⟨RX7, "isFigure", "(I)Z"⟩
abbrev cX7_run : ByteArray := prog_9_method_21_code
def yX7_run : MethodName := ⟨RX7, "run", "()I"⟩
abbrev cX7_fails : ByteArray := prog_9_method_22_code
def yX7_fails : MethodName := ⟨RX7, "fails", "(I)Z"⟩
abbrev cX7_readsSign : ByteArray := prog_9_method_23_code
def yX7_readsSign : MethodName := ⟨RX7, "readsSign", "(I)Z"⟩
abbrev cX7_number : ByteArray := prog_9_method_24_code
def yX7_number : MethodName := ⟨RX7, "number", "(II)I"⟩
abbrev cX7_readsLaw : ByteArray := prog_9_method_25_code
def yX7_readsLaw : MethodName := ⟨RX7, "readsLaw", "()Z"⟩
abbrev cX7_readsBlock : ByteArray := prog_9_method_26_code
def yX7_readsBlock : MethodName := ⟨RX7, "readsBlock", "()Z"⟩
abbrev cX7_readsRest : ByteArray := prog_9_method_27_code
def yX7_readsRest : MethodName := ⟨RX7, "readsRest", "()Z"⟩
abbrev cX7_kindOf : ByteArray := prog_9_method_28_code
def yX7_kindOf : MethodName := ⟨RX7, "kindOf", "(I)I"⟩
abbrev cX7_readsClerk : ByteArray := prog_9_method_29_code
def yX7_readsClerk : MethodName := ⟨RX7, "readsClerk", "()Z"⟩
abbrev cX7_readsItem : ByteArray := prog_9_method_30_code
def yX7_readsItem : MethodName := ⟨RX7, "readsItem", "()Z"⟩
abbrev cX7_reads : ByteArray := prog_9_method_31_code
def yX7_reads : MethodName := ⟨RX7, "reads", "()Z"⟩
abbrev cX7_castle : ByteArray := prog_9_method_32_code
def yX7_castle : MethodName := ⟨RX7, "castle", "()I"⟩
abbrev cX7_isBlock : ByteArray := prog_9_method_33_code
def yX7_isBlock : MethodName := ⟨RX7, "isBlock", "(I)Z"⟩
abbrev cX7_isClerk : ByteArray := prog_9_method_34_code
def yX7_isClerk : MethodName := ⟨RX7, "isClerk", "(I)Z"⟩
abbrev cX7_isBlocks : ByteArray := prog_9_method_35_code
def yX7_isBlocks : MethodName := ⟨RX7, "isBlocks", "(I)Z"⟩
abbrev cX7_remember : ByteArray := prog_9_method_36_code
def yX7_remember : MethodName := ⟨RX7, "remember", "()V"⟩
abbrev cX7_undo : ByteArray := prog_9_method_37_code
def yX7_undo : MethodName := ⟨RX7, "undo", "()I"⟩
abbrev cX7_standing : ByteArray := prog_9_method_38_code
def yX7_standing : MethodName := ⟨RX7, "standing", "([I)I"⟩
abbrev cX7_fallen : ByteArray := prog_9_method_39_code
def yX7_fallen : MethodName := ⟨RX7, "fallen", "([I)I"⟩
abbrev cX7_takesBy : ByteArray := prog_9_method_40_code
def yX7_takesBy : MethodName := ⟨RX7, "takesBy", "(IIII)I"⟩
abbrev cX7_takesOf : ByteArray := prog_9_method_41_code
def yX7_takesOf : MethodName := ⟨RX7, "takesOf", "([III)I"⟩
abbrev cX7_writes : ByteArray := prog_9_method_42_code
def yX7_writes : MethodName := ⟨RX7, "writes", "([IIII)Z"⟩
abbrev cX7_restingOn : ByteArray := prog_9_method_43_code
def yX7_restingOn : MethodName := ⟨RX7, "restingOn", "(I)I"⟩
abbrev cX7_rainsOn : ByteArray := prog_9_method_44_code
def yX7_rainsOn : MethodName := ⟨RX7, "rainsOn", "([I)V"⟩
abbrev cX7_write : ByteArray := prog_9_method_45_code
def yX7_write : MethodName := ⟨RX7, "write", "(III)I"⟩
abbrev cX7_rub : ByteArray := prog_9_method_46_code
def yX7_rub : MethodName := ⟨RX7, "rub", "(II)I"⟩
abbrev cX7_rain : ByteArray := prog_9_method_47_code
def yX7_rain : MethodName := ⟨RX7, "rain", "()I"⟩
abbrev cX7_days : ByteArray := prog_9_method_48_code
def yX7_days : MethodName := ⟨RX7, "days", "(I)I"⟩
abbrev cX7_block : ByteArray := prog_9_method_49_code
def yX7_block : MethodName := ⟨RX7, "block", "(II)I"⟩
abbrev cX7_clerk : ByteArray := prog_9_method_50_code
def yX7_clerk : MethodName := ⟨RX7, "clerk", "(II)I"⟩
abbrev cX7_takes : ByteArray := prog_9_method_51_code
def yX7_takes : MethodName := ⟨RX7, "takes", "(II)I"⟩
abbrev cX7_allLines : ByteArray := prog_9_method_52_code
def yX7_allLines : MethodName := ⟨RX7, "allLines", "()I"⟩
abbrev cX7_allChalk : ByteArray := prog_9_method_53_code
def yX7_allChalk : MethodName := ⟨RX7, "allChalk", "()I"⟩
abbrev cX7_stand : ByteArray := prog_9_method_54_code
def yX7_stand : MethodName := ⟨RX7, "stand", "(I)I"⟩
abbrev cX7_copyNow : ByteArray := prog_9_method_55_code
def yX7_copyNow : MethodName := ⟨RX7, "copyNow", "()V"⟩
abbrev cX7_standingWithout : ByteArray := prog_9_method_56_code
def yX7_standingWithout : MethodName := ⟨RX7, "standingWithout", "(I)I"⟩
abbrev cX7_wouldFall : ByteArray := prog_9_method_57_code
def yX7_wouldFall : MethodName := ⟨RX7, "wouldFall", "(I)I"⟩
abbrev cX7_left : ByteArray := prog_9_method_58_code
def yX7_left : MethodName := ⟨RX7, "left", "(I)I"⟩
abbrev cX7_chalkBut : ByteArray := prog_9_method_59_code
def yX7_chalkBut : MethodName := ⟨RX7, "chalkBut", "(I)I"⟩
abbrev cX7_leastFallen : ByteArray := prog_9_method_60_code
def yX7_leastFallen : MethodName := ⟨RX7, "leastFallen", "(III)I"⟩
abbrev cX7_must : ByteArray := prog_9_method_61_code
def yX7_must : MethodName := ⟨RX7, "must", "()I"⟩
abbrev cX7_standingBy : ByteArray := prog_9_method_62_code
def yX7_standingBy : MethodName := ⟨RX7, "standingBy", "(IIII)I"⟩
abbrev cX7_writings : ByteArray := prog_9_method_63_code
def yX7_writings : MethodName := ⟨RX7, "writings", "(IIII)I"⟩
abbrev cX7_isLeft : ByteArray := prog_9_method_64_code
def yX7_isLeft : MethodName := ⟨RX7, "isLeft", "(IIII)Z"⟩
abbrev cX7_from : ByteArray := prog_9_method_65_code
def yX7_from : MethodName := ⟨RX7, "from", "(III)I"⟩
abbrev cX7_who : ByteArray := prog_9_method_66_code
def yX7_who : MethodName := ⟨RX7, "who", "(IIII)I"⟩
abbrev cX7_layer : ByteArray := prog_9_method_67_code
def yX7_layer : MethodName := ⟨RX7, "layer", "(I)I"⟩
abbrev cX7_longest : ByteArray := prog_9_method_68_code
def yX7_longest : MethodName := ⟨RX7, "longest", "(II)I"⟩
abbrev cX7_common : ByteArray := prog_9_method_69_code
def yX7_common : MethodName := ⟨RX7, "common", "(JJ)J"⟩
abbrev cX7_rains : ByteArray := prog_9_method_70_code
def yX7_rains : MethodName := ⟨RX7, "rains", "(III)J"⟩
abbrev cX7_share : ByteArray := prog_9_method_71_code
def yX7_share : MethodName := ⟨RX7, "share", "(II)I"⟩
abbrev cX7_drawn : ByteArray := prog_9_method_72_code
def yX7_drawn : MethodName := ⟨RX7, "drawn", "(III)I"⟩
abbrev cX7_image : ByteArray := prog_9_method_73_code
def yX7_image : MethodName := ⟨RX7, "image", "(I)I"⟩
abbrev cX7_restore : ByteArray := prog_9_method_74_code
def yX7_restore : MethodName := ⟨RX7, "restore", "(I)I"⟩
abbrev cX7_kind : ByteArray := prog_9_method_75_code
def yX7_kind : MethodName := ⟨RX7, "kind", "(I)I"⟩
abbrev cX7_isOf : ByteArray := prog_9_method_76_code
def yX7_isOf : MethodName := ⟨RX7, "isOf", "(II)Z"⟩
abbrev cX7_as : ByteArray := prog_9_method_77_code
def yX7_as : MethodName := ⟨RX7, "as", "(II)I"⟩
abbrev cX7_leaves : ByteArray := prog_9_method_78_code
def yX7_leaves : MethodName := ⟨RX7, "leaves", "(I)V"⟩
abbrev cX7_body10 : ByteArray := prog_9_method_79_code
def yX7_body10 : MethodName := ⟨RX7, "body10", "(I)I"⟩
abbrev cX7_body13 : ByteArray := prog_9_method_80_code
def yX7_body13 : MethodName := ⟨RX7, "body13", "(I)I"⟩
abbrev cX7_boySize : ByteArray := prog_9_method_81_code
def yX7_boySize : MethodName := ⟨RX7, "boySize", "(I)I"⟩
abbrev cX7_body20 : ByteArray := prog_9_method_82_code
def yX7_body20 : MethodName := ⟨RX7, "body20", "(I)I"⟩
abbrev cX7_body21 : ByteArray := prog_9_method_83_code
def yX7_body21 : MethodName := ⟨RX7, "body21", "(I)I"⟩
abbrev cX7_markOf : ByteArray := prog_9_method_84_code
def yX7_markOf : MethodName := ⟨RX7, "markOf", "(I)I"⟩
abbrev cX7_body11 : ByteArray := prog_9_method_85_code
def yX7_body11 : MethodName := ⟨RX7, "body11", "(I)I"⟩
abbrev cX7_sizeOf : ByteArray := prog_9_method_86_code
def yX7_sizeOf : MethodName := ⟨RX7, "sizeOf", "(I)I"⟩
abbrev cX7_ask : ByteArray := prog_9_method_87_code
def yX7_ask : MethodName := ⟨RX7, "ask", "(II)I"⟩
abbrev cX7_trace : ByteArray := prog_9_method_88_code
def yX7_trace : MethodName := ⟨RX7, "trace", "(I)I"⟩
abbrev cX7_count : ByteArray := prog_9_method_89_code
def yX7_count : MethodName := ⟨RX7, "count", "(I)I"⟩
def RJ6 : String := "java/lang/Integer"
def TJ6 : u_T := fun k => match k with
  | _ => ("", "", "", false)
def tyJ6 : Nat → FieldType := fun k => match k with
  | _ => .int
theorem nmJ6 : ∀ a, a < 0 → ∀ b, b < 0 → a ≠ b → (TJ6 a).2.1 ≠ (TJ6 b).2.1 := by decide +kernel
theorem tyJ6_ok : ∀ k, k < 0 → parseFieldDescriptor (TJ6 k).2.2.1 = some (tyJ6 k) := by decide +kernel
abbrev cJ6_bitCount_0f7a4 : ByteArray := prog_10_method_49_code
def yJ6_bitCount_0f7a4 : MethodName := ⟨RJ6, "bitCount", "(I)I"⟩
def RJ9 : String := "java/lang/Math"
def TJ9 : u_T := fun k => match k with
  | _ => ("", "", "", false)
def tyJ9 : Nat → FieldType := fun k => match k with
  | _ => .int
theorem nmJ9 : ∀ a, a < 0 → ∀ b, b < 0 → a ≠ b → (TJ9 a).2.1 ≠ (TJ9 b).2.1 := by decide +kernel
theorem tyJ9_ok : ∀ k, k < 0 → parseFieldDescriptor (TJ9 k).2.2.1 = some (tyJ9 k) := by decide +kernel
abbrev cJ9_max_7cf53 : ByteArray := prog_11_method_65_code
def yJ9_max_7cf53 : MethodName := ⟨RJ9, "max", "(II)I"⟩
abbrev cJ9_min_7cf53 : ByteArray := prog_11_method_69_code
def yJ9_min_7cf53 : MethodName := ⟨RJ9, "min", "(II)I"⟩
def RJ10 : String := "java/lang/System"
def TJ10 : u_T := fun k => match k with
  | _ => ("", "", "", false)
def tyJ10 : Nat → FieldType := fun k => match k with
  | _ => .int
theorem nmJ10 : ∀ a, a < 0 → ∀ b, b < 0 → a ≠ b → (TJ10 a).2.1 ≠ (TJ10 b).2.1 := by decide +kernel
theorem tyJ10_ok : ∀ k, k < 0 → parseFieldDescriptor (TJ10 k).2.2.1 = some (tyJ10 k) := by decide +kernel
def RL : String := "ChalkCastleLaw"
abbrev cL_law : ByteArray := code
def yL_law : MethodName := ⟨RL, "law", "([I)Z"⟩
abbrev vwCl : List vw_C := [(RX0, TX0, 6), (RX1, TX1, 10), (RX2, TX2, 5), (RX3, TX3, 3), (RX4, TX4, 6), (RX5, TX5, 4), (RX6, TX6, 14), (RX7, TX7, 39)]
