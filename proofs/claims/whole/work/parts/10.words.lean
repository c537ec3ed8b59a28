/-! ===== the words that the tables use, by their places ===== -/
theorem in_t1 {w : Cond} (h : w ∈ tables_1_1) : w ∈ lw_tbl := List.mem_append_right _ (List.mem_append_left _ h)
theorem in_t2 {w : Cond} (h : w ∈ tables_1_2) : w ∈ lw_tbl := List.mem_append_right _ (List.mem_append_right _ (List.mem_append_left _ h))
theorem in_t3 {w : Cond} (h : w ∈ tables_1_3) : w ∈ lw_tbl := List.mem_append_right _ (List.mem_append_right _ (List.mem_append_right _ (List.mem_append_left _ h)))
theorem in_t4 {w : Cond} (h : w ∈ tables_1_4) : w ∈ lw_tbl := List.mem_append_right _ (List.mem_append_right _ (List.mem_append_right _ (List.mem_append_right _ (List.mem_append_left _ h))))
theorem in_t5 {w : Cond} (h : w ∈ tables_1_5) : w ∈ lw_tbl := List.mem_append_right _ (List.mem_append_right _ (List.mem_append_right _ (List.mem_append_right _ (List.mem_append_right _ (h)))))
theorem in_t0 {w : Cond} (h : w ∈ k2_sels lw_privs) : w ∈ lw_tbl := List.mem_append_left _ h
set_option maxRecDepth 20000 in
theorem tw_0 : Jvm.Cond.initialized "ChalkCastleLaw" ∈ lw_g := g_in (in_t1 (List.mem_of_getElem? (i := 0) (by rfl))) rfl
set_option maxRecDepth 20000 in
theorem tw_1 : Jvm.Cond.initialized "ChalkCastle" ∈ lw_g := g_in (in_t1 (List.mem_of_getElem? (i := 1) (by rfl))) rfl
set_option maxRecDepth 20000 in
theorem tw_2 : Jvm.Cond.initialized "ChalkCastle$Plan" ∈ lw_g := g_in (in_t1 (List.mem_of_getElem? (i := 2) (by rfl))) rfl
set_option maxRecDepth 20000 in
theorem tw_3 : Jvm.Cond.initialized "ChalkCastle$State" ∈ lw_g := g_in (in_t1 (List.mem_of_getElem? (i := 3) (by rfl))) rfl
set_option maxRecDepth 20000 in
theorem tw_4 : Jvm.Cond.initialized "ChalkCastle$Search" ∈ lw_g := g_in (in_t1 (List.mem_of_getElem? (i := 4) (by rfl))) rfl
set_option maxRecDepth 20000 in
theorem tw_5 : Jvm.Cond.initialized "ChalkCastle$Asking" ∈ lw_g := g_in (in_t1 (List.mem_of_getElem? (i := 5) (by rfl))) rfl
set_option maxRecDepth 20000 in
theorem tw_6 : Jvm.Cond.initialized "ChalkCastleModel" ∈ lw_g := g_in (in_t1 (List.mem_of_getElem? (i := 6) (by rfl))) rfl
set_option maxRecDepth 20000 in
theorem tw_7 : Jvm.Cond.initialized "ChalkCastle$Row" ∈ lw_g := g_in (in_t1 (List.mem_of_getElem? (i := 7) (by rfl))) rfl
set_option maxRecDepth 20000 in
theorem tw_8 : Jvm.Cond.initialized "java/lang/Math" ∈ lw_g := g_in (in_t1 (List.mem_of_getElem? (i := 8) (by rfl))) rfl
set_option maxRecDepth 20000 in
theorem tw_9 : Jvm.Cond.initialized "java/lang/System" ∈ lw_g := g_in (in_t1 (List.mem_of_getElem? (i := 9) (by rfl))) rfl
set_option maxRecDepth 20000 in
theorem tw_10 : Jvm.Cond.initialized "ChalkCastle$Reader" ∈ lw_g := g_in (in_t1 (List.mem_of_getElem? (i := 10) (by rfl))) rfl
set_option maxRecDepth 20000 in
theorem tw_11 : Jvm.Cond.initialized "java/lang/Integer" ∈ lw_g := g_in (in_t1 (List.mem_of_getElem? (i := 11) (by rfl))) rfl
set_option maxRecDepth 20000 in
theorem tw_15 : Jvm.Cond.instanceMethod ({ cls := "ChalkCastle", name := "<init>", desc := "()V" } : Jvm.MethodName) ∈ lw_g := g_in (in_t1 (List.mem_of_getElem? (i := 15) (by rfl))) rfl
set_option maxRecDepth 20000 in
theorem tw_16 : Jvm.Cond.code ({ cls := "ChalkCastle", name := "<init>", desc := "()V" } : Jvm.MethodName) prog_1_method_1_code (2 : Nat) (Option.none : Option Jvm.ClassFile.FieldType) ∈ lw_g := g_in (in_t1 (List.mem_of_getElem? (i := 16) (by rfl))) rfl
set_option maxRecDepth 20000 in
theorem tw_17 : Jvm.Cond.methodLink "ChalkCastle" (1 : Nat) ({ cls := "java/lang/Object", name := "<init>", desc := "()V" } : Jvm.MethodName) ∈ lw_g := g_in (in_t1 (List.mem_of_getElem? (i := 17) (by rfl))) rfl
set_option maxRecDepth 20000 in
theorem tw_20 : Jvm.Cond.classLink "ChalkCastle" (9 : Nat) "ChalkCastle$Row" ∈ lw_g := g_in (in_t1 (List.mem_of_getElem? (i := 20) (by rfl))) rfl
set_option maxRecDepth 20000 in
theorem tw_22 : Jvm.Cond.classLink "ChalkCastle" (29 : Nat) "ChalkCastle$Plan" ∈ lw_g := g_in (in_t1 (List.mem_of_getElem? (i := 22) (by rfl))) rfl
set_option maxRecDepth 20000 in
theorem tw_24 : Jvm.Cond.methodLink "ChalkCastle" (31 : Nat) ({ cls := "ChalkCastle$Plan", name := "<init>", desc := "()V" } : Jvm.MethodName) ∈ lw_g := g_in (in_t1 (List.mem_of_getElem? (i := 24) (by rfl))) rfl
set_option maxRecDepth 20000 in
theorem tw_25 : Jvm.Cond.instanceMethod ({ cls := "ChalkCastle$Plan", name := "<init>", desc := "()V" } : Jvm.MethodName) ∈ lw_g := g_in (in_t1 (List.mem_of_getElem? (i := 25) (by rfl))) rfl
set_option maxRecDepth 20000 in
theorem tw_26 : Jvm.Cond.code ({ cls := "ChalkCastle$Plan", name := "<init>", desc := "()V" } : Jvm.MethodName) prog_3_method_1_code (1 : Nat) (Option.none : Option Jvm.ClassFile.FieldType) ∈ lw_g := g_in (in_t1 (List.mem_of_getElem? (i := 26) (by rfl))) rfl
set_option maxRecDepth 20000 in
theorem tw_27 : Jvm.Cond.methodLink "ChalkCastle$Plan" (3 : Nat) ({ cls := "java/lang/Object", name := "<init>", desc := "()V" } : Jvm.MethodName) ∈ lw_g := g_in (in_t1 (List.mem_of_getElem? (i := 27) (by rfl))) rfl
set_option maxRecDepth 20000 in
theorem tw_28 : Jvm.Cond.fieldLink "ChalkCastle$Plan" (9 : Nat) "ChalkCastle$Plan" "rain" "I" ∈ lw_g := g_in (in_t1 (List.mem_of_getElem? (i := 28) (by rfl))) rfl
set_option maxRecDepth 20000 in
theorem tw_29 : Jvm.Cond.fieldLink "ChalkCastle$Reader" (65 : Nat) "ChalkCastle$Plan" "rain" "I" ∈ lw_g := g_in (in_t1 (List.mem_of_getElem? (i := 29) (by rfl))) rfl
set_option maxRecDepth 20000 in
theorem tw_30 : Jvm.Cond.fieldLink "ChalkCastle$Plan" (15 : Nat) "ChalkCastle$Plan" "rubs" "I" ∈ lw_g := g_in (in_t1 (List.mem_of_getElem? (i := 30) (by rfl))) rfl
set_option maxRecDepth 20000 in
theorem tw_31 : Jvm.Cond.fieldLink "ChalkCastle$Reader" (68 : Nat) "ChalkCastle$Plan" "rubs" "I" ∈ lw_g := g_in (in_t1 (List.mem_of_getElem? (i := 31) (by rfl))) rfl
set_option maxRecDepth 20000 in
theorem tw_32 : Jvm.Cond.fieldLink "ChalkCastle" (171 : Nat) "ChalkCastle$Plan" "rubs" "I" ∈ lw_g := g_in (in_t1 (List.mem_of_getElem? (i := 32) (by rfl))) rfl
set_option maxRecDepth 20000 in
theorem tw_33 : Jvm.Cond.fieldLink "ChalkCastle$Plan" (18 : Nat) "ChalkCastle$Plan" "blocks" "I" ∈ lw_g := g_in (in_t1 (List.mem_of_getElem? (i := 33) (by rfl))) rfl
set_option maxRecDepth 20000 in
theorem tw_34 : Jvm.Cond.fieldLink "ChalkCastle$Reader" (71 : Nat) "ChalkCastle$Plan" "blocks" "I" ∈ lw_g := g_in (in_t1 (List.mem_of_getElem? (i := 34) (by rfl))) rfl
set_option maxRecDepth 20000 in
theorem tw_35 : Jvm.Cond.fieldLink "ChalkCastle" (131 : Nat) "ChalkCastle$Plan" "blocks" "I" ∈ lw_g := g_in (in_t1 (List.mem_of_getElem? (i := 35) (by rfl))) rfl
set_option maxRecDepth 20000 in
theorem tw_36 : Jvm.Cond.fieldLink "ChalkCastle$Plan" (21 : Nat) "ChalkCastle$Plan" "rests" "I" ∈ lw_g := g_in (in_t1 (List.mem_of_getElem? (i := 36) (by rfl))) rfl
set_option maxRecDepth 20000 in
theorem tw_37 : Jvm.Cond.fieldLink "ChalkCastle$Reader" (81 : Nat) "ChalkCastle$Plan" "rests" "I" ∈ lw_g := g_in (in_t1 (List.mem_of_getElem? (i := 37) (by rfl))) rfl
set_option maxRecDepth 20000 in
theorem tw_38 : Jvm.Cond.fieldLink "ChalkCastle" (306 : Nat) "ChalkCastle$Plan" "rests" "I" ∈ lw_g := g_in (in_t1 (List.mem_of_getElem? (i := 38) (by rfl))) rfl
set_option maxRecDepth 20000 in
theorem tw_39 : Jvm.Cond.fieldLink "ChalkCastle$Plan" (24 : Nat) "ChalkCastle$Plan" "clerks" "I" ∈ lw_g := g_in (in_t1 (List.mem_of_getElem? (i := 39) (by rfl))) rfl
set_option maxRecDepth 20000 in
theorem tw_40 : Jvm.Cond.fieldLink "ChalkCastle$Reader" (87 : Nat) "ChalkCastle$Plan" "clerks" "I" ∈ lw_g := g_in (in_t1 (List.mem_of_getElem? (i := 40) (by rfl))) rfl
set_option maxRecDepth 20000 in
theorem tw_41 : Jvm.Cond.fieldLink "ChalkCastle" (248 : Nat) "ChalkCastle$Plan" "clerks" "I" ∈ lw_g := g_in (in_t1 (List.mem_of_getElem? (i := 41) (by rfl))) rfl
set_option maxRecDepth 20000 in
theorem tw_42 : Jvm.Cond.fieldLink "ChalkCastle$Plan" (27 : Nat) "ChalkCastle$Plan" "chalk" "[I" ∈ lw_g := g_in (in_t1 (List.mem_of_getElem? (i := 42) (by rfl))) rfl
set_option maxRecDepth 20000 in
theorem tw_43 : Jvm.Cond.fieldLink "ChalkCastle$State" (25 : Nat) "ChalkCastle$Plan" "chalk" "[I" ∈ lw_g := g_in (in_t1 (List.mem_of_getElem? (i := 43) (by rfl))) rfl
set_option maxRecDepth 20000 in
theorem tw_44 : Jvm.Cond.fieldLink "ChalkCastle$Reader" (78 : Nat) "ChalkCastle$Plan" "chalk" "[I" ∈ lw_g := g_in (in_t1 (List.mem_of_getElem? (i := 44) (by rfl))) rfl
set_option maxRecDepth 20000 in
theorem tw_45 : Jvm.Cond.fieldLink "ChalkCastle$Plan" (31 : Nat) "ChalkCastle$Plan" "below" "[I" ∈ lw_g := g_in (in_t1 (List.mem_of_getElem? (i := 45) (by rfl))) rfl
set_option maxRecDepth 20000 in
theorem tw_46 : Jvm.Cond.fieldLink "ChalkCastle$Reader" (84 : Nat) "ChalkCastle$Plan" "below" "[I" ∈ lw_g := g_in (in_t1 (List.mem_of_getElem? (i := 46) (by rfl))) rfl
set_option maxRecDepth 20000 in
theorem tw_47 : Jvm.Cond.fieldLink "ChalkCastle" (191 : Nat) "ChalkCastle$Plan" "below" "[I" ∈ lw_g := g_in (in_t1 (List.mem_of_getElem? (i := 47) (by rfl))) rfl
set_option maxRecDepth 20000 in
theorem tw_48 : Jvm.Cond.fieldLink "ChalkCastle$Plan" (34 : Nat) "ChalkCastle$Plan" "kinds" "[I" ∈ lw_g := g_in (in_t1 (List.mem_of_getElem? (i := 48) (by rfl))) rfl
set_option maxRecDepth 20000 in
theorem tw_49 : Jvm.Cond.fieldLink "ChalkCastle$Reader" (90 : Nat) "ChalkCastle$Plan" "kinds" "[I" ∈ lw_g := g_in (in_t1 (List.mem_of_getElem? (i := 49) (by rfl))) rfl
set_option maxRecDepth 20000 in
theorem tw_50 : Jvm.Cond.fieldLink "ChalkCastle" (284 : Nat) "ChalkCastle$Plan" "kinds" "[I" ∈ lw_g := g_in (in_t1 (List.mem_of_getElem? (i := 50) (by rfl))) rfl
set_option maxRecDepth 20000 in
theorem tw_51 : Jvm.Cond.fieldLink "ChalkCastle$Plan" (37 : Nat) "ChalkCastle$Plan" "hands" "[I" ∈ lw_g := g_in (in_t1 (List.mem_of_getElem? (i := 51) (by rfl))) rfl
set_option maxRecDepth 20000 in
theorem tw_52 : Jvm.Cond.fieldLink "ChalkCastle$Reader" (93 : Nat) "ChalkCastle$Plan" "hands" "[I" ∈ lw_g := g_in (in_t1 (List.mem_of_getElem? (i := 52) (by rfl))) rfl
set_option maxRecDepth 20000 in
theorem tw_53 : Jvm.Cond.fieldLink "ChalkCastle" (197 : Nat) "ChalkCastle$Plan" "hands" "[I" ∈ lw_g := g_in (in_t1 (List.mem_of_getElem? (i := 53) (by rfl))) rfl
set_option maxRecDepth 20000 in
theorem tw_74 : Jvm.Cond.classLink "ChalkCastle" (36 : Nat) "ChalkCastle$State" ∈ lw_g := g_in (in_t1 (List.mem_of_getElem? (i := 74) (by rfl))) rfl
set_option maxRecDepth 20000 in
theorem tw_76 : Jvm.Cond.methodLink "ChalkCastle" (38 : Nat) ({ cls := "ChalkCastle$State", name := "<init>", desc := "()V" } : Jvm.MethodName) ∈ lw_g := g_in (in_t1 (List.mem_of_getElem? (i := 76) (by rfl))) rfl
set_option maxRecDepth 20000 in
theorem tw_77 : Jvm.Cond.instanceMethod ({ cls := "ChalkCastle$State", name := "<init>", desc := "()V" } : Jvm.MethodName) ∈ lw_g := g_in (in_t1 (List.mem_of_getElem? (i := 77) (by rfl))) rfl
set_option maxRecDepth 20000 in
theorem tw_78 : Jvm.Cond.code ({ cls := "ChalkCastle$State", name := "<init>", desc := "()V" } : Jvm.MethodName) prog_7_method_1_code (1 : Nat) (Option.none : Option Jvm.ClassFile.FieldType) ∈ lw_g := g_in (in_t1 (List.mem_of_getElem? (i := 78) (by rfl))) rfl
set_option maxRecDepth 20000 in
theorem tw_79 : Jvm.Cond.methodLink "ChalkCastle$State" (3 : Nat) ({ cls := "java/lang/Object", name := "<init>", desc := "()V" } : Jvm.MethodName) ∈ lw_g := g_in (in_t1 (List.mem_of_getElem? (i := 79) (by rfl))) rfl
set_option maxRecDepth 20000 in
theorem tw_80 : Jvm.Cond.fieldLink "ChalkCastle$State" (9 : Nat) "ChalkCastle$State" "chalk" "[I" ∈ lw_g := g_in (in_t1 (List.mem_of_getElem? (i := 80) (by rfl))) rfl
set_option maxRecDepth 20000 in
theorem tw_81 : Jvm.Cond.fieldLink "ChalkCastle$Plan" (67 : Nat) "ChalkCastle$State" "chalk" "[I" ∈ lw_g := g_in (in_t1 (List.mem_of_getElem? (i := 81) (by rfl))) rfl
set_option maxRecDepth 20000 in
theorem tw_82 : Jvm.Cond.fieldLink "ChalkCastle" (156 : Nat) "ChalkCastle$State" "chalk" "[I" ∈ lw_g := g_in (in_t1 (List.mem_of_getElem? (i := 82) (by rfl))) rfl
set_option maxRecDepth 20000 in
theorem tw_83 : Jvm.Cond.fieldLink "ChalkCastle$State" (15 : Nat) "ChalkCastle$State" "lines" "[I" ∈ lw_g := g_in (in_t1 (List.mem_of_getElem? (i := 83) (by rfl))) rfl
set_option maxRecDepth 20000 in
theorem tw_84 : Jvm.Cond.fieldLink "ChalkCastle" (165 : Nat) "ChalkCastle$State" "lines" "[I" ∈ lw_g := g_in (in_t1 (List.mem_of_getElem? (i := 84) (by rfl))) rfl
set_option maxRecDepth 20000 in
theorem tw_85 : Jvm.Cond.fieldLink "ChalkCastle$State" (18 : Nat) "ChalkCastle$State" "dust" "I" ∈ lw_g := g_in (in_t1 (List.mem_of_getElem? (i := 85) (by rfl))) rfl
set_option maxRecDepth 20000 in
theorem tw_86 : Jvm.Cond.fieldLink "ChalkCastle" (168 : Nat) "ChalkCastle$State" "dust" "I" ∈ lw_g := g_in (in_t1 (List.mem_of_getElem? (i := 86) (by rfl))) rfl
set_option maxRecDepth 20000 in
theorem tw_87 : Jvm.Cond.fieldLink "ChalkCastle$State" (22 : Nat) "ChalkCastle$State" "day" "I" ∈ lw_g := g_in (in_t1 (List.mem_of_getElem? (i := 87) (by rfl))) rfl
set_option maxRecDepth 20000 in
theorem tw_88 : Jvm.Cond.fieldLink "ChalkCastle" (149 : Nat) "ChalkCastle$State" "day" "I" ∈ lw_g := g_in (in_t1 (List.mem_of_getElem? (i := 88) (by rfl))) rfl
set_option maxRecDepth 20000 in
theorem tw_100 : Jvm.Cond.classLink "ChalkCastle" (63 : Nat) "ChalkCastle$Search" ∈ lw_g := g_in (in_t1 (List.mem_of_getElem? (i := 100) (by rfl))) rfl
set_option maxRecDepth 20000 in
theorem tw_102 : Jvm.Cond.methodLink "ChalkCastle" (65 : Nat) ({ cls := "ChalkCastle$Search", name := "<init>", desc := "()V" } : Jvm.MethodName) ∈ lw_g := g_in (in_t1 (List.mem_of_getElem? (i := 102) (by rfl))) rfl
set_option maxRecDepth 20000 in
theorem tw_103 : Jvm.Cond.instanceMethod ({ cls := "ChalkCastle$Search", name := "<init>", desc := "()V" } : Jvm.MethodName) ∈ lw_g := g_in (in_t1 (List.mem_of_getElem? (i := 103) (by rfl))) rfl
set_option maxRecDepth 20000 in
theorem tw_104 : Jvm.Cond.code ({ cls := "ChalkCastle$Search", name := "<init>", desc := "()V" } : Jvm.MethodName) prog_6_method_1_code (1 : Nat) (Option.none : Option Jvm.ClassFile.FieldType) ∈ lw_g := g_in (in_t1 (List.mem_of_getElem? (i := 104) (by rfl))) rfl
set_option maxRecDepth 20000 in
theorem tw_105 : Jvm.Cond.methodLink "ChalkCastle$Search" (3 : Nat) ({ cls := "java/lang/Object", name := "<init>", desc := "()V" } : Jvm.MethodName) ∈ lw_g := g_in (in_t1 (List.mem_of_getElem? (i := 105) (by rfl))) rfl
set_option maxRecDepth 20000 in
theorem tw_106 : Jvm.Cond.classLink "ChalkCastle$Search" (9 : Nat) "ChalkCastle$State" ∈ lw_g := g_in (in_t1 (List.mem_of_getElem? (i := 106) (by rfl))) rfl
set_option maxRecDepth 20000 in
theorem tw_107 : Jvm.Cond.methodLink "ChalkCastle$Search" (11 : Nat) ({ cls := "ChalkCastle$State", name := "<init>", desc := "()V" } : Jvm.MethodName) ∈ lw_g := g_in (in_t1 (List.mem_of_getElem? (i := 107) (by rfl))) rfl
set_option maxRecDepth 20000 in
theorem tw_108 : Jvm.Cond.classLink "ChalkCastle$Search" (28 : Nat) "ChalkCastle$Plan" ∈ lw_g := g_in (in_t1 (List.mem_of_getElem? (i := 108) (by rfl))) rfl
set_option maxRecDepth 20000 in
theorem tw_109 : Jvm.Cond.methodLink "ChalkCastle$Search" (30 : Nat) ({ cls := "ChalkCastle$Plan", name := "<init>", desc := "()V" } : Jvm.MethodName) ∈ lw_g := g_in (in_t1 (List.mem_of_getElem? (i := 109) (by rfl))) rfl
set_option maxRecDepth 20000 in
theorem tw_110 : Jvm.Cond.fieldLink "ChalkCastle$Search" (12 : Nat) "ChalkCastle$Search" "state" "LChalkCastle$State;" ∈ lw_g := g_in (in_t1 (List.mem_of_getElem? (i := 110) (by rfl))) rfl
set_option maxRecDepth 20000 in
theorem tw_111 : Jvm.Cond.fieldLink "ChalkCastle" (316 : Nat) "ChalkCastle$Search" "state" "LChalkCastle$State;" ∈ lw_g := g_in (in_t1 (List.mem_of_getElem? (i := 111) (by rfl))) rfl
set_option maxRecDepth 20000 in
theorem tw_112 : Jvm.Cond.fieldLink "ChalkCastle$Search" (18 : Nat) "ChalkCastle$Search" "needs" "[I" ∈ lw_g := g_in (in_t1 (List.mem_of_getElem? (i := 112) (by rfl))) rfl
set_option maxRecDepth 20000 in
theorem tw_113 : Jvm.Cond.fieldLink "ChalkCastle" (231 : Nat) "ChalkCastle$Search" "needs" "[I" ∈ lw_g := g_in (in_t1 (List.mem_of_getElem? (i := 113) (by rfl))) rfl
set_option maxRecDepth 20000 in
theorem tw_114 : Jvm.Cond.fieldLink "ChalkCastle$Search" (22 : Nat) "ChalkCastle$Search" "way" "[I" ∈ lw_g := g_in (in_t1 (List.mem_of_getElem? (i := 114) (by rfl))) rfl
set_option maxRecDepth 20000 in
theorem tw_115 : Jvm.Cond.fieldLink "ChalkCastle" (320 : Nat) "ChalkCastle$Search" "way" "[I" ∈ lw_g := g_in (in_t1 (List.mem_of_getElem? (i := 115) (by rfl))) rfl
set_option maxRecDepth 20000 in
theorem tw_116 : Jvm.Cond.fieldLink "ChalkCastle$Search" (25 : Nat) "ChalkCastle$Search" "firstWay" "[I" ∈ lw_g := g_in (in_t1 (List.mem_of_getElem? (i := 116) (by rfl))) rfl
set_option maxRecDepth 20000 in
theorem tw_117 : Jvm.Cond.fieldLink "ChalkCastle" (241 : Nat) "ChalkCastle$Search" "firstWay" "[I" ∈ lw_g := g_in (in_t1 (List.mem_of_getElem? (i := 117) (by rfl))) rfl
set_option maxRecDepth 20000 in
theorem tw_118 : Jvm.Cond.fieldLink "ChalkCastle$Search" (31 : Nat) "ChalkCastle$Search" "plan" "LChalkCastle$Plan;" ∈ lw_g := g_in (in_t1 (List.mem_of_getElem? (i := 118) (by rfl))) rfl
set_option maxRecDepth 20000 in
theorem tw_119 : Jvm.Cond.fieldLink "ChalkCastle" (319 : Nat) "ChalkCastle$Search" "plan" "LChalkCastle$Plan;" ∈ lw_g := g_in (in_t1 (List.mem_of_getElem? (i := 119) (by rfl))) rfl
set_option maxRecDepth 20000 in
theorem tw_120 : Jvm.Cond.fieldLink "ChalkCastle$Search" (35 : Nat) "ChalkCastle$Search" "n" "I" ∈ lw_g := g_in (in_t1 (List.mem_of_getElem? (i := 120) (by rfl))) rfl
set_option maxRecDepth 20000 in
theorem tw_121 : Jvm.Cond.fieldLink "ChalkCastle" (310 : Nat) "ChalkCastle$Search" "n" "I" ∈ lw_g := g_in (in_t1 (List.mem_of_getElem? (i := 121) (by rfl))) rfl
set_option maxRecDepth 20000 in
theorem tw_122 : Jvm.Cond.fieldLink "ChalkCastle$Search" (39 : Nat) "ChalkCastle$Search" "most" "I" ∈ lw_g := g_in (in_t1 (List.mem_of_getElem? (i := 122) (by rfl))) rfl
set_option maxRecDepth 20000 in
theorem tw_123 : Jvm.Cond.fieldLink "ChalkCastle" (238 : Nat) "ChalkCastle$Search" "most" "I" ∈ lw_g := g_in (in_t1 (List.mem_of_getElem? (i := 123) (by rfl))) rfl
set_option maxRecDepth 20000 in
theorem tw_139 : Jvm.Cond.classLink "ChalkCastle" (70 : Nat) "ChalkCastle$Asking" ∈ lw_g := g_in (in_t1 (List.mem_of_getElem? (i := 139) (by rfl))) rfl
set_option maxRecDepth 20000 in
theorem tw_141 : Jvm.Cond.methodLink "ChalkCastle" (72 : Nat) ({ cls := "ChalkCastle$Asking", name := "<init>", desc := "()V" } : Jvm.MethodName) ∈ lw_g := g_in (in_t1 (List.mem_of_getElem? (i := 141) (by rfl))) rfl
set_option maxRecDepth 20000 in
theorem tw_142 : Jvm.Cond.instanceMethod ({ cls := "ChalkCastle$Asking", name := "<init>", desc := "()V" } : Jvm.MethodName) ∈ lw_g := g_in (in_t1 (List.mem_of_getElem? (i := 142) (by rfl))) rfl
set_option maxRecDepth 20000 in
theorem tw_143 : Jvm.Cond.code ({ cls := "ChalkCastle$Asking", name := "<init>", desc := "()V" } : Jvm.MethodName) prog_2_method_1_code (1 : Nat) (Option.none : Option Jvm.ClassFile.FieldType) ∈ lw_g := g_in (in_t1 (List.mem_of_getElem? (i := 143) (by rfl))) rfl
set_option maxRecDepth 20000 in
theorem tw_144 : Jvm.Cond.methodLink "ChalkCastle$Asking" (3 : Nat) ({ cls := "java/lang/Object", name := "<init>", desc := "()V" } : Jvm.MethodName) ∈ lw_g := g_in (in_t1 (List.mem_of_getElem? (i := 144) (by rfl))) rfl
set_option maxRecDepth 20000 in
theorem tw_145 : Jvm.Cond.fieldLink "ChalkCastle$Asking" (9 : Nat) "ChalkCastle$Asking" "trace" "[I" ∈ lw_g := g_in (in_t1 (List.mem_of_getElem? (i := 145) (by rfl))) rfl
set_option maxRecDepth 20000 in
theorem tw_146 : Jvm.Cond.fieldLink "ChalkCastle" (300 : Nat) "ChalkCastle$Asking" "trace" "[I" ∈ lw_g := g_in (in_t1 (List.mem_of_getElem? (i := 146) (by rfl))) rfl
set_option maxRecDepth 20000 in
theorem tw_147 : Jvm.Cond.fieldLink "ChalkCastle$Asking" (15 : Nat) "ChalkCastle$Asking" "length" "I" ∈ lw_g := g_in (in_t1 (List.mem_of_getElem? (i := 147) (by rfl))) rfl
set_option maxRecDepth 20000 in
theorem tw_148 : Jvm.Cond.fieldLink "ChalkCastle" (297 : Nat) "ChalkCastle$Asking" "length" "I" ∈ lw_g := g_in (in_t1 (List.mem_of_getElem? (i := 148) (by rfl))) rfl
set_option maxRecDepth 20000 in
theorem tw_149 : Jvm.Cond.fieldLink "ChalkCastle$Asking" (19 : Nat) "ChalkCastle$Asking" "number" "I" ∈ lw_g := g_in (in_t1 (List.mem_of_getElem? (i := 149) (by rfl))) rfl
set_option maxRecDepth 20000 in
theorem tw_150 : Jvm.Cond.fieldLink "ChalkCastle" (350 : Nat) "ChalkCastle$Asking" "number" "I" ∈ lw_g := g_in (in_t1 (List.mem_of_getElem? (i := 150) (by rfl))) rfl
set_option maxRecDepth 20000 in
theorem tw_151 : Jvm.Cond.fieldLink "ChalkCastle$Asking" (22 : Nat) "ChalkCastle$Asking" "kind" "I" ∈ lw_g := g_in (in_t1 (List.mem_of_getElem? (i := 151) (by rfl))) rfl
set_option maxRecDepth 20000 in
theorem tw_152 : Jvm.Cond.fieldLink "ChalkCastle" (337 : Nat) "ChalkCastle$Asking" "kind" "I" ∈ lw_g := g_in (in_t1 (List.mem_of_getElem? (i := 152) (by rfl))) rfl
set_option maxRecDepth 20000 in
theorem tw_153 : Jvm.Cond.fieldLink "ChalkCastle$Asking" (25 : Nat) "ChalkCastle$Asking" "hand" "I" ∈ lw_g := g_in (in_t1 (List.mem_of_getElem? (i := 153) (by rfl))) rfl
set_option maxRecDepth 20000 in
theorem tw_154 : Jvm.Cond.fieldLink "ChalkCastle" (347 : Nat) "ChalkCastle$Asking" "hand" "I" ∈ lw_g := g_in (in_t1 (List.mem_of_getElem? (i := 154) (by rfl))) rfl
set_option maxRecDepth 20000 in
theorem tw_155 : Jvm.Cond.fieldLink "ChalkCastle$Asking" (28 : Nat) "ChalkCastle$Asking" "lines" "I" ∈ lw_g := g_in (in_t1 (List.mem_of_getElem? (i := 155) (by rfl))) rfl
set_option maxRecDepth 20000 in
theorem tw_156 : Jvm.Cond.fieldLink "ChalkCastle" (353 : Nat) "ChalkCastle$Asking" "lines" "I" ∈ lw_g := g_in (in_t1 (List.mem_of_getElem? (i := 156) (by rfl))) rfl
set_option maxRecDepth 20000 in
theorem tw_170 : Jvm.Cond.fieldLink "ChalkCastle" (11 : Nat) "ChalkCastle" "rows" "[LChalkCastle$Row;" ∈ lw_g := g_in (in_t1 (List.mem_of_getElem? (i := 170) (by rfl))) rfl
set_option maxRecDepth 20000 in
theorem tw_171 : Jvm.Cond.fieldLink "ChalkCastle" (15 : Nat) "ChalkCastle" "tape" "[I" ∈ lw_g := g_in (in_t1 (List.mem_of_getElem? (i := 171) (by rfl))) rfl
set_option maxRecDepth 20000 in
theorem tw_172 : Jvm.Cond.fieldLink "ChalkCastle" (19 : Nat) "ChalkCastle" "bytes" "I" ∈ lw_g := g_in (in_t1 (List.mem_of_getElem? (i := 172) (by rfl))) rfl
set_option maxRecDepth 20000 in
theorem tw_173 : Jvm.Cond.fieldLink "ChalkCastle" (23 : Nat) "ChalkCastle" "latestFault" "I" ∈ lw_g := g_in (in_t1 (List.mem_of_getElem? (i := 173) (by rfl))) rfl
set_option maxRecDepth 20000 in
theorem tw_174 : Jvm.Cond.fieldLink "ChalkCastle" (26 : Nat) "ChalkCastle" "finding" "I" ∈ lw_g := g_in (in_t1 (List.mem_of_getElem? (i := 174) (by rfl))) rfl
set_option maxRecDepth 20000 in
theorem tw_175 : Jvm.Cond.fieldLink "ChalkCastle" (32 : Nat) "ChalkCastle" "plan" "LChalkCastle$Plan;" ∈ lw_g := g_in (in_t1 (List.mem_of_getElem? (i := 175) (by rfl))) rfl
set_option maxRecDepth 20000 in
theorem tw_176 : Jvm.Cond.fieldLink "ChalkCastle" (39 : Nat) "ChalkCastle" "now" "LChalkCastle$State;" ∈ lw_g := g_in (in_t1 (List.mem_of_getElem? (i := 176) (by rfl))) rfl
set_option maxRecDepth 20000 in
theorem tw_177 : Jvm.Cond.fieldLink "ChalkCastle" (43 : Nat) "ChalkCastle" "ahead" "[LChalkCastle$State;" ∈ lw_g := g_in (in_t1 (List.mem_of_getElem? (i := 177) (by rfl))) rfl
set_option maxRecDepth 20000 in
theorem tw_178 : Jvm.Cond.fieldLink "ChalkCastle" (47 : Nat) "ChalkCastle" "nextAct" "I" ∈ lw_g := g_in (in_t1 (List.mem_of_getElem? (i := 178) (by rfl))) rfl
set_option maxRecDepth 20000 in
theorem tw_179 : Jvm.Cond.fieldLink "ChalkCastle" (50 : Nat) "ChalkCastle" "acts" "I" ∈ lw_g := g_in (in_t1 (List.mem_of_getElem? (i := 179) (by rfl))) rfl
set_option maxRecDepth 20000 in
theorem tw_180 : Jvm.Cond.fieldLink "ChalkCastle" (53 : Nat) "ChalkCastle" "imagePlans" "[LChalkCastle$Plan;" ∈ lw_g := g_in (in_t1 (List.mem_of_getElem? (i := 180) (by rfl))) rfl
set_option maxRecDepth 20000 in
theorem tw_181 : Jvm.Cond.fieldLink "ChalkCastle" (57 : Nat) "ChalkCastle" "imageStates" "[LChalkCastle$State;" ∈ lw_g := g_in (in_t1 (List.mem_of_getElem? (i := 181) (by rfl))) rfl
set_option maxRecDepth 20000 in
theorem tw_182 : Jvm.Cond.fieldLink "ChalkCastle" (60 : Nat) "ChalkCastle" "foretold" "LChalkCastle$State;" ∈ lw_g := g_in (in_t1 (List.mem_of_getElem? (i := 182) (by rfl))) rfl
set_option maxRecDepth 20000 in
theorem tw_183 : Jvm.Cond.fieldLink "ChalkCastle" (66 : Nat) "ChalkCastle" "search" "LChalkCastle$Search;" ∈ lw_g := g_in (in_t1 (List.mem_of_getElem? (i := 183) (by rfl))) rfl
set_option maxRecDepth 20000 in
theorem tw_184 : Jvm.Cond.fieldLink "ChalkCastle" (73 : Nat) "ChalkCastle" "asking" "LChalkCastle$Asking;" ∈ lw_g := g_in (in_t1 (List.mem_of_getElem? (i := 184) (by rfl))) rfl
set_option maxRecDepth 20000 in
theorem tw_217 : Jvm.Cond.instanceMethod ({ cls := "ChalkCastle", name := "row", desc := "(III)I" } : Jvm.MethodName) ∈ lw_g := g_in (in_t1 (List.mem_of_getElem? (i := 217) (by rfl))) rfl
set_option maxRecDepth 20000 in
theorem tw_219 : Jvm.Cond.code ({ cls := "ChalkCastle", name := "row", desc := "(III)I" } : Jvm.MethodName) prog_1_method_2_code (4 : Nat) (Option.some Jvm.ClassFile.FieldType.int) ∈ lw_g := g_in (in_t1 (List.mem_of_getElem? (i := 219) (by rfl))) rfl
set_option maxRecDepth 20000 in
theorem tw_220 : Jvm.Cond.methodLink "ChalkCastle" (77 : Nat) ({ cls := "ChalkCastle", name := "isBelow", desc := "(II)Z" } : Jvm.MethodName) ∈ lw_g := g_in (in_t1 (List.mem_of_getElem? (i := 220) (by rfl))) rfl
set_option maxRecDepth 20000 in
theorem tw_221 : Jvm.Cond.static ({ cls := "ChalkCastle", name := "isBelow", desc := "(II)Z" } : Jvm.MethodName) ∈ lw_g := g_in (in_t1 (List.mem_of_getElem? (i := 221) (by rfl))) rfl
set_option maxRecDepth 20000 in
theorem tw_222 : Jvm.Cond.code ({ cls := "ChalkCastle", name := "isBelow", desc := "(II)Z" } : Jvm.MethodName) prog_1_method_38_code (2 : Nat) (Option.some Jvm.ClassFile.FieldType.boolean) ∈ lw_g := g_in (in_t1 (List.mem_of_getElem? (i := 222) (by rfl))) rfl
set_option maxRecDepth 20000 in
theorem tw_223 : Jvm.Cond.constant "ChalkCastle" (81 : Nat) (-1000001 : Int32) ∈ lw_g := g_in (in_t1 (List.mem_of_getElem? (i := 223) (by rfl))) rfl
set_option maxRecDepth 20000 in
theorem tw_224 : Jvm.Cond.methodLink "ChalkCastle" (82 : Nat) ({ cls := "ChalkCastle", name := "found", desc := "(I)I" } : Jvm.MethodName) ∈ lw_g := g_in (in_t1 (List.mem_of_getElem? (i := 224) (by rfl))) rfl
set_option maxRecDepth 20000 in
theorem tw_226 : Jvm.Cond.instanceMethod ({ cls := "ChalkCastle", name := "found", desc := "(I)I" } : Jvm.MethodName) ∈ lw_g := g_in (in_t1 (List.mem_of_getElem? (i := 226) (by rfl))) rfl
set_option maxRecDepth 20000 in
theorem tw_227 : Jvm.Cond.code ({ cls := "ChalkCastle", name := "found", desc := "(I)I" } : Jvm.MethodName) prog_1_method_40_code (2 : Nat) (Option.some Jvm.ClassFile.FieldType.int) ∈ lw_g := g_in (in_t1 (List.mem_of_getElem? (i := 227) (by rfl))) rfl
set_option maxRecDepth 20000 in
theorem tw_228 : Jvm.Cond.constant "ChalkCastle" (309 : Nat) (-1000010 : Int32) ∈ lw_g := g_in (in_t1 (List.mem_of_getElem? (i := 228) (by rfl))) rfl
set_option maxRecDepth 20000 in
theorem tw_230 : Jvm.Cond.methodLink "ChalkCastle" (86 : Nat) ({ cls := "ChalkCastle$Row", name := "<init>", desc := "(II)V" } : Jvm.MethodName) ∈ lw_g := g_in (in_t1 (List.mem_of_getElem? (i := 230) (by rfl))) rfl
set_option maxRecDepth 20000 in
theorem tw_231 : Jvm.Cond.instanceMethod ({ cls := "ChalkCastle$Row", name := "<init>", desc := "(II)V" } : Jvm.MethodName) ∈ lw_g := g_in (in_t1 (List.mem_of_getElem? (i := 231) (by rfl))) rfl
set_option maxRecDepth 20000 in
theorem tw_232 : Jvm.Cond.code ({ cls := "ChalkCastle$Row", name := "<init>", desc := "(II)V" } : Jvm.MethodName) prog_5_method_1_code (3 : Nat) (Option.none : Option Jvm.ClassFile.FieldType) ∈ lw_g := g_in (in_t1 (List.mem_of_getElem? (i := 232) (by rfl))) rfl
set_option maxRecDepth 20000 in
theorem tw_233 : Jvm.Cond.methodLink "ChalkCastle$Row" (1 : Nat) ({ cls := "java/lang/Object", name := "<init>", desc := "()V" } : Jvm.MethodName) ∈ lw_g := g_in (in_t1 (List.mem_of_getElem? (i := 233) (by rfl))) rfl
set_option maxRecDepth 20000 in
theorem tw_234 : Jvm.Cond.methodLink "ChalkCastle$Row" (13 : Nat) ({ cls := "java/lang/Math", name := "max", desc := "(II)I" } : Jvm.MethodName) ∈ lw_g := g_in (in_t1 (List.mem_of_getElem? (i := 234) (by rfl))) rfl
set_option maxRecDepth 20000 in
theorem tw_237 : Jvm.Cond.fieldLink "ChalkCastle$Row" (7 : Nat) "ChalkCastle$Row" "lane" "I" ∈ lw_g := g_in (in_t1 (List.mem_of_getElem? (i := 237) (by rfl))) rfl
set_option maxRecDepth 20000 in
theorem tw_238 : Jvm.Cond.fieldLink "ChalkCastle" (101 : Nat) "ChalkCastle$Row" "lane" "I" ∈ lw_g := g_in (in_t1 (List.mem_of_getElem? (i := 238) (by rfl))) rfl
set_option maxRecDepth 20000 in
theorem tw_239 : Jvm.Cond.fieldLink "ChalkCastle$Row" (19 : Nat) "ChalkCastle$Row" "items" "[I" ∈ lw_g := g_in (in_t1 (List.mem_of_getElem? (i := 239) (by rfl))) rfl
set_option maxRecDepth 20000 in
theorem tw_240 : Jvm.Cond.fieldLink "ChalkCastle" (95 : Nat) "ChalkCastle$Row" "items" "[I" ∈ lw_g := g_in (in_t2 (List.mem_of_getElem? (i := 0) (by rfl))) rfl
set_option maxRecDepth 20000 in
theorem tw_246 : Jvm.Cond.methodLink "ChalkCastle" (89 : Nat) ({ cls := "ChalkCastle", name := "foundNone", desc := "(I)I" } : Jvm.MethodName) ∈ lw_g := g_in (in_t2 (List.mem_of_getElem? (i := 6) (by rfl))) rfl
set_option maxRecDepth 20000 in
theorem tw_248 : Jvm.Cond.instanceMethod ({ cls := "ChalkCastle", name := "foundNone", desc := "(I)I" } : Jvm.MethodName) ∈ lw_g := g_in (in_t2 (List.mem_of_getElem? (i := 8) (by rfl))) rfl
set_option maxRecDepth 20000 in
theorem tw_249 : Jvm.Cond.code ({ cls := "ChalkCastle", name := "foundNone", desc := "(I)I" } : Jvm.MethodName) prog_1_method_41_code (2 : Nat) (Option.some Jvm.ClassFile.FieldType.int) ∈ lw_g := g_in (in_t2 (List.mem_of_getElem? (i := 9) (by rfl))) rfl
set_option maxRecDepth 20000 in
theorem tw_251 : Jvm.Cond.instanceMethod ({ cls := "ChalkCastle", name := "set", desc := "(III)I" } : Jvm.MethodName) ∈ lw_g := g_in (in_t2 (List.mem_of_getElem? (i := 11) (by rfl))) rfl
set_option maxRecDepth 20000 in
theorem tw_253 : Jvm.Cond.code ({ cls := "ChalkCastle", name := "set", desc := "(III)I" } : Jvm.MethodName) prog_1_method_3_code (5 : Nat) (Option.some Jvm.ClassFile.FieldType.int) ∈ lw_g := g_in (in_t2 (List.mem_of_getElem? (i := 13) (by rfl))) rfl
set_option maxRecDepth 20000 in
theorem tw_254 : Jvm.Cond.methodLink "ChalkCastle" (92 : Nat) ({ cls := "ChalkCastle$Row", name := "hasPlaces", desc := "(II)Z" } : Jvm.MethodName) ∈ lw_g := g_in (in_t2 (List.mem_of_getElem? (i := 14) (by rfl))) rfl
set_option maxRecDepth 20000 in
theorem tw_255 : Jvm.Cond.instanceMethod ({ cls := "ChalkCastle$Row", name := "hasPlaces", desc := "(II)Z" } : Jvm.MethodName) ∈ lw_g := g_in (in_t2 (List.mem_of_getElem? (i := 15) (by rfl))) rfl
set_option maxRecDepth 20000 in
theorem tw_257 : Jvm.Cond.code ({ cls := "ChalkCastle$Row", name := "hasPlaces", desc := "(II)Z" } : Jvm.MethodName) prog_5_method_2_code (3 : Nat) (Option.some Jvm.ClassFile.FieldType.boolean) ∈ lw_g := g_in (in_t2 (List.mem_of_getElem? (i := 17) (by rfl))) rfl
set_option maxRecDepth 20000 in
theorem tw_258 : Jvm.Cond.methodLink "ChalkCastle" (98 : Nat) ({ cls := "ChalkCastle$Row", name := "lowestBits", desc := "(I)I" } : Jvm.MethodName) ∈ lw_g := g_in (in_t2 (List.mem_of_getElem? (i := 18) (by rfl))) rfl
set_option maxRecDepth 20000 in
theorem tw_259 : Jvm.Cond.instanceMethod ({ cls := "ChalkCastle$Row", name := "lowestBits", desc := "(I)I" } : Jvm.MethodName) ∈ lw_g := g_in (in_t2 (List.mem_of_getElem? (i := 19) (by rfl))) rfl
set_option maxRecDepth 20000 in
theorem tw_261 : Jvm.Cond.code ({ cls := "ChalkCastle$Row", name := "lowestBits", desc := "(I)I" } : Jvm.MethodName) prog_5_method_3_code (2 : Nat) (Option.some Jvm.ClassFile.FieldType.int) ∈ lw_g := g_in (in_t2 (List.mem_of_getElem? (i := 21) (by rfl))) rfl
set_option maxRecDepth 20000 in
theorem tw_263 : Jvm.Cond.instanceMethod ({ cls := "ChalkCastle", name := "copy", desc := "(IIIII)I" } : Jvm.MethodName) ∈ lw_g := g_in (in_t2 (List.mem_of_getElem? (i := 23) (by rfl))) rfl
set_option maxRecDepth 20000 in
theorem tw_265 : Jvm.Cond.code ({ cls := "ChalkCastle", name := "copy", desc := "(IIIII)I" } : Jvm.MethodName) prog_1_method_4_code (8 : Nat) (Option.some Jvm.ClassFile.FieldType.int) ∈ lw_g := g_in (in_t2 (List.mem_of_getElem? (i := 25) (by rfl))) rfl
set_option maxRecDepth 20000 in
theorem tw_266 : Jvm.Cond.methodLink "ChalkCastle" (104 : Nat) ({ cls := "java/lang/System", name := "arraycopy", desc := "(Ljava/lang/Object;ILjava/lang/Object;II)V" } : Jvm.MethodName) ∈ lw_g := g_in (in_t2 (List.mem_of_getElem? (i := 26) (by rfl))) rfl
set_option maxRecDepth 20000 in
theorem tw_270 : Jvm.Cond.instanceMethod ({ cls := "ChalkCastle", name := "drop", desc := "(I)I" } : Jvm.MethodName) ∈ lw_g := g_in (in_t2 (List.mem_of_getElem? (i := 30) (by rfl))) rfl
set_option maxRecDepth 20000 in
theorem tw_272 : Jvm.Cond.code ({ cls := "ChalkCastle", name := "drop", desc := "(I)I" } : Jvm.MethodName) prog_1_method_5_code (3 : Nat) (Option.some Jvm.ClassFile.FieldType.int) ∈ lw_g := g_in (in_t2 (List.mem_of_getElem? (i := 32) (by rfl))) rfl
set_option maxRecDepth 20000 in
theorem tw_274 : Jvm.Cond.instanceMethod ({ cls := "ChalkCastle", name := "feed", desc := "(I)I" } : Jvm.MethodName) ∈ lw_g := g_in (in_t2 (List.mem_of_getElem? (i := 34) (by rfl))) rfl
set_option maxRecDepth 20000 in
theorem tw_276 : Jvm.Cond.code ({ cls := "ChalkCastle", name := "feed", desc := "(I)I" } : Jvm.MethodName) prog_1_method_6_code (2 : Nat) (Option.some Jvm.ClassFile.FieldType.int) ∈ lw_g := g_in (in_t2 (List.mem_of_getElem? (i := 36) (by rfl))) rfl
set_option maxRecDepth 20000 in
theorem tw_277 : Jvm.Cond.constant "ChalkCastle" (110 : Nat) (-1000003 : Int32) ∈ lw_g := g_in (in_t2 (List.mem_of_getElem? (i := 37) (by rfl))) rfl
set_option maxRecDepth 20000 in
theorem tw_279 : Jvm.Cond.instanceMethod ({ cls := "ChalkCastle", name := "castle", desc := "()I" } : Jvm.MethodName) ∈ lw_g := g_in (in_t2 (List.mem_of_getElem? (i := 39) (by rfl))) rfl
set_option maxRecDepth 20000 in
theorem tw_281 : Jvm.Cond.code ({ cls := "ChalkCastle", name := "castle", desc := "()I" } : Jvm.MethodName) prog_1_method_7_code (2 : Nat) (Option.some Jvm.ClassFile.FieldType.int) ∈ lw_g := g_in (in_t2 (List.mem_of_getElem? (i := 41) (by rfl))) rfl
set_option maxRecDepth 20000 in
theorem tw_282 : Jvm.Cond.classLink "ChalkCastle" (111 : Nat) "ChalkCastle$Reader" ∈ lw_g := g_in (in_t2 (List.mem_of_getElem? (i := 42) (by rfl))) rfl
set_option maxRecDepth 20000 in
theorem tw_284 : Jvm.Cond.methodLink "ChalkCastle" (113 : Nat) ({ cls := "ChalkCastle$Reader", name := "<init>", desc := "([II)V" } : Jvm.MethodName) ∈ lw_g := g_in (in_t2 (List.mem_of_getElem? (i := 44) (by rfl))) rfl
set_option maxRecDepth 20000 in
theorem tw_285 : Jvm.Cond.instanceMethod ({ cls := "ChalkCastle$Reader", name := "<init>", desc := "([II)V" } : Jvm.MethodName) ∈ lw_g := g_in (in_t2 (List.mem_of_getElem? (i := 45) (by rfl))) rfl
set_option maxRecDepth 20000 in
theorem tw_286 : Jvm.Cond.code ({ cls := "ChalkCastle$Reader", name := "<init>", desc := "([II)V" } : Jvm.MethodName) prog_4_method_1_code (3 : Nat) (Option.none : Option Jvm.ClassFile.FieldType) ∈ lw_g := g_in (in_t2 (List.mem_of_getElem? (i := 46) (by rfl))) rfl
set_option maxRecDepth 20000 in
theorem tw_287 : Jvm.Cond.methodLink "ChalkCastle$Reader" (3 : Nat) ({ cls := "java/lang/Object", name := "<init>", desc := "()V" } : Jvm.MethodName) ∈ lw_g := g_in (in_t2 (List.mem_of_getElem? (i := 47) (by rfl))) rfl
set_option maxRecDepth 20000 in
theorem tw_288 : Jvm.Cond.classLink "ChalkCastle$Reader" (9 : Nat) "ChalkCastle$Plan" ∈ lw_g := g_in (in_t2 (List.mem_of_getElem? (i := 48) (by rfl))) rfl
set_option maxRecDepth 20000 in
theorem tw_289 : Jvm.Cond.methodLink "ChalkCastle$Reader" (11 : Nat) ({ cls := "ChalkCastle$Plan", name := "<init>", desc := "()V" } : Jvm.MethodName) ∈ lw_g := g_in (in_t2 (List.mem_of_getElem? (i := 49) (by rfl))) rfl
set_option maxRecDepth 20000 in
theorem tw_290 : Jvm.Cond.methodLink "ChalkCastle$Reader" (29 : Nat) ({ cls := "java/lang/Math", name := "min", desc := "(II)I" } : Jvm.MethodName) ∈ lw_g := g_in (in_t2 (List.mem_of_getElem? (i := 50) (by rfl))) rfl
set_option maxRecDepth 20000 in
theorem tw_293 : Jvm.Cond.fieldLink "ChalkCastle$Reader" (12 : Nat) "ChalkCastle$Reader" "plan" "LChalkCastle$Plan;" ∈ lw_g := g_in (in_t2 (List.mem_of_getElem? (i := 53) (by rfl))) rfl
set_option maxRecDepth 20000 in
theorem tw_294 : Jvm.Cond.fieldLink "ChalkCastle" (126 : Nat) "ChalkCastle$Reader" "plan" "LChalkCastle$Plan;" ∈ lw_g := g_in (in_t2 (List.mem_of_getElem? (i := 54) (by rfl))) rfl
set_option maxRecDepth 20000 in
theorem tw_295 : Jvm.Cond.fieldLink "ChalkCastle$Reader" (25 : Nat) "ChalkCastle$Reader" "tape" "[I" ∈ lw_g := g_in (in_t2 (List.mem_of_getElem? (i := 55) (by rfl))) rfl
set_option maxRecDepth 20000 in
theorem tw_296 : Jvm.Cond.fieldLink "ChalkCastle$Reader" (35 : Nat) "ChalkCastle$Reader" "bytes" "I" ∈ lw_g := g_in (in_t2 (List.mem_of_getElem? (i := 56) (by rfl))) rfl
set_option maxRecDepth 20000 in
theorem tw_297 : Jvm.Cond.fieldLink "ChalkCastle$Reader" (18 : Nat) "ChalkCastle$Reader" "place" "I" ∈ lw_g := g_in (in_t2 (List.mem_of_getElem? (i := 57) (by rfl))) rfl
set_option maxRecDepth 20000 in
theorem tw_298 : Jvm.Cond.fieldLink "ChalkCastle" (123 : Nat) "ChalkCastle$Reader" "place" "I" ∈ lw_g := g_in (in_t2 (List.mem_of_getElem? (i := 58) (by rfl))) rfl
set_option maxRecDepth 20000 in
theorem tw_299 : Jvm.Cond.fieldLink "ChalkCastle$Reader" (22 : Nat) "ChalkCastle$Reader" "fault" "I" ∈ lw_g := g_in (in_t2 (List.mem_of_getElem? (i := 59) (by rfl))) rfl
set_option maxRecDepth 20000 in
theorem tw_300 : Jvm.Cond.fieldLink "ChalkCastle" (119 : Nat) "ChalkCastle$Reader" "fault" "I" ∈ lw_g := g_in (in_t2 (List.mem_of_getElem? (i := 60) (by rfl))) rfl
set_option maxRecDepth 20000 in
theorem tw_312 : Jvm.Cond.methodLink "ChalkCastle" (116 : Nat) ({ cls := "ChalkCastle$Reader", name := "readCastle", desc := "()V" } : Jvm.MethodName) ∈ lw_g := g_in (in_t2 (List.mem_of_getElem? (i := 72) (by rfl))) rfl
set_option maxRecDepth 20000 in
theorem tw_313 : Jvm.Cond.instanceMethod ({ cls := "ChalkCastle$Reader", name := "readCastle", desc := "()V" } : Jvm.MethodName) ∈ lw_g := g_in (in_t2 (List.mem_of_getElem? (i := 73) (by rfl))) rfl
set_option maxRecDepth 20000 in
theorem tw_315 : Jvm.Cond.code ({ cls := "ChalkCastle$Reader", name := "readCastle", desc := "()V" } : Jvm.MethodName) prog_4_method_2_code (2 : Nat) (Option.none : Option Jvm.ClassFile.FieldType) ∈ lw_g := g_in (in_t2 (List.mem_of_getElem? (i := 75) (by rfl))) rfl
set_option maxRecDepth 20000 in
theorem tw_316 : Jvm.Cond.methodLink "ChalkCastle$Reader" (38 : Nat) ({ cls := "ChalkCastle$Reader", name := "readLaw", desc := "()V" } : Jvm.MethodName) ∈ lw_g := g_in (in_t2 (List.mem_of_getElem? (i := 76) (by rfl))) rfl
set_option maxRecDepth 20000 in
theorem tw_317 : Jvm.Cond.instanceMethod ({ cls := "ChalkCastle$Reader", name := "readLaw", desc := "()V" } : Jvm.MethodName) ∈ lw_g := g_in (in_t2 (List.mem_of_getElem? (i := 77) (by rfl))) rfl
set_option maxRecDepth 20000 in
theorem tw_319 : Jvm.Cond.code ({ cls := "ChalkCastle$Reader", name := "readLaw", desc := "()V" } : Jvm.MethodName) prog_4_method_3_code (1 : Nat) (Option.none : Option Jvm.ClassFile.FieldType) ∈ lw_g := g_in (in_t2 (List.mem_of_getElem? (i := 79) (by rfl))) rfl
set_option maxRecDepth 20000 in
theorem tw_320 : Jvm.Cond.methodLink "ChalkCastle$Reader" (58 : Nat) ({ cls := "ChalkCastle$Reader", name := "readSign", desc := "(I)V" } : Jvm.MethodName) ∈ lw_g := g_in (in_t2 (List.mem_of_getElem? (i := 80) (by rfl))) rfl
set_option maxRecDepth 20000 in
theorem tw_321 : Jvm.Cond.instanceMethod ({ cls := "ChalkCastle$Reader", name := "readSign", desc := "(I)V" } : Jvm.MethodName) ∈ lw_g := g_in (in_t2 (List.mem_of_getElem? (i := 81) (by rfl))) rfl
set_option maxRecDepth 20000 in
theorem tw_323 : Jvm.Cond.code ({ cls := "ChalkCastle$Reader", name := "readSign", desc := "(I)V" } : Jvm.MethodName) prog_4_method_10_code (2 : Nat) (Option.none : Option Jvm.ClassFile.FieldType) ∈ lw_g := g_in (in_t2 (List.mem_of_getElem? (i := 83) (by rfl))) rfl
set_option maxRecDepth 20000 in
theorem tw_324 : Jvm.Cond.methodLink "ChalkCastle$Reader" (44 : Nat) ({ cls := "ChalkCastle$Reader", name := "letter", desc := "()I" } : Jvm.MethodName) ∈ lw_g := g_in (in_t2 (List.mem_of_getElem? (i := 84) (by rfl))) rfl
set_option maxRecDepth 20000 in
theorem tw_325 : Jvm.Cond.instanceMethod ({ cls := "ChalkCastle$Reader", name := "letter", desc := "()I" } : Jvm.MethodName) ∈ lw_g := g_in (in_t2 (List.mem_of_getElem? (i := 85) (by rfl))) rfl
set_option maxRecDepth 20000 in
theorem tw_327 : Jvm.Cond.code ({ cls := "ChalkCastle$Reader", name := "letter", desc := "()I" } : Jvm.MethodName) prog_4_method_8_code (1 : Nat) (Option.some Jvm.ClassFile.FieldType.int) ∈ lw_g := g_in (in_t2 (List.mem_of_getElem? (i := 87) (by rfl))) rfl
set_option maxRecDepth 20000 in
theorem tw_328 : Jvm.Cond.methodLink "ChalkCastle$Reader" (62 : Nat) ({ cls := "ChalkCastle$Reader", name := "readNumber", desc := "(II)I" } : Jvm.MethodName) ∈ lw_g := g_in (in_t2 (List.mem_of_getElem? (i := 88) (by rfl))) rfl
set_option maxRecDepth 20000 in
theorem tw_329 : Jvm.Cond.instanceMethod ({ cls := "ChalkCastle$Reader", name := "readNumber", desc := "(II)I" } : Jvm.MethodName) ∈ lw_g := g_in (in_t2 (List.mem_of_getElem? (i := 89) (by rfl))) rfl
set_option maxRecDepth 20000 in
theorem tw_331 : Jvm.Cond.code ({ cls := "ChalkCastle$Reader", name := "readNumber", desc := "(II)I" } : Jvm.MethodName) prog_4_method_11_code (6 : Nat) (Option.some Jvm.ClassFile.FieldType.int) ∈ lw_g := g_in (in_t2 (List.mem_of_getElem? (i := 91) (by rfl))) rfl
set_option maxRecDepth 20000 in
theorem tw_332 : Jvm.Cond.methodLink "ChalkCastle$Reader" (41 : Nat) ({ cls := "ChalkCastle$Reader", name := "readBlock", desc := "()V" } : Jvm.MethodName) ∈ lw_g := g_in (in_t2 (List.mem_of_getElem? (i := 92) (by rfl))) rfl
set_option maxRecDepth 20000 in
theorem tw_333 : Jvm.Cond.instanceMethod ({ cls := "ChalkCastle$Reader", name := "readBlock", desc := "()V" } : Jvm.MethodName) ∈ lw_g := g_in (in_t2 (List.mem_of_getElem? (i := 93) (by rfl))) rfl
set_option maxRecDepth 20000 in
theorem tw_335 : Jvm.Cond.code ({ cls := "ChalkCastle$Reader", name := "readBlock", desc := "()V" } : Jvm.MethodName) prog_4_method_4_code (2 : Nat) (Option.none : Option Jvm.ClassFile.FieldType) ∈ lw_g := g_in (in_t2 (List.mem_of_getElem? (i := 95) (by rfl))) rfl
set_option maxRecDepth 20000 in
theorem tw_336 : Jvm.Cond.methodLink "ChalkCastle$Reader" (74 : Nat) ({ cls := "ChalkCastle$Reader", name := "lookForRoom", desc := "(III)V" } : Jvm.MethodName) ∈ lw_g := g_in (in_t2 (List.mem_of_getElem? (i := 96) (by rfl))) rfl
set_option maxRecDepth 20000 in
theorem tw_337 : Jvm.Cond.instanceMethod ({ cls := "ChalkCastle$Reader", name := "lookForRoom", desc := "(III)V" } : Jvm.MethodName) ∈ lw_g := g_in (in_t2 (List.mem_of_getElem? (i := 97) (by rfl))) rfl
set_option maxRecDepth 20000 in
theorem tw_339 : Jvm.Cond.code ({ cls := "ChalkCastle$Reader", name := "lookForRoom", desc := "(III)V" } : Jvm.MethodName) prog_4_method_9_code (4 : Nat) (Option.none : Option Jvm.ClassFile.FieldType) ∈ lw_g := g_in (in_t2 (List.mem_of_getElem? (i := 99) (by rfl))) rfl
set_option maxRecDepth 20000 in
theorem tw_340 : Jvm.Cond.methodLink "ChalkCastle$Reader" (48 : Nat) ({ cls := "ChalkCastle$Reader", name := "readRest", desc := "()V" } : Jvm.MethodName) ∈ lw_g := g_in (in_t2 (List.mem_of_getElem? (i := 100) (by rfl))) rfl
set_option maxRecDepth 20000 in
theorem tw_341 : Jvm.Cond.instanceMethod ({ cls := "ChalkCastle$Reader", name := "readRest", desc := "()V" } : Jvm.MethodName) ∈ lw_g := g_in (in_t2 (List.mem_of_getElem? (i := 101) (by rfl))) rfl
set_option maxRecDepth 20000 in
theorem tw_343 : Jvm.Cond.code ({ cls := "ChalkCastle$Reader", name := "readRest", desc := "()V" } : Jvm.MethodName) prog_4_method_5_code (4 : Nat) (Option.none : Option Jvm.ClassFile.FieldType) ∈ lw_g := g_in (in_t2 (List.mem_of_getElem? (i := 103) (by rfl))) rfl
set_option maxRecDepth 20000 in
theorem tw_344 : Jvm.Cond.methodLink "ChalkCastle$Reader" (51 : Nat) ({ cls := "ChalkCastle$Reader", name := "kindOf", desc := "(I)I" } : Jvm.MethodName) ∈ lw_g := g_in (in_t2 (List.mem_of_getElem? (i := 104) (by rfl))) rfl
set_option maxRecDepth 20000 in
theorem tw_345 : Jvm.Cond.static ({ cls := "ChalkCastle$Reader", name := "kindOf", desc := "(I)I" } : Jvm.MethodName) ∈ lw_g := g_in (in_t2 (List.mem_of_getElem? (i := 105) (by rfl))) rfl
set_option maxRecDepth 20000 in
theorem tw_346 : Jvm.Cond.code ({ cls := "ChalkCastle$Reader", name := "kindOf", desc := "(I)I" } : Jvm.MethodName) prog_4_method_7_code (1 : Nat) (Option.some Jvm.ClassFile.FieldType.int) ∈ lw_g := g_in (in_t2 (List.mem_of_getElem? (i := 106) (by rfl))) rfl
set_option maxRecDepth 20000 in
theorem tw_347 : Jvm.Cond.methodLink "ChalkCastle$Reader" (55 : Nat) ({ cls := "ChalkCastle$Reader", name := "readClerk", desc := "()V" } : Jvm.MethodName) ∈ lw_g := g_in (in_t2 (List.mem_of_getElem? (i := 107) (by rfl))) rfl
set_option maxRecDepth 20000 in
theorem tw_348 : Jvm.Cond.instanceMethod ({ cls := "ChalkCastle$Reader", name := "readClerk", desc := "()V" } : Jvm.MethodName) ∈ lw_g := g_in (in_t2 (List.mem_of_getElem? (i := 108) (by rfl))) rfl
set_option maxRecDepth 20000 in
theorem tw_350 : Jvm.Cond.code ({ cls := "ChalkCastle$Reader", name := "readClerk", desc := "()V" } : Jvm.MethodName) prog_4_method_6_code (3 : Nat) (Option.none : Option Jvm.ClassFile.FieldType) ∈ lw_g := g_in (in_t2 (List.mem_of_getElem? (i := 110) (by rfl))) rfl
set_option maxRecDepth 20000 in
theorem tw_351 : Jvm.Cond.constant "ChalkCastle" (122 : Nat) (-1000100 : Int32) ∈ lw_g := g_in (in_t2 (List.mem_of_getElem? (i := 111) (by rfl))) rfl
set_option maxRecDepth 20000 in
theorem tw_352 : Jvm.Cond.methodLink "ChalkCastle" (127 : Nat) ({ cls := "ChalkCastle$State", name := "begin", desc := "(LChalkCastle$Plan;)V" } : Jvm.MethodName) ∈ lw_g := g_in (in_t2 (List.mem_of_getElem? (i := 112) (by rfl))) rfl
set_option maxRecDepth 20000 in
theorem tw_353 : Jvm.Cond.instanceMethod ({ cls := "ChalkCastle$State", name := "begin", desc := "(LChalkCastle$Plan;)V" } : Jvm.MethodName) ∈ lw_g := g_in (in_t2 (List.mem_of_getElem? (i := 113) (by rfl))) rfl
set_option maxRecDepth 20000 in
theorem tw_355 : Jvm.Cond.code ({ cls := "ChalkCastle$State", name := "begin", desc := "(LChalkCastle$Plan;)V" } : Jvm.MethodName) prog_7_method_2_code (3 : Nat) (Option.none : Option Jvm.ClassFile.FieldType) ∈ lw_g := g_in (in_t2 (List.mem_of_getElem? (i := 115) (by rfl))) rfl
set_option maxRecDepth 20000 in
theorem tw_356 : Jvm.Cond.methodLink "ChalkCastle$State" (28 : Nat) ({ cls := "java/lang/System", name := "arraycopy", desc := "(Ljava/lang/Object;ILjava/lang/Object;II)V" } : Jvm.MethodName) ∈ lw_g := g_in (in_t2 (List.mem_of_getElem? (i := 116) (by rfl))) rfl
set_option maxRecDepth 20000 in
theorem tw_358 : Jvm.Cond.instanceMethod ({ cls := "ChalkCastle", name := "fault", desc := "()I" } : Jvm.MethodName) ∈ lw_g := g_in (in_t2 (List.mem_of_getElem? (i := 118) (by rfl))) rfl
set_option maxRecDepth 20000 in
theorem tw_360 : Jvm.Cond.code ({ cls := "ChalkCastle", name := "fault", desc := "()I" } : Jvm.MethodName) prog_1_method_8_code (1 : Nat) (Option.some Jvm.ClassFile.FieldType.int) ∈ lw_g := g_in (in_t2 (List.mem_of_getElem? (i := 120) (by rfl))) rfl
set_option maxRecDepth 20000 in
theorem tw_362 : Jvm.Cond.instanceMethod ({ cls := "ChalkCastle", name := "undo", desc := "()I" } : Jvm.MethodName) ∈ lw_g := g_in (in_t2 (List.mem_of_getElem? (i := 122) (by rfl))) rfl
set_option maxRecDepth 20000 in
theorem tw_364 : Jvm.Cond.code ({ cls := "ChalkCastle", name := "undo", desc := "()I" } : Jvm.MethodName) prog_1_method_9_code (1 : Nat) (Option.some Jvm.ClassFile.FieldType.int) ∈ lw_g := g_in (in_t2 (List.mem_of_getElem? (i := 124) (by rfl))) rfl
set_option maxRecDepth 20000 in
theorem tw_365 : Jvm.Cond.constant "ChalkCastle" (134 : Nat) (-1000002 : Int32) ∈ lw_g := g_in (in_t2 (List.mem_of_getElem? (i := 125) (by rfl))) rfl
set_option maxRecDepth 20000 in
theorem tw_366 : Jvm.Cond.methodLink "ChalkCastle" (135 : Nat) ({ cls := "ChalkCastle$State", name := "become", desc := "(LChalkCastle$State;)V" } : Jvm.MethodName) ∈ lw_g := g_in (in_t2 (List.mem_of_getElem? (i := 126) (by rfl))) rfl
set_option maxRecDepth 20000 in
theorem tw_367 : Jvm.Cond.instanceMethod ({ cls := "ChalkCastle$State", name := "become", desc := "(LChalkCastle$State;)V" } : Jvm.MethodName) ∈ lw_g := g_in (in_t2 (List.mem_of_getElem? (i := 127) (by rfl))) rfl
set_option maxRecDepth 20000 in
theorem tw_369 : Jvm.Cond.code ({ cls := "ChalkCastle$State", name := "become", desc := "(LChalkCastle$State;)V" } : Jvm.MethodName) prog_7_method_3_code (2 : Nat) (Option.none : Option Jvm.ClassFile.FieldType) ∈ lw_g := g_in (in_t2 (List.mem_of_getElem? (i := 129) (by rfl))) rfl
set_option maxRecDepth 20000 in
theorem tw_371 : Jvm.Cond.instanceMethod ({ cls := "ChalkCastle", name := "write", desc := "(III)I" } : Jvm.MethodName) ∈ lw_g := g_in (in_t2 (List.mem_of_getElem? (i := 131) (by rfl))) rfl
set_option maxRecDepth 20000 in
theorem tw_373 : Jvm.Cond.code ({ cls := "ChalkCastle", name := "write", desc := "(III)I" } : Jvm.MethodName) prog_1_method_10_code (5 : Nat) (Option.some Jvm.ClassFile.FieldType.int) ∈ lw_g := g_in (in_t2 (List.mem_of_getElem? (i := 133) (by rfl))) rfl
set_option maxRecDepth 20000 in
theorem tw_374 : Jvm.Cond.methodLink "ChalkCastle" (139 : Nat) ({ cls := "ChalkCastle$Plan", name := "hasClerk", desc := "(I)Z" } : Jvm.MethodName) ∈ lw_g := g_in (in_t2 (List.mem_of_getElem? (i := 134) (by rfl))) rfl
set_option maxRecDepth 20000 in
theorem tw_375 : Jvm.Cond.instanceMethod ({ cls := "ChalkCastle$Plan", name := "hasClerk", desc := "(I)Z" } : Jvm.MethodName) ∈ lw_g := g_in (in_t2 (List.mem_of_getElem? (i := 135) (by rfl))) rfl
set_option maxRecDepth 20000 in
theorem tw_377 : Jvm.Cond.code ({ cls := "ChalkCastle$Plan", name := "hasClerk", desc := "(I)Z" } : Jvm.MethodName) prog_3_method_3_code (2 : Nat) (Option.some Jvm.ClassFile.FieldType.boolean) ∈ lw_g := g_in (in_t2 (List.mem_of_getElem? (i := 137) (by rfl))) rfl
set_option maxRecDepth 20000 in
theorem tw_379 : Jvm.Cond.methodLink "ChalkCastle" (143 : Nat) ({ cls := "ChalkCastle", name := "isLines", desc := "(I)Z" } : Jvm.MethodName) ∈ lw_g := g_in (in_t2 (List.mem_of_getElem? (i := 139) (by rfl))) rfl
set_option maxRecDepth 20000 in
theorem tw_380 : Jvm.Cond.static ({ cls := "ChalkCastle", name := "isLines", desc := "(I)Z" } : Jvm.MethodName) ∈ lw_g := g_in (in_t2 (List.mem_of_getElem? (i := 140) (by rfl))) rfl
set_option maxRecDepth 20000 in
theorem tw_381 : Jvm.Cond.code ({ cls := "ChalkCastle", name := "isLines", desc := "(I)Z" } : Jvm.MethodName) prog_1_method_39_code (1 : Nat) (Option.some Jvm.ClassFile.FieldType.boolean) ∈ lw_g := g_in (in_t2 (List.mem_of_getElem? (i := 141) (by rfl))) rfl
set_option maxRecDepth 20000 in
theorem tw_382 : Jvm.Cond.methodLink "ChalkCastle" (146 : Nat) ({ cls := "ChalkCastle$Plan", name := "hasBlock", desc := "(I)Z" } : Jvm.MethodName) ∈ lw_g := g_in (in_t2 (List.mem_of_getElem? (i := 142) (by rfl))) rfl
set_option maxRecDepth 20000 in
theorem tw_383 : Jvm.Cond.instanceMethod ({ cls := "ChalkCastle$Plan", name := "hasBlock", desc := "(I)Z" } : Jvm.MethodName) ∈ lw_g := g_in (in_t2 (List.mem_of_getElem? (i := 143) (by rfl))) rfl
set_option maxRecDepth 20000 in
theorem tw_385 : Jvm.Cond.code ({ cls := "ChalkCastle$Plan", name := "hasBlock", desc := "(I)Z" } : Jvm.MethodName) prog_3_method_2_code (2 : Nat) (Option.some Jvm.ClassFile.FieldType.boolean) ∈ lw_g := g_in (in_t2 (List.mem_of_getElem? (i := 145) (by rfl))) rfl
set_option maxRecDepth 20000 in
theorem tw_386 : Jvm.Cond.methodLink "ChalkCastle" (152 : Nat) ({ cls := "ChalkCastle$Plan", name := "chalkFor", desc := "(III)I" } : Jvm.MethodName) ∈ lw_g := g_in (in_t2 (List.mem_of_getElem? (i := 146) (by rfl))) rfl
set_option maxRecDepth 20000 in
theorem tw_387 : Jvm.Cond.instanceMethod ({ cls := "ChalkCastle$Plan", name := "chalkFor", desc := "(III)I" } : Jvm.MethodName) ∈ lw_g := g_in (in_t2 (List.mem_of_getElem? (i := 147) (by rfl))) rfl
set_option maxRecDepth 20000 in
theorem tw_389 : Jvm.Cond.code ({ cls := "ChalkCastle$Plan", name := "chalkFor", desc := "(III)I" } : Jvm.MethodName) prog_3_method_8_code (4 : Nat) (Option.some Jvm.ClassFile.FieldType.int) ∈ lw_g := g_in (in_t2 (List.mem_of_getElem? (i := 149) (by rfl))) rfl
set_option maxRecDepth 20000 in
theorem tw_391 : Jvm.Cond.static ({ cls := "ChalkCastle", name := "chalkByKind", desc := "(IIII)I" } : Jvm.MethodName) ∈ lw_g := g_in (in_t2 (List.mem_of_getElem? (i := 151) (by rfl))) rfl
set_option maxRecDepth 20000 in
theorem tw_392 : Jvm.Cond.code ({ cls := "ChalkCastle", name := "chalkByKind", desc := "(IIII)I" } : Jvm.MethodName) prog_1_method_55_code (4 : Nat) (Option.some Jvm.ClassFile.FieldType.int) ∈ lw_g := g_in (in_t2 (List.mem_of_getElem? (i := 152) (by rfl))) rfl
set_option maxRecDepth 20000 in
theorem tw_393 : Jvm.Cond.methodLink "ChalkCastle" (174 : Nat) ({ cls := "java/lang/Math", name := "min", desc := "(II)I" } : Jvm.MethodName) ∈ lw_g := g_in (in_t2 (List.mem_of_getElem? (i := 153) (by rfl))) rfl
set_option maxRecDepth 20000 in
theorem tw_394 : Jvm.Cond.methodLink "ChalkCastle" (159 : Nat) ({ cls := "ChalkCastle", name := "beginAct", desc := "()V" } : Jvm.MethodName) ∈ lw_g := g_in (in_t2 (List.mem_of_getElem? (i := 154) (by rfl))) rfl
set_option maxRecDepth 20000 in
theorem tw_396 : Jvm.Cond.instanceMethod ({ cls := "ChalkCastle", name := "beginAct", desc := "()V" } : Jvm.MethodName) ∈ lw_g := g_in (in_t2 (List.mem_of_getElem? (i := 156) (by rfl))) rfl
set_option maxRecDepth 20000 in
theorem tw_397 : Jvm.Cond.code ({ cls := "ChalkCastle", name := "beginAct", desc := "()V" } : Jvm.MethodName) prog_1_method_44_code (1 : Nat) (Option.none : Option Jvm.ClassFile.FieldType) ∈ lw_g := g_in (in_t2 (List.mem_of_getElem? (i := 157) (by rfl))) rfl
set_option maxRecDepth 20000 in
theorem tw_398 : Jvm.Cond.methodLink "ChalkCastle" (162 : Nat) ({ cls := "ChalkCastle$State", name := "useUp", desc := "(II)V" } : Jvm.MethodName) ∈ lw_g := g_in (in_t2 (List.mem_of_getElem? (i := 158) (by rfl))) rfl
set_option maxRecDepth 20000 in
theorem tw_399 : Jvm.Cond.instanceMethod ({ cls := "ChalkCastle$State", name := "useUp", desc := "(II)V" } : Jvm.MethodName) ∈ lw_g := g_in (in_t2 (List.mem_of_getElem? (i := 159) (by rfl))) rfl
set_option maxRecDepth 20000 in
theorem tw_401 : Jvm.Cond.code ({ cls := "ChalkCastle$State", name := "useUp", desc := "(II)V" } : Jvm.MethodName) prog_7_method_4_code (3 : Nat) (Option.none : Option Jvm.ClassFile.FieldType) ∈ lw_g := g_in (in_t2 (List.mem_of_getElem? (i := 161) (by rfl))) rfl
set_option maxRecDepth 20000 in
theorem tw_403 : Jvm.Cond.instanceMethod ({ cls := "ChalkCastle", name := "rub", desc := "(II)I" } : Jvm.MethodName) ∈ lw_g := g_in (in_t2 (List.mem_of_getElem? (i := 163) (by rfl))) rfl
set_option maxRecDepth 20000 in
theorem tw_405 : Jvm.Cond.code ({ cls := "ChalkCastle", name := "rub", desc := "(II)I" } : Jvm.MethodName) prog_1_method_11_code (3 : Nat) (Option.some Jvm.ClassFile.FieldType.int) ∈ lw_g := g_in (in_t2 (List.mem_of_getElem? (i := 165) (by rfl))) rfl
set_option maxRecDepth 20000 in
theorem tw_407 : Jvm.Cond.instanceMethod ({ cls := "ChalkCastle", name := "rain", desc := "()I" } : Jvm.MethodName) ∈ lw_g := g_in (in_t2 (List.mem_of_getElem? (i := 167) (by rfl))) rfl
set_option maxRecDepth 20000 in
theorem tw_409 : Jvm.Cond.code ({ cls := "ChalkCastle", name := "rain", desc := "()I" } : Jvm.MethodName) prog_1_method_12_code (1 : Nat) (Option.some Jvm.ClassFile.FieldType.int) ∈ lw_g := g_in (in_t2 (List.mem_of_getElem? (i := 169) (by rfl))) rfl
set_option maxRecDepth 20000 in
theorem tw_410 : Jvm.Cond.methodLink "ChalkCastle" (180 : Nat) ({ cls := "ChalkCastle", name := "hasCastle", desc := "()Z" } : Jvm.MethodName) ∈ lw_g := g_in (in_t2 (List.mem_of_getElem? (i := 170) (by rfl))) rfl
set_option maxRecDepth 20000 in
theorem tw_412 : Jvm.Cond.instanceMethod ({ cls := "ChalkCastle", name := "hasCastle", desc := "()Z" } : Jvm.MethodName) ∈ lw_g := g_in (in_t2 (List.mem_of_getElem? (i := 172) (by rfl))) rfl
set_option maxRecDepth 20000 in
theorem tw_413 : Jvm.Cond.code ({ cls := "ChalkCastle", name := "hasCastle", desc := "()Z" } : Jvm.MethodName) prog_1_method_42_code (1 : Nat) (Option.some Jvm.ClassFile.FieldType.boolean) ∈ lw_g := g_in (in_t2 (List.mem_of_getElem? (i := 173) (by rfl))) rfl
set_option maxRecDepth 20000 in
theorem tw_414 : Jvm.Cond.methodLink "ChalkCastle" (184 : Nat) ({ cls := "ChalkCastle$Plan", name := "letRain", desc := "(LChalkCastle$State;)V" } : Jvm.MethodName) ∈ lw_g := g_in (in_t2 (List.mem_of_getElem? (i := 174) (by rfl))) rfl
set_option maxRecDepth 20000 in
theorem tw_415 : Jvm.Cond.instanceMethod ({ cls := "ChalkCastle$Plan", name := "letRain", desc := "(LChalkCastle$State;)V" } : Jvm.MethodName) ∈ lw_g := g_in (in_t2 (List.mem_of_getElem? (i := 175) (by rfl))) rfl
set_option maxRecDepth 20000 in
theorem tw_417 : Jvm.Cond.code ({ cls := "ChalkCastle$Plan", name := "letRain", desc := "(LChalkCastle$State;)V" } : Jvm.MethodName) prog_3_method_9_code (4 : Nat) (Option.none : Option Jvm.ClassFile.FieldType) ∈ lw_g := g_in (in_t2 (List.mem_of_getElem? (i := 177) (by rfl))) rfl
set_option maxRecDepth 20000 in
theorem tw_418 : Jvm.Cond.methodLink "ChalkCastle$Plan" (54 : Nat) ({ cls := "ChalkCastle$State", name := "withChalk", desc := "()I" } : Jvm.MethodName) ∈ lw_g := g_in (in_t2 (List.mem_of_getElem? (i := 178) (by rfl))) rfl
set_option maxRecDepth 20000 in
theorem tw_419 : Jvm.Cond.instanceMethod ({ cls := "ChalkCastle$State", name := "withChalk", desc := "()I" } : Jvm.MethodName) ∈ lw_g := g_in (in_t2 (List.mem_of_getElem? (i := 179) (by rfl))) rfl
set_option maxRecDepth 20000 in
theorem tw_421 : Jvm.Cond.code ({ cls := "ChalkCastle$State", name := "withChalk", desc := "()I" } : Jvm.MethodName) prog_7_method_5_code (3 : Nat) (Option.some Jvm.ClassFile.FieldType.int) ∈ lw_g := g_in (in_t2 (List.mem_of_getElem? (i := 181) (by rfl))) rfl
set_option maxRecDepth 20000 in
theorem tw_422 : Jvm.Cond.methodLink "ChalkCastle$Plan" (60 : Nat) ({ cls := "ChalkCastle$Plan", name := "standing", desc := "(I)I" } : Jvm.MethodName) ∈ lw_g := g_in (in_t2 (List.mem_of_getElem? (i := 182) (by rfl))) rfl
set_option maxRecDepth 20000 in
theorem tw_423 : Jvm.Cond.instanceMethod ({ cls := "ChalkCastle$Plan", name := "standing", desc := "(I)I" } : Jvm.MethodName) ∈ lw_g := g_in (in_t2 (List.mem_of_getElem? (i := 183) (by rfl))) rfl
set_option maxRecDepth 20000 in
theorem tw_425 : Jvm.Cond.code ({ cls := "ChalkCastle$Plan", name := "standing", desc := "(I)I" } : Jvm.MethodName) prog_3_method_6_code (5 : Nat) (Option.some Jvm.ClassFile.FieldType.int) ∈ lw_g := g_in (in_t2 (List.mem_of_getElem? (i := 185) (by rfl))) rfl
set_option maxRecDepth 20000 in
theorem tw_426 : Jvm.Cond.methodLink "ChalkCastle$Plan" (64 : Nat) ({ cls := "ChalkCastle$Plan", name := "above", desc := "(I)I" } : Jvm.MethodName) ∈ lw_g := g_in (in_t2 (List.mem_of_getElem? (i := 186) (by rfl))) rfl
set_option maxRecDepth 20000 in
theorem tw_427 : Jvm.Cond.instanceMethod ({ cls := "ChalkCastle$Plan", name := "above", desc := "(I)I" } : Jvm.MethodName) ∈ lw_g := g_in (in_t2 (List.mem_of_getElem? (i := 187) (by rfl))) rfl
set_option maxRecDepth 20000 in
theorem tw_429 : Jvm.Cond.code ({ cls := "ChalkCastle$Plan", name := "above", desc := "(I)I" } : Jvm.MethodName) prog_3_method_5_code (4 : Nat) (Option.some Jvm.ClassFile.FieldType.int) ∈ lw_g := g_in (in_t2 (List.mem_of_getElem? (i := 189) (by rfl))) rfl
set_option maxRecDepth 20000 in
theorem tw_430 : Jvm.Cond.methodLink "ChalkCastle$Plan" (44 : Nat) ({ cls := "java/lang/Math", name := "max", desc := "(II)I" } : Jvm.MethodName) ∈ lw_g := g_in (in_t2 (List.mem_of_getElem? (i := 190) (by rfl))) rfl
set_option maxRecDepth 20000 in
theorem tw_431 : Jvm.Cond.methodLink "ChalkCastle" (187 : Nat) ({ cls := "ChalkCastle", name := "standingNow", desc := "()I" } : Jvm.MethodName) ∈ lw_g := g_in (in_t2 (List.mem_of_getElem? (i := 191) (by rfl))) rfl
set_option maxRecDepth 20000 in
theorem tw_433 : Jvm.Cond.instanceMethod ({ cls := "ChalkCastle", name := "standingNow", desc := "()I" } : Jvm.MethodName) ∈ lw_g := g_in (in_t2 (List.mem_of_getElem? (i := 193) (by rfl))) rfl
set_option maxRecDepth 20000 in
theorem tw_434 : Jvm.Cond.code ({ cls := "ChalkCastle", name := "standingNow", desc := "()I" } : Jvm.MethodName) prog_1_method_45_code (1 : Nat) (Option.some Jvm.ClassFile.FieldType.int) ∈ lw_g := g_in (in_t2 (List.mem_of_getElem? (i := 194) (by rfl))) rfl
set_option maxRecDepth 20000 in
theorem tw_435 : Jvm.Cond.methodLink "ChalkCastle" (200 : Nat) ({ cls := "ChalkCastle$State", name := "withChalk", desc := "()I" } : Jvm.MethodName) ∈ lw_g := g_in (in_t2 (List.mem_of_getElem? (i := 195) (by rfl))) rfl
set_option maxRecDepth 20000 in
theorem tw_436 : Jvm.Cond.methodLink "ChalkCastle" (215 : Nat) ({ cls := "ChalkCastle$Plan", name := "standing", desc := "(I)I" } : Jvm.MethodName) ∈ lw_g := g_in (in_t2 (List.mem_of_getElem? (i := 196) (by rfl))) rfl
set_option maxRecDepth 20000 in
theorem tw_438 : Jvm.Cond.instanceMethod ({ cls := "ChalkCastle", name := "days", desc := "(I)I" } : Jvm.MethodName) ∈ lw_g := g_in (in_t2 (List.mem_of_getElem? (i := 198) (by rfl))) rfl
set_option maxRecDepth 20000 in
theorem tw_440 : Jvm.Cond.code ({ cls := "ChalkCastle", name := "days", desc := "(I)I" } : Jvm.MethodName) prog_1_method_13_code (3 : Nat) (Option.some Jvm.ClassFile.FieldType.int) ∈ lw_g := g_in (in_t2 (List.mem_of_getElem? (i := 200) (by rfl))) rfl
set_option maxRecDepth 20000 in
theorem tw_442 : Jvm.Cond.instanceMethod ({ cls := "ChalkCastle", name := "block", desc := "(II)I" } : Jvm.MethodName) ∈ lw_g := g_in (in_t2 (List.mem_of_getElem? (i := 202) (by rfl))) rfl
set_option maxRecDepth 20000 in
theorem tw_444 : Jvm.Cond.code ({ cls := "ChalkCastle", name := "block", desc := "(II)I" } : Jvm.MethodName) prog_1_method_14_code (3 : Nat) (Option.some Jvm.ClassFile.FieldType.int) ∈ lw_g := g_in (in_t2 (List.mem_of_getElem? (i := 204) (by rfl))) rfl
set_option maxRecDepth 20000 in
theorem tw_445 : Jvm.Cond.methodLink "ChalkCastle" (194 : Nat) ({ cls := "ChalkCastle$Plan", name := "above", desc := "(I)I" } : Jvm.MethodName) ∈ lw_g := g_in (in_t2 (List.mem_of_getElem? (i := 205) (by rfl))) rfl
set_option maxRecDepth 20000 in
theorem tw_447 : Jvm.Cond.instanceMethod ({ cls := "ChalkCastle", name := "clerk", desc := "(II)I" } : Jvm.MethodName) ∈ lw_g := g_in (in_t2 (List.mem_of_getElem? (i := 207) (by rfl))) rfl
set_option maxRecDepth 20000 in
theorem tw_449 : Jvm.Cond.code ({ cls := "ChalkCastle", name := "clerk", desc := "(II)I" } : Jvm.MethodName) prog_1_method_15_code (3 : Nat) (Option.some Jvm.ClassFile.FieldType.int) ∈ lw_g := g_in (in_t2 (List.mem_of_getElem? (i := 209) (by rfl))) rfl
set_option maxRecDepth 20000 in
theorem tw_451 : Jvm.Cond.instanceMethod ({ cls := "ChalkCastle", name := "takes", desc := "(II)I" } : Jvm.MethodName) ∈ lw_g := g_in (in_t2 (List.mem_of_getElem? (i := 211) (by rfl))) rfl
set_option maxRecDepth 20000 in
theorem tw_453 : Jvm.Cond.code ({ cls := "ChalkCastle", name := "takes", desc := "(II)I" } : Jvm.MethodName) prog_1_method_16_code (3 : Nat) (Option.some Jvm.ClassFile.FieldType.int) ∈ lw_g := g_in (in_t2 (List.mem_of_getElem? (i := 213) (by rfl))) rfl
set_option maxRecDepth 20000 in
theorem tw_455 : Jvm.Cond.instanceMethod ({ cls := "ChalkCastle", name := "stand", desc := "(I)I" } : Jvm.MethodName) ∈ lw_g := g_in (in_t2 (List.mem_of_getElem? (i := 215) (by rfl))) rfl
set_option maxRecDepth 20000 in
theorem tw_457 : Jvm.Cond.code ({ cls := "ChalkCastle", name := "stand", desc := "(I)I" } : Jvm.MethodName) prog_1_method_17_code (2 : Nat) (Option.some Jvm.ClassFile.FieldType.int) ∈ lw_g := g_in (in_t2 (List.mem_of_getElem? (i := 217) (by rfl))) rfl
set_option maxRecDepth 20000 in
theorem tw_458 : Jvm.Cond.methodLink "ChalkCastle" (203 : Nat) ({ cls := "ChalkCastle$State", name := "allChalk", desc := "()I" } : Jvm.MethodName) ∈ lw_g := g_in (in_t2 (List.mem_of_getElem? (i := 218) (by rfl))) rfl
set_option maxRecDepth 20000 in
theorem tw_459 : Jvm.Cond.instanceMethod ({ cls := "ChalkCastle$State", name := "allChalk", desc := "()I" } : Jvm.MethodName) ∈ lw_g := g_in (in_t2 (List.mem_of_getElem? (i := 219) (by rfl))) rfl
set_option maxRecDepth 20000 in
theorem tw_461 : Jvm.Cond.code ({ cls := "ChalkCastle$State", name := "allChalk", desc := "()I" } : Jvm.MethodName) prog_7_method_6_code (3 : Nat) (Option.some Jvm.ClassFile.FieldType.int) ∈ lw_g := g_in (in_t2 (List.mem_of_getElem? (i := 221) (by rfl))) rfl
set_option maxRecDepth 20000 in
theorem tw_462 : Jvm.Cond.methodLink "ChalkCastle" (206 : Nat) ({ cls := "ChalkCastle$State", name := "allLines", desc := "()I" } : Jvm.MethodName) ∈ lw_g := g_in (in_t2 (List.mem_of_getElem? (i := 222) (by rfl))) rfl
set_option maxRecDepth 20000 in
theorem tw_463 : Jvm.Cond.instanceMethod ({ cls := "ChalkCastle$State", name := "allLines", desc := "()I" } : Jvm.MethodName) ∈ lw_g := g_in (in_t2 (List.mem_of_getElem? (i := 223) (by rfl))) rfl
set_option maxRecDepth 20000 in
theorem tw_465 : Jvm.Cond.code ({ cls := "ChalkCastle$State", name := "allLines", desc := "()I" } : Jvm.MethodName) prog_7_method_7_code (3 : Nat) (Option.some Jvm.ClassFile.FieldType.int) ∈ lw_g := g_in (in_t2 (List.mem_of_getElem? (i := 225) (by rfl))) rfl
set_option maxRecDepth 20000 in
theorem tw_467 : Jvm.Cond.instanceMethod ({ cls := "ChalkCastle", name := "wouldFall", desc := "(I)I" } : Jvm.MethodName) ∈ lw_g := g_in (in_t2 (List.mem_of_getElem? (i := 227) (by rfl))) rfl
set_option maxRecDepth 20000 in
theorem tw_469 : Jvm.Cond.code ({ cls := "ChalkCastle", name := "wouldFall", desc := "(I)I" } : Jvm.MethodName) prog_1_method_18_code (2 : Nat) (Option.some Jvm.ClassFile.FieldType.int) ∈ lw_g := g_in (in_t2 (List.mem_of_getElem? (i := 229) (by rfl))) rfl
set_option maxRecDepth 20000 in
theorem tw_470 : Jvm.Cond.methodLink "ChalkCastle" (209 : Nat) ({ cls := "ChalkCastle$Plan", name := "areBlocks", desc := "(I)Z" } : Jvm.MethodName) ∈ lw_g := g_in (in_t2 (List.mem_of_getElem? (i := 230) (by rfl))) rfl
set_option maxRecDepth 20000 in
theorem tw_471 : Jvm.Cond.instanceMethod ({ cls := "ChalkCastle$Plan", name := "areBlocks", desc := "(I)Z" } : Jvm.MethodName) ∈ lw_g := g_in (in_t2 (List.mem_of_getElem? (i := 231) (by rfl))) rfl
set_option maxRecDepth 20000 in
theorem tw_473 : Jvm.Cond.code ({ cls := "ChalkCastle$Plan", name := "areBlocks", desc := "(I)Z" } : Jvm.MethodName) prog_3_method_4_code (2 : Nat) (Option.some Jvm.ClassFile.FieldType.boolean) ∈ lw_g := g_in (in_t2 (List.mem_of_getElem? (i := 233) (by rfl))) rfl
set_option maxRecDepth 20000 in
theorem tw_474 : Jvm.Cond.methodLink "ChalkCastle" (212 : Nat) ({ cls := "ChalkCastle", name := "fallingWithout", desc := "(I)I" } : Jvm.MethodName) ∈ lw_g := g_in (in_t2 (List.mem_of_getElem? (i := 234) (by rfl))) rfl
set_option maxRecDepth 20000 in
theorem tw_476 : Jvm.Cond.instanceMethod ({ cls := "ChalkCastle", name := "fallingWithout", desc := "(I)I" } : Jvm.MethodName) ∈ lw_g := g_in (in_t2 (List.mem_of_getElem? (i := 236) (by rfl))) rfl
set_option maxRecDepth 20000 in
theorem tw_477 : Jvm.Cond.code ({ cls := "ChalkCastle", name := "fallingWithout", desc := "(I)I" } : Jvm.MethodName) prog_1_method_46_code (3 : Nat) (Option.some Jvm.ClassFile.FieldType.int) ∈ lw_g := g_in (in_t2 (List.mem_of_getElem? (i := 237) (by rfl))) rfl
set_option maxRecDepth 20000 in
theorem tw_479 : Jvm.Cond.instanceMethod ({ cls := "ChalkCastle", name := "left", desc := "(I)I" } : Jvm.MethodName) ∈ lw_g := g_in (in_t2 (List.mem_of_getElem? (i := 239) (by rfl))) rfl
set_option maxRecDepth 20000 in
theorem tw_481 : Jvm.Cond.code ({ cls := "ChalkCastle", name := "left", desc := "(I)I" } : Jvm.MethodName) prog_1_method_19_code (5 : Nat) (Option.some Jvm.ClassFile.FieldType.int) ∈ lw_g := g_in (in_t3 (List.mem_of_getElem? (i := 1) (by rfl))) rfl
set_option maxRecDepth 20000 in
theorem tw_483 : Jvm.Cond.instanceMethod ({ cls := "ChalkCastle", name := "leastFallen", desc := "(III)I" } : Jvm.MethodName) ∈ lw_g := g_in (in_t3 (List.mem_of_getElem? (i := 3) (by rfl))) rfl
set_option maxRecDepth 20000 in
theorem tw_485 : Jvm.Cond.code ({ cls := "ChalkCastle", name := "leastFallen", desc := "(III)I" } : Jvm.MethodName) prog_1_method_20_code (13 : Nat) (Option.some Jvm.ClassFile.FieldType.int) ∈ lw_g := g_in (in_t3 (List.mem_of_getElem? (i := 5) (by rfl))) rfl
set_option maxRecDepth 20000 in
theorem tw_486 : Jvm.Cond.constant "ChalkCastle" (218 : Nat) (-1000000 : Int32) ∈ lw_g := g_in (in_t3 (List.mem_of_getElem? (i := 6) (by rfl))) rfl
set_option maxRecDepth 20000 in
theorem tw_487 : Jvm.Cond.methodLink "ChalkCastle" (219 : Nat) ({ cls := "java/lang/Integer", name := "bitCount", desc := "(I)I" } : Jvm.MethodName) ∈ lw_g := g_in (in_t3 (List.mem_of_getElem? (i := 7) (by rfl))) rfl
set_option maxRecDepth 20000 in
theorem tw_488 : Jvm.Cond.static ({ cls := "java/lang/Integer", name := "bitCount", desc := "(I)I" } : Jvm.MethodName) ∈ lw_g := g_in (in_t3 (List.mem_of_getElem? (i := 8) (by rfl))) rfl
set_option maxRecDepth 20000 in
theorem tw_489 : Jvm.Cond.code ({ cls := "java/lang/Integer", name := "bitCount", desc := "(I)I" } : Jvm.MethodName) prog_10_method_49_code (1 : Nat) (Option.some Jvm.ClassFile.FieldType.int) ∈ lw_g := g_in (in_t3 (List.mem_of_getElem? (i := 9) (by rfl))) rfl
set_option maxRecDepth 20000 in
theorem tw_490 : Jvm.Cond.constant "java/lang/Integer" (265 : Nat) (1431655765 : Int32) ∈ lw_g := g_in (in_t3 (List.mem_of_getElem? (i := 10) (by rfl))) rfl
set_option maxRecDepth 20000 in
theorem tw_491 : Jvm.Cond.constant "java/lang/Integer" (266 : Nat) (858993459 : Int32) ∈ lw_g := g_in (in_t3 (List.mem_of_getElem? (i := 11) (by rfl))) rfl
set_option maxRecDepth 20000 in
theorem tw_492 : Jvm.Cond.constant "java/lang/Integer" (267 : Nat) (252645135 : Int32) ∈ lw_g := g_in (in_t3 (List.mem_of_getElem? (i := 12) (by rfl))) rfl
set_option maxRecDepth 20000 in
theorem tw_494 : Jvm.Cond.instanceMethod ({ cls := "ChalkCastle", name := "must", desc := "()I" } : Jvm.MethodName) ∈ lw_g := g_in (in_t3 (List.mem_of_getElem? (i := 14) (by rfl))) rfl
set_option maxRecDepth 20000 in
theorem tw_496 : Jvm.Cond.code ({ cls := "ChalkCastle", name := "must", desc := "()I" } : Jvm.MethodName) prog_1_method_21_code (5 : Nat) (Option.some Jvm.ClassFile.FieldType.int) ∈ lw_g := g_in (in_t3 (List.mem_of_getElem? (i := 16) (by rfl))) rfl
set_option maxRecDepth 20000 in
theorem tw_498 : Jvm.Cond.instanceMethod ({ cls := "ChalkCastle", name := "writings", desc := "(IIII)I" } : Jvm.MethodName) ∈ lw_g := g_in (in_t3 (List.mem_of_getElem? (i := 18) (by rfl))) rfl
set_option maxRecDepth 20000 in
theorem tw_500 : Jvm.Cond.code ({ cls := "ChalkCastle", name := "writings", desc := "(IIII)I" } : Jvm.MethodName) prog_1_method_22_code (7 : Nat) (Option.some Jvm.ClassFile.FieldType.int) ∈ lw_g := g_in (in_t3 (List.mem_of_getElem? (i := 20) (by rfl))) rfl
set_option maxRecDepth 20000 in
theorem tw_501 : Jvm.Cond.methodLink "ChalkCastle" (224 : Nat) ({ cls := "ChalkCastle", name := "tellsWritings", desc := "([III)Z" } : Jvm.MethodName) ∈ lw_g := g_in (in_t3 (List.mem_of_getElem? (i := 21) (by rfl))) rfl
set_option maxRecDepth 20000 in
theorem tw_503 : Jvm.Cond.instanceMethod ({ cls := "ChalkCastle", name := "tellsWritings", desc := "([III)Z" } : Jvm.MethodName) ∈ lw_g := g_in (in_t3 (List.mem_of_getElem? (i := 23) (by rfl))) rfl
set_option maxRecDepth 20000 in
theorem tw_504 : Jvm.Cond.code ({ cls := "ChalkCastle", name := "tellsWritings", desc := "([III)Z" } : Jvm.MethodName) prog_1_method_47_code (5 : Nat) (Option.some Jvm.ClassFile.FieldType.boolean) ∈ lw_g := g_in (in_t3 (List.mem_of_getElem? (i := 24) (by rfl))) rfl
set_option maxRecDepth 20000 in
theorem tw_505 : Jvm.Cond.methodLink "ChalkCastle" (228 : Nat) ({ cls := "ChalkCastle$Search", name := "begin", desc := "(LChalkCastle$Plan;LChalkCastle$State;I)V" } : Jvm.MethodName) ∈ lw_g := g_in (in_t3 (List.mem_of_getElem? (i := 25) (by rfl))) rfl
set_option maxRecDepth 20000 in
theorem tw_506 : Jvm.Cond.instanceMethod ({ cls := "ChalkCastle$Search", name := "begin", desc := "(LChalkCastle$Plan;LChalkCastle$State;I)V" } : Jvm.MethodName) ∈ lw_g := g_in (in_t3 (List.mem_of_getElem? (i := 26) (by rfl))) rfl
set_option maxRecDepth 20000 in
theorem tw_508 : Jvm.Cond.code ({ cls := "ChalkCastle$Search", name := "begin", desc := "(LChalkCastle$Plan;LChalkCastle$State;I)V" } : Jvm.MethodName) prog_6_method_2_code (4 : Nat) (Option.none : Option Jvm.ClassFile.FieldType) ∈ lw_g := g_in (in_t3 (List.mem_of_getElem? (i := 28) (by rfl))) rfl
set_option maxRecDepth 20000 in
theorem tw_509 : Jvm.Cond.methodLink "ChalkCastle$Search" (42 : Nat) ({ cls := "java/lang/Math", name := "min", desc := "(II)I" } : Jvm.MethodName) ∈ lw_g := g_in (in_t3 (List.mem_of_getElem? (i := 29) (by rfl))) rfl
set_option maxRecDepth 20000 in
theorem tw_510 : Jvm.Cond.methodLink "ChalkCastle$Search" (48 : Nat) ({ cls := "ChalkCastle$State", name := "become", desc := "(LChalkCastle$State;)V" } : Jvm.MethodName) ∈ lw_g := g_in (in_t3 (List.mem_of_getElem? (i := 30) (by rfl))) rfl
set_option maxRecDepth 20000 in
theorem tw_511 : Jvm.Cond.methodLink "ChalkCastle" (234 : Nat) ({ cls := "ChalkCastle", name := "tryBlocks", desc := "(LChalkCastle$Search;I)V" } : Jvm.MethodName) ∈ lw_g := g_in (in_t3 (List.mem_of_getElem? (i := 31) (by rfl))) rfl
set_option maxRecDepth 20000 in
theorem tw_512 : Jvm.Cond.static ({ cls := "ChalkCastle", name := "tryBlocks", desc := "(LChalkCastle$Search;I)V" } : Jvm.MethodName) ∈ lw_g := g_in (in_t3 (List.mem_of_getElem? (i := 32) (by rfl))) rfl
set_option maxRecDepth 20000 in
theorem tw_513 : Jvm.Cond.code ({ cls := "ChalkCastle", name := "tryBlocks", desc := "(LChalkCastle$Search;I)V" } : Jvm.MethodName) prog_1_method_48_code (5 : Nat) (Option.none : Option Jvm.ClassFile.FieldType) ∈ lw_g := g_in (in_t3 (List.mem_of_getElem? (i := 33) (by rfl))) rfl
set_option maxRecDepth 20000 in
theorem tw_514 : Jvm.Cond.methodLink "ChalkCastle" (313 : Nat) ({ cls := "ChalkCastle$Search", name := "keepWay", desc := "()V" } : Jvm.MethodName) ∈ lw_g := g_in (in_t3 (List.mem_of_getElem? (i := 34) (by rfl))) rfl
set_option maxRecDepth 20000 in
theorem tw_515 : Jvm.Cond.instanceMethod ({ cls := "ChalkCastle$Search", name := "keepWay", desc := "()V" } : Jvm.MethodName) ∈ lw_g := g_in (in_t3 (List.mem_of_getElem? (i := 35) (by rfl))) rfl
set_option maxRecDepth 20000 in
theorem tw_517 : Jvm.Cond.code ({ cls := "ChalkCastle$Search", name := "keepWay", desc := "()V" } : Jvm.MethodName) prog_6_method_4_code (1 : Nat) (Option.none : Option Jvm.ClassFile.FieldType) ∈ lw_g := g_in (in_t3 (List.mem_of_getElem? (i := 37) (by rfl))) rfl
set_option maxRecDepth 20000 in
theorem tw_518 : Jvm.Cond.methodLink "ChalkCastle$Search" (65 : Nat) ({ cls := "ChalkCastle$Search", name := "standing", desc := "()I" } : Jvm.MethodName) ∈ lw_g := g_in (in_t3 (List.mem_of_getElem? (i := 38) (by rfl))) rfl
set_option maxRecDepth 20000 in
theorem tw_519 : Jvm.Cond.instanceMethod ({ cls := "ChalkCastle$Search", name := "standing", desc := "()I" } : Jvm.MethodName) ∈ lw_g := g_in (in_t3 (List.mem_of_getElem? (i := 39) (by rfl))) rfl
set_option maxRecDepth 20000 in
theorem tw_521 : Jvm.Cond.code ({ cls := "ChalkCastle$Search", name := "standing", desc := "()I" } : Jvm.MethodName) prog_6_method_3_code (1 : Nat) (Option.some Jvm.ClassFile.FieldType.int) ∈ lw_g := g_in (in_t3 (List.mem_of_getElem? (i := 41) (by rfl))) rfl
set_option maxRecDepth 20000 in
theorem tw_522 : Jvm.Cond.methodLink "ChalkCastle$Search" (52 : Nat) ({ cls := "ChalkCastle$State", name := "withChalk", desc := "()I" } : Jvm.MethodName) ∈ lw_g := g_in (in_t3 (List.mem_of_getElem? (i := 42) (by rfl))) rfl
set_option maxRecDepth 20000 in
theorem tw_523 : Jvm.Cond.methodLink "ChalkCastle$Search" (56 : Nat) ({ cls := "ChalkCastle$Plan", name := "standing", desc := "(I)I" } : Jvm.MethodName) ∈ lw_g := g_in (in_t3 (List.mem_of_getElem? (i := 43) (by rfl))) rfl
set_option maxRecDepth 20000 in
theorem tw_524 : Jvm.Cond.methodLink "ChalkCastle$Search" (60 : Nat) ({ cls := "java/lang/Integer", name := "bitCount", desc := "(I)I" } : Jvm.MethodName) ∈ lw_g := g_in (in_t3 (List.mem_of_getElem? (i := 44) (by rfl))) rfl
set_option maxRecDepth 20000 in
theorem tw_525 : Jvm.Cond.methodLink "ChalkCastle$Search" (67 : Nat) ({ cls := "java/lang/System", name := "arraycopy", desc := "(Ljava/lang/Object;ILjava/lang/Object;II)V" } : Jvm.MethodName) ∈ lw_g := g_in (in_t3 (List.mem_of_getElem? (i := 45) (by rfl))) rfl
set_option maxRecDepth 20000 in
theorem tw_526 : Jvm.Cond.methodLink "ChalkCastle" (323 : Nat) ({ cls := "ChalkCastle$Search", name := "standing", desc := "()I" } : Jvm.MethodName) ∈ lw_g := g_in (in_t3 (List.mem_of_getElem? (i := 46) (by rfl))) rfl
set_option maxRecDepth 20000 in
theorem tw_528 : Jvm.Cond.instanceMethod ({ cls := "ChalkCastle", name := "from", desc := "(III)I" } : Jvm.MethodName) ∈ lw_g := g_in (in_t3 (List.mem_of_getElem? (i := 48) (by rfl))) rfl
set_option maxRecDepth 20000 in
theorem tw_530 : Jvm.Cond.code ({ cls := "ChalkCastle", name := "from", desc := "(III)I" } : Jvm.MethodName) prog_1_method_23_code (11 : Nat) (Option.some Jvm.ClassFile.FieldType.int) ∈ lw_g := g_in (in_t3 (List.mem_of_getElem? (i := 50) (by rfl))) rfl
set_option maxRecDepth 20000 in
theorem tw_531 : Jvm.Cond.methodLink "ChalkCastle" (244 : Nat) ({ cls := "ChalkCastle", name := "onlyLessened", desc := "([II)I" } : Jvm.MethodName) ∈ lw_g := g_in (in_t3 (List.mem_of_getElem? (i := 51) (by rfl))) rfl
set_option maxRecDepth 20000 in
theorem tw_533 : Jvm.Cond.instanceMethod ({ cls := "ChalkCastle", name := "onlyLessened", desc := "([II)I" } : Jvm.MethodName) ∈ lw_g := g_in (in_t3 (List.mem_of_getElem? (i := 53) (by rfl))) rfl
set_option maxRecDepth 20000 in
theorem tw_534 : Jvm.Cond.code ({ cls := "ChalkCastle", name := "onlyLessened", desc := "([II)I" } : Jvm.MethodName) prog_1_method_49_code (6 : Nat) (Option.some Jvm.ClassFile.FieldType.int) ∈ lw_g := g_in (in_t3 (List.mem_of_getElem? (i := 54) (by rfl))) rfl
set_option maxRecDepth 20000 in
theorem tw_536 : Jvm.Cond.instanceMethod ({ cls := "ChalkCastle", name := "who", desc := "(IIII)I" } : Jvm.MethodName) ∈ lw_g := g_in (in_t3 (List.mem_of_getElem? (i := 56) (by rfl))) rfl
set_option maxRecDepth 20000 in
theorem tw_538 : Jvm.Cond.code ({ cls := "ChalkCastle", name := "who", desc := "(IIII)I" } : Jvm.MethodName) prog_1_method_24_code (8 : Nat) (Option.some Jvm.ClassFile.FieldType.int) ∈ lw_g := g_in (in_t3 (List.mem_of_getElem? (i := 58) (by rfl))) rfl
set_option maxRecDepth 20000 in
theorem tw_539 : Jvm.Cond.methodLink "ChalkCastle" (251 : Nat) ({ cls := "ChalkCastle", name := "fitsKind", desc := "(II[III)Z" } : Jvm.MethodName) ∈ lw_g := g_in (in_t3 (List.mem_of_getElem? (i := 59) (by rfl))) rfl
set_option maxRecDepth 20000 in
theorem tw_541 : Jvm.Cond.instanceMethod ({ cls := "ChalkCastle", name := "fitsKind", desc := "(II[III)Z" } : Jvm.MethodName) ∈ lw_g := g_in (in_t3 (List.mem_of_getElem? (i := 61) (by rfl))) rfl
set_option maxRecDepth 20000 in
theorem tw_542 : Jvm.Cond.code ({ cls := "ChalkCastle", name := "fitsKind", desc := "(II[III)Z" } : Jvm.MethodName) prog_1_method_50_code (7 : Nat) (Option.some Jvm.ClassFile.FieldType.boolean) ∈ lw_g := g_in (in_t3 (List.mem_of_getElem? (i := 62) (by rfl))) rfl
set_option maxRecDepth 20000 in
theorem tw_543 : Jvm.Cond.methodLink "ChalkCastle" (325 : Nat) ({ cls := "ChalkCastle", name := "chalkByKind", desc := "(IIII)I" } : Jvm.MethodName) ∈ lw_g := g_in (in_t3 (List.mem_of_getElem? (i := 63) (by rfl))) rfl
set_option maxRecDepth 20000 in
theorem tw_545 : Jvm.Cond.instanceMethod ({ cls := "ChalkCastle", name := "layer", desc := "(I)I" } : Jvm.MethodName) ∈ lw_g := g_in (in_t3 (List.mem_of_getElem? (i := 65) (by rfl))) rfl
set_option maxRecDepth 20000 in
theorem tw_547 : Jvm.Cond.code ({ cls := "ChalkCastle", name := "layer", desc := "(I)I" } : Jvm.MethodName) prog_1_method_25_code (2 : Nat) (Option.some Jvm.ClassFile.FieldType.int) ∈ lw_g := g_in (in_t3 (List.mem_of_getElem? (i := 67) (by rfl))) rfl
set_option maxRecDepth 20000 in
theorem tw_548 : Jvm.Cond.methodLink "ChalkCastle" (255 : Nat) ({ cls := "ChalkCastle$Plan", name := "layerOf", desc := "(I)I" } : Jvm.MethodName) ∈ lw_g := g_in (in_t3 (List.mem_of_getElem? (i := 68) (by rfl))) rfl
set_option maxRecDepth 20000 in
theorem tw_549 : Jvm.Cond.instanceMethod ({ cls := "ChalkCastle$Plan", name := "layerOf", desc := "(I)I" } : Jvm.MethodName) ∈ lw_g := g_in (in_t3 (List.mem_of_getElem? (i := 69) (by rfl))) rfl
set_option maxRecDepth 20000 in
theorem tw_551 : Jvm.Cond.code ({ cls := "ChalkCastle$Plan", name := "layerOf", desc := "(I)I" } : Jvm.MethodName) prog_3_method_7_code (5 : Nat) (Option.some Jvm.ClassFile.FieldType.int) ∈ lw_g := g_in (in_t3 (List.mem_of_getElem? (i := 71) (by rfl))) rfl
set_option maxRecDepth 20000 in
theorem tw_553 : Jvm.Cond.instanceMethod ({ cls := "ChalkCastle", name := "longest", desc := "(II)I" } : Jvm.MethodName) ∈ lw_g := g_in (in_t3 (List.mem_of_getElem? (i := 73) (by rfl))) rfl
set_option maxRecDepth 20000 in
theorem tw_555 : Jvm.Cond.code ({ cls := "ChalkCastle", name := "longest", desc := "(II)I" } : Jvm.MethodName) prog_1_method_26_code (7 : Nat) (Option.some Jvm.ClassFile.FieldType.int) ∈ lw_g := g_in (in_t3 (List.mem_of_getElem? (i := 75) (by rfl))) rfl
set_option maxRecDepth 20000 in
theorem tw_556 : Jvm.Cond.methodLink "ChalkCastle" (258 : Nat) ({ cls := "ChalkCastle", name := "linesAtOnce", desc := "(II)I" } : Jvm.MethodName) ∈ lw_g := g_in (in_t3 (List.mem_of_getElem? (i := 76) (by rfl))) rfl
set_option maxRecDepth 20000 in
theorem tw_558 : Jvm.Cond.instanceMethod ({ cls := "ChalkCastle", name := "linesAtOnce", desc := "(II)I" } : Jvm.MethodName) ∈ lw_g := g_in (in_t3 (List.mem_of_getElem? (i := 78) (by rfl))) rfl
set_option maxRecDepth 20000 in
theorem tw_559 : Jvm.Cond.code ({ cls := "ChalkCastle", name := "linesAtOnce", desc := "(II)I" } : Jvm.MethodName) prog_1_method_51_code (5 : Nat) (Option.some Jvm.ClassFile.FieldType.int) ∈ lw_g := g_in (in_t3 (List.mem_of_getElem? (i := 79) (by rfl))) rfl
set_option maxRecDepth 20000 in
theorem tw_561 : Jvm.Cond.instanceMethod ({ cls := "ChalkCastle", name := "rains", desc := "(III)J" } : Jvm.MethodName) ∈ lw_g := g_in (in_t3 (List.mem_of_getElem? (i := 81) (by rfl))) rfl
set_option maxRecDepth 20000 in
theorem tw_563 : Jvm.Cond.code ({ cls := "ChalkCastle", name := "rains", desc := "(III)J" } : Jvm.MethodName) prog_1_method_27_code (9 : Nat) (Option.some Jvm.ClassFile.FieldType.long) ∈ lw_g := g_in (in_t3 (List.mem_of_getElem? (i := 83) (by rfl))) rfl
set_option maxRecDepth 20000 in
theorem tw_564 : Jvm.Cond.constantLong "ChalkCastle" (261 : Nat) (-1000001 : Int64) ∈ lw_g := g_in (in_t3 (List.mem_of_getElem? (i := 84) (by rfl))) rfl
set_option maxRecDepth 20000 in
theorem tw_565 : Jvm.Cond.methodLink "ChalkCastle" (263 : Nat) ({ cls := "ChalkCastle", name := "power", desc := "(JI)J" } : Jvm.MethodName) ∈ lw_g := g_in (in_t3 (List.mem_of_getElem? (i := 85) (by rfl))) rfl
set_option maxRecDepth 20000 in
theorem tw_566 : Jvm.Cond.static ({ cls := "ChalkCastle", name := "power", desc := "(JI)J" } : Jvm.MethodName) ∈ lw_g := g_in (in_t3 (List.mem_of_getElem? (i := 86) (by rfl))) rfl
set_option maxRecDepth 20000 in
theorem tw_567 : Jvm.Cond.code ({ cls := "ChalkCastle", name := "power", desc := "(JI)J" } : Jvm.MethodName) prog_1_method_56_code (6 : Nat) (Option.some Jvm.ClassFile.FieldType.long) ∈ lw_g := g_in (in_t3 (List.mem_of_getElem? (i := 87) (by rfl))) rfl
set_option maxRecDepth 20000 in
theorem tw_568 : Jvm.Cond.constantLong "ChalkCastle" (267 : Nat) (10 : Int64) ∈ lw_g := g_in (in_t3 (List.mem_of_getElem? (i := 88) (by rfl))) rfl
set_option maxRecDepth 20000 in
theorem tw_569 : Jvm.Cond.methodLink "ChalkCastle" (269 : Nat) ({ cls := "ChalkCastle", name := "lowestTerms", desc := "(JJI)J" } : Jvm.MethodName) ∈ lw_g := g_in (in_t3 (List.mem_of_getElem? (i := 89) (by rfl))) rfl
set_option maxRecDepth 20000 in
theorem tw_570 : Jvm.Cond.static ({ cls := "ChalkCastle", name := "lowestTerms", desc := "(JJI)J" } : Jvm.MethodName) ∈ lw_g := g_in (in_t3 (List.mem_of_getElem? (i := 90) (by rfl))) rfl
set_option maxRecDepth 20000 in
theorem tw_571 : Jvm.Cond.code ({ cls := "ChalkCastle", name := "lowestTerms", desc := "(JJI)J" } : Jvm.MethodName) prog_1_method_57_code (12 : Nat) (Option.some Jvm.ClassFile.FieldType.long) ∈ lw_g := g_in (in_t3 (List.mem_of_getElem? (i := 91) (by rfl))) rfl
set_option maxRecDepth 20000 in
theorem tw_573 : Jvm.Cond.instanceMethod ({ cls := "ChalkCastle", name := "share", desc := "(II)I" } : Jvm.MethodName) ∈ lw_g := g_in (in_t3 (List.mem_of_getElem? (i := 93) (by rfl))) rfl
set_option maxRecDepth 20000 in
theorem tw_575 : Jvm.Cond.code ({ cls := "ChalkCastle", name := "share", desc := "(II)I" } : Jvm.MethodName) prog_1_method_28_code (3 : Nat) (Option.some Jvm.ClassFile.FieldType.int) ∈ lw_g := g_in (in_t3 (List.mem_of_getElem? (i := 95) (by rfl))) rfl
set_option maxRecDepth 20000 in
theorem tw_577 : Jvm.Cond.instanceMethod ({ cls := "ChalkCastle", name := "drawn", desc := "(III)I" } : Jvm.MethodName) ∈ lw_g := g_in (in_t3 (List.mem_of_getElem? (i := 97) (by rfl))) rfl
set_option maxRecDepth 20000 in
theorem tw_579 : Jvm.Cond.code ({ cls := "ChalkCastle", name := "drawn", desc := "(III)I" } : Jvm.MethodName) prog_1_method_29_code (7 : Nat) (Option.some Jvm.ClassFile.FieldType.int) ∈ lw_g := g_in (in_t3 (List.mem_of_getElem? (i := 99) (by rfl))) rfl
set_option maxRecDepth 20000 in
theorem tw_580 : Jvm.Cond.constant "ChalkCastle" (273 : Nat) (999999 : Int32) ∈ lw_g := g_in (in_t3 (List.mem_of_getElem? (i := 100) (by rfl))) rfl
set_option maxRecDepth 20000 in
theorem tw_581 : Jvm.Cond.constantLong "ChalkCastle" (274 : Nat) (16807 : Int64) ∈ lw_g := g_in (in_t3 (List.mem_of_getElem? (i := 101) (by rfl))) rfl
set_option maxRecDepth 20000 in
theorem tw_582 : Jvm.Cond.constantLong "ChalkCastle" (276 : Nat) (2147483647 : Int64) ∈ lw_g := g_in (in_t3 (List.mem_of_getElem? (i := 102) (by rfl))) rfl
set_option maxRecDepth 20000 in
theorem tw_583 : Jvm.Cond.methodLink "ChalkCastle" (278 : Nat) ({ cls := "ChalkCastle", name := "drawWriting", desc := "(J)V" } : Jvm.MethodName) ∈ lw_g := g_in (in_t3 (List.mem_of_getElem? (i := 103) (by rfl))) rfl
set_option maxRecDepth 20000 in
theorem tw_585 : Jvm.Cond.instanceMethod ({ cls := "ChalkCastle", name := "drawWriting", desc := "(J)V" } : Jvm.MethodName) ∈ lw_g := g_in (in_t3 (List.mem_of_getElem? (i := 105) (by rfl))) rfl
set_option maxRecDepth 20000 in
theorem tw_586 : Jvm.Cond.code ({ cls := "ChalkCastle", name := "drawWriting", desc := "(J)V" } : Jvm.MethodName) prog_1_method_52_code (6 : Nat) (Option.none : Option Jvm.ClassFile.FieldType) ∈ lw_g := g_in (in_t3 (List.mem_of_getElem? (i := 106) (by rfl))) rfl
set_option maxRecDepth 20000 in
theorem tw_587 : Jvm.Cond.constantLong "ChalkCastle" (329 : Nat) (5 : Int64) ∈ lw_g := g_in (in_t3 (List.mem_of_getElem? (i := 107) (by rfl))) rfl
set_option maxRecDepth 20000 in
theorem tw_588 : Jvm.Cond.constantLong "ChalkCastle" (282 : Nat) (4 : Int64) ∈ lw_g := g_in (in_t3 (List.mem_of_getElem? (i := 108) (by rfl))) rfl
set_option maxRecDepth 20000 in
theorem tw_590 : Jvm.Cond.instanceMethod ({ cls := "ChalkCastle", name := "image", desc := "(I)I" } : Jvm.MethodName) ∈ lw_g := g_in (in_t3 (List.mem_of_getElem? (i := 110) (by rfl))) rfl
set_option maxRecDepth 20000 in
theorem tw_592 : Jvm.Cond.code ({ cls := "ChalkCastle", name := "image", desc := "(I)I" } : Jvm.MethodName) prog_1_method_30_code (2 : Nat) (Option.some Jvm.ClassFile.FieldType.int) ∈ lw_g := g_in (in_t3 (List.mem_of_getElem? (i := 112) (by rfl))) rfl
set_option maxRecDepth 20000 in
theorem tw_594 : Jvm.Cond.instanceMethod ({ cls := "ChalkCastle", name := "restore", desc := "(I)I" } : Jvm.MethodName) ∈ lw_g := g_in (in_t3 (List.mem_of_getElem? (i := 114) (by rfl))) rfl
set_option maxRecDepth 20000 in
theorem tw_596 : Jvm.Cond.code ({ cls := "ChalkCastle", name := "restore", desc := "(I)I" } : Jvm.MethodName) prog_1_method_31_code (3 : Nat) (Option.some Jvm.ClassFile.FieldType.int) ∈ lw_g := g_in (in_t3 (List.mem_of_getElem? (i := 116) (by rfl))) rfl
set_option maxRecDepth 20000 in
theorem tw_598 : Jvm.Cond.instanceMethod ({ cls := "ChalkCastle", name := "kind", desc := "(I)I" } : Jvm.MethodName) ∈ lw_g := g_in (in_t3 (List.mem_of_getElem? (i := 118) (by rfl))) rfl
set_option maxRecDepth 20000 in
theorem tw_600 : Jvm.Cond.code ({ cls := "ChalkCastle", name := "kind", desc := "(I)I" } : Jvm.MethodName) prog_1_method_32_code (2 : Nat) (Option.some Jvm.ClassFile.FieldType.int) ∈ lw_g := g_in (in_t3 (List.mem_of_getElem? (i := 120) (by rfl))) rfl
set_option maxRecDepth 20000 in
theorem tw_602 : Jvm.Cond.instanceMethod ({ cls := "ChalkCastle", name := "as", desc := "(II)I" } : Jvm.MethodName) ∈ lw_g := g_in (in_t3 (List.mem_of_getElem? (i := 122) (by rfl))) rfl
set_option maxRecDepth 20000 in
theorem tw_604 : Jvm.Cond.code ({ cls := "ChalkCastle", name := "as", desc := "(II)I" } : Jvm.MethodName) prog_1_method_33_code (3 : Nat) (Option.some Jvm.ClassFile.FieldType.int) ∈ lw_g := g_in (in_t3 (List.mem_of_getElem? (i := 124) (by rfl))) rfl
set_option maxRecDepth 20000 in
theorem tw_605 : Jvm.Cond.fieldLink "ChalkCastle" (287 : Nat) "ChalkCastle" "IS_TOO" "[I" ∈ lw_g := g_in (in_t3 (List.mem_of_getElem? (i := 125) (by rfl))) rfl
set_option maxRecDepth 20000 in
theorem tw_608 : Jvm.Cond.instanceMethod ({ cls := "ChalkCastle", name := "ask", desc := "(II)I" } : Jvm.MethodName) ∈ lw_g := g_in (in_t3 (List.mem_of_getElem? (i := 128) (by rfl))) rfl
set_option maxRecDepth 20000 in
theorem tw_610 : Jvm.Cond.code ({ cls := "ChalkCastle", name := "ask", desc := "(II)I" } : Jvm.MethodName) prog_1_method_34_code (3 : Nat) (Option.some Jvm.ClassFile.FieldType.int) ∈ lw_g := g_in (in_t3 (List.mem_of_getElem? (i := 130) (by rfl))) rfl
set_option maxRecDepth 20000 in
theorem tw_611 : Jvm.Cond.methodLink "ChalkCastle" (290 : Nat) ({ cls := "ChalkCastle$Asking", name := "begin", desc := "(IIII)V" } : Jvm.MethodName) ∈ lw_g := g_in (in_t3 (List.mem_of_getElem? (i := 131) (by rfl))) rfl
set_option maxRecDepth 20000 in
theorem tw_612 : Jvm.Cond.instanceMethod ({ cls := "ChalkCastle$Asking", name := "begin", desc := "(IIII)V" } : Jvm.MethodName) ∈ lw_g := g_in (in_t3 (List.mem_of_getElem? (i := 132) (by rfl))) rfl
set_option maxRecDepth 20000 in
theorem tw_614 : Jvm.Cond.code ({ cls := "ChalkCastle$Asking", name := "begin", desc := "(IIII)V" } : Jvm.MethodName) prog_2_method_2_code (5 : Nat) (Option.none : Option Jvm.ClassFile.FieldType) ∈ lw_g := g_in (in_t3 (List.mem_of_getElem? (i := 134) (by rfl))) rfl
set_option maxRecDepth 20000 in
theorem tw_615 : Jvm.Cond.methodLink "ChalkCastle" (293 : Nat) ({ cls := "ChalkCastle", name := "answerOf", desc := "(LChalkCastle$Asking;II)I" } : Jvm.MethodName) ∈ lw_g := g_in (in_t3 (List.mem_of_getElem? (i := 135) (by rfl))) rfl
set_option maxRecDepth 20000 in
theorem tw_616 : Jvm.Cond.static ({ cls := "ChalkCastle", name := "answerOf", desc := "(LChalkCastle$Asking;II)I" } : Jvm.MethodName) ∈ lw_g := g_in (in_t3 (List.mem_of_getElem? (i := 136) (by rfl))) rfl
set_option maxRecDepth 20000 in
theorem tw_617 : Jvm.Cond.code ({ cls := "ChalkCastle", name := "answerOf", desc := "(LChalkCastle$Asking;II)I" } : Jvm.MethodName) prog_1_method_53_code (4 : Nat) (Option.some Jvm.ClassFile.FieldType.int) ∈ lw_g := g_in (in_t3 (List.mem_of_getElem? (i := 137) (by rfl))) rfl
set_option maxRecDepth 20000 in
theorem tw_618 : Jvm.Cond.fieldLink "ChalkCastle" (331 : Nat) "ChalkCastle" "SIZE_BODIES" "[I" ∈ lw_g := g_in (in_t3 (List.mem_of_getElem? (i := 138) (by rfl))) rfl
set_option maxRecDepth 20000 in
theorem tw_620 : Jvm.Cond.fieldLink "ChalkCastle" (334 : Nat) "ChalkCastle" "MARK_BODIES" "[I" ∈ lw_g := g_in (in_t3 (List.mem_of_getElem? (i := 140) (by rfl))) rfl
set_option maxRecDepth 20000 in
theorem tw_622 : Jvm.Cond.methodLink "ChalkCastle" (340 : Nat) ({ cls := "ChalkCastle", name := "runBody", desc := "(LChalkCastle$Asking;II)I" } : Jvm.MethodName) ∈ lw_g := g_in (in_t3 (List.mem_of_getElem? (i := 142) (by rfl))) rfl
set_option maxRecDepth 20000 in
theorem tw_623 : Jvm.Cond.static ({ cls := "ChalkCastle", name := "runBody", desc := "(LChalkCastle$Asking;II)I" } : Jvm.MethodName) ∈ lw_g := g_in (in_t3 (List.mem_of_getElem? (i := 143) (by rfl))) rfl
set_option maxRecDepth 20000 in
theorem tw_624 : Jvm.Cond.code ({ cls := "ChalkCastle", name := "runBody", desc := "(LChalkCastle$Asking;II)I" } : Jvm.MethodName) prog_1_method_54_code (4 : Nat) (Option.some Jvm.ClassFile.FieldType.int) ∈ lw_g := g_in (in_t3 (List.mem_of_getElem? (i := 144) (by rfl))) rfl
set_option maxRecDepth 20000 in
theorem tw_625 : Jvm.Cond.methodLink "ChalkCastle" (343 : Nat) ({ cls := "ChalkCastle$Asking", name := "leave", desc := "(I)V" } : Jvm.MethodName) ∈ lw_g := g_in (in_t3 (List.mem_of_getElem? (i := 145) (by rfl))) rfl
set_option maxRecDepth 20000 in
theorem tw_626 : Jvm.Cond.instanceMethod ({ cls := "ChalkCastle$Asking", name := "leave", desc := "(I)V" } : Jvm.MethodName) ∈ lw_g := g_in (in_t3 (List.mem_of_getElem? (i := 146) (by rfl))) rfl
set_option maxRecDepth 20000 in
theorem tw_628 : Jvm.Cond.code ({ cls := "ChalkCastle$Asking", name := "leave", desc := "(I)V" } : Jvm.MethodName) prog_2_method_3_code (2 : Nat) (Option.none : Option Jvm.ClassFile.FieldType) ∈ lw_g := g_in (in_t3 (List.mem_of_getElem? (i := 148) (by rfl))) rfl
set_option maxRecDepth 20000 in
theorem tw_630 : Jvm.Cond.instanceMethod ({ cls := "ChalkCastle", name := "trace", desc := "(I)I" } : Jvm.MethodName) ∈ lw_g := g_in (in_t3 (List.mem_of_getElem? (i := 150) (by rfl))) rfl
set_option maxRecDepth 20000 in
theorem tw_632 : Jvm.Cond.code ({ cls := "ChalkCastle", name := "trace", desc := "(I)I" } : Jvm.MethodName) prog_1_method_35_code (2 : Nat) (Option.some Jvm.ClassFile.FieldType.int) ∈ lw_g := g_in (in_t3 (List.mem_of_getElem? (i := 152) (by rfl))) rfl
set_option maxRecDepth 20000 in
theorem tw_634 : Jvm.Cond.instanceMethod ({ cls := "ChalkCastle", name := "count", desc := "(I)I" } : Jvm.MethodName) ∈ lw_g := g_in (in_t3 (List.mem_of_getElem? (i := 154) (by rfl))) rfl
set_option maxRecDepth 20000 in
theorem tw_636 : Jvm.Cond.code ({ cls := "ChalkCastle", name := "count", desc := "(I)I" } : Jvm.MethodName) prog_1_method_36_code (2 : Nat) (Option.some Jvm.ClassFile.FieldType.int) ∈ lw_g := g_in (in_t3 (List.mem_of_getElem? (i := 156) (by rfl))) rfl
set_option maxRecDepth 20000 in
theorem tw_637 : Jvm.Cond.methodLink "ChalkCastle" (303 : Nat) ({ cls := "ChalkCastle", name := "rowsThere", desc := "()I" } : Jvm.MethodName) ∈ lw_g := g_in (in_t3 (List.mem_of_getElem? (i := 157) (by rfl))) rfl
set_option maxRecDepth 20000 in
theorem tw_639 : Jvm.Cond.instanceMethod ({ cls := "ChalkCastle", name := "rowsThere", desc := "()I" } : Jvm.MethodName) ∈ lw_g := g_in (in_t3 (List.mem_of_getElem? (i := 159) (by rfl))) rfl
set_option maxRecDepth 20000 in
theorem tw_640 : Jvm.Cond.code ({ cls := "ChalkCastle", name := "rowsThere", desc := "()I" } : Jvm.MethodName) prog_1_method_43_code (3 : Nat) (Option.some Jvm.ClassFile.FieldType.int) ∈ lw_g := g_in (in_t3 (List.mem_of_getElem? (i := 160) (by rfl))) rfl
set_option maxRecDepth 20000 in
theorem tw_642 : Jvm.Cond.instanceMethod ({ cls := "ChalkCastle", name := "status", desc := "()I" } : Jvm.MethodName) ∈ lw_g := g_in (in_t3 (List.mem_of_getElem? (i := 162) (by rfl))) rfl
set_option maxRecDepth 20000 in
theorem tw_644 : Jvm.Cond.code ({ cls := "ChalkCastle", name := "status", desc := "()I" } : Jvm.MethodName) prog_1_method_37_code (1 : Nat) (Option.some Jvm.ClassFile.FieldType.int) ∈ lw_g := g_in (in_t3 (List.mem_of_getElem? (i := 164) (by rfl))) rfl
set_option maxRecDepth 20000 in
theorem tw_648 : Jvm.Cond.instanceMethod ({ cls := "ChalkCastleModel", name := "<init>", desc := "()V" } : Jvm.MethodName) ∈ lw_g := g_in (in_t3 (List.mem_of_getElem? (i := 168) (by rfl))) rfl
set_option maxRecDepth 20000 in
theorem tw_649 : Jvm.Cond.code ({ cls := "ChalkCastleModel", name := "<init>", desc := "()V" } : Jvm.MethodName) prog_9_method_1_code (2 : Nat) (Option.none : Option Jvm.ClassFile.FieldType) ∈ lw_g := g_in (in_t3 (List.mem_of_getElem? (i := 169) (by rfl))) rfl
set_option maxRecDepth 20000 in
theorem tw_650 : Jvm.Cond.methodLink "ChalkCastleModel" (1 : Nat) ({ cls := "java/lang/Object", name := "<init>", desc := "()V" } : Jvm.MethodName) ∈ lw_g := g_in (in_t3 (List.mem_of_getElem? (i := 170) (by rfl))) rfl
set_option maxRecDepth 20000 in
theorem tw_651 : Jvm.Cond.fieldLink "ChalkCastleModel" (80 : Nat) "ChalkCastleModel" "latest" "I" ∈ lw_g := g_in (in_t3 (List.mem_of_getElem? (i := 171) (by rfl))) rfl
set_option maxRecDepth 20000 in
theorem tw_652 : Jvm.Cond.fieldLink "ChalkCastleModel" (7 : Nat) "ChalkCastleModel" "sizes" "[I" ∈ lw_g := g_in (in_t3 (List.mem_of_getElem? (i := 172) (by rfl))) rfl
set_option maxRecDepth 20000 in
theorem tw_653 : Jvm.Cond.fieldLink "ChalkCastleModel" (13 : Nat) "ChalkCastleModel" "lanes" "[I" ∈ lw_g := g_in (in_t3 (List.mem_of_getElem? (i := 173) (by rfl))) rfl
set_option maxRecDepth 20000 in
theorem tw_654 : Jvm.Cond.fieldLink "ChalkCastleModel" (16 : Nat) "ChalkCastleModel" "items" "[I" ∈ lw_g := g_in (in_t3 (List.mem_of_getElem? (i := 174) (by rfl))) rfl
set_option maxRecDepth 20000 in
theorem tw_655 : Jvm.Cond.fieldLink "ChalkCastleModel" (108 : Nat) "ChalkCastleModel" "byteMany" "I" ∈ lw_g := g_in (in_t3 (List.mem_of_getElem? (i := 175) (by rfl))) rfl
set_option maxRecDepth 20000 in
theorem tw_656 : Jvm.Cond.fieldLink "ChalkCastleModel" (19 : Nat) "ChalkCastleModel" "tape" "[I" ∈ lw_g := g_in (in_t3 (List.mem_of_getElem? (i := 176) (by rfl))) rfl
set_option maxRecDepth 20000 in
theorem tw_657 : Jvm.Cond.fieldLink "ChalkCastleModel" (112 : Nat) "ChalkCastleModel" "faultNumber" "I" ∈ lw_g := g_in (in_t3 (List.mem_of_getElem? (i := 177) (by rfl))) rfl
set_option maxRecDepth 20000 in
theorem tw_658 : Jvm.Cond.fieldLink "ChalkCastleModel" (177 : Nat) "ChalkCastleModel" "n" "I" ∈ lw_g := g_in (in_t3 (List.mem_of_getElem? (i := 178) (by rfl))) rfl
set_option maxRecDepth 20000 in
theorem tw_659 : Jvm.Cond.fieldLink "ChalkCastleModel" (180 : Nat) "ChalkCastleModel" "restMany" "I" ∈ lw_g := g_in (in_t3 (List.mem_of_getElem? (i := 179) (by rfl))) rfl
set_option maxRecDepth 20000 in
theorem tw_660 : Jvm.Cond.fieldLink "ChalkCastleModel" (183 : Nat) "ChalkCastleModel" "clerkMany" "I" ∈ lw_g := g_in (in_t3 (List.mem_of_getElem? (i := 180) (by rfl))) rfl
set_option maxRecDepth 20000 in
theorem tw_661 : Jvm.Cond.fieldLink "ChalkCastleModel" (186 : Nat) "ChalkCastleModel" "rain" "I" ∈ lw_g := g_in (in_t3 (List.mem_of_getElem? (i := 181) (by rfl))) rfl
set_option maxRecDepth 20000 in
theorem tw_662 : Jvm.Cond.fieldLink "ChalkCastleModel" (189 : Nat) "ChalkCastleModel" "rubs" "I" ∈ lw_g := g_in (in_t3 (List.mem_of_getElem? (i := 182) (by rfl))) rfl
set_option maxRecDepth 20000 in
theorem tw_663 : Jvm.Cond.fieldLink "ChalkCastleModel" (22 : Nat) "ChalkCastleModel" "on" "[I" ∈ lw_g := g_in (in_t3 (List.mem_of_getElem? (i := 183) (by rfl))) rfl
set_option maxRecDepth 20000 in
theorem tw_664 : Jvm.Cond.fieldLink "ChalkCastleModel" (25 : Nat) "ChalkCastleModel" "hands" "[I" ∈ lw_g := g_in (in_t3 (List.mem_of_getElem? (i := 184) (by rfl))) rfl
set_option maxRecDepth 20000 in
theorem tw_665 : Jvm.Cond.fieldLink "ChalkCastleModel" (28 : Nat) "ChalkCastleModel" "kinds" "[I" ∈ lw_g := g_in (in_t3 (List.mem_of_getElem? (i := 185) (by rfl))) rfl
set_option maxRecDepth 20000 in
theorem tw_666 : Jvm.Cond.fieldLink "ChalkCastleModel" (31 : Nat) "ChalkCastleModel" "now" "[I" ∈ lw_g := g_in (in_t3 (List.mem_of_getElem? (i := 186) (by rfl))) rfl
set_option maxRecDepth 20000 in
theorem tw_667 : Jvm.Cond.fieldLink "ChalkCastleModel" (34 : Nat) "ChalkCastleModel" "tried" "[I" ∈ lw_g := g_in (in_t3 (List.mem_of_getElem? (i := 187) (by rfl))) rfl
set_option maxRecDepth 20000 in
theorem tw_668 : Jvm.Cond.fieldLink "ChalkCastleModel" (115 : Nat) "ChalkCastleModel" "readAt" "I" ∈ lw_g := g_in (in_t3 (List.mem_of_getElem? (i := 188) (by rfl))) rfl
set_option maxRecDepth 20000 in
theorem tw_669 : Jvm.Cond.fieldLink "ChalkCastleModel" (121 : Nat) "ChalkCastleModel" "readFault" "I" ∈ lw_g := g_in (in_t3 (List.mem_of_getElem? (i := 189) (by rfl))) rfl
set_option maxRecDepth 20000 in
theorem tw_670 : Jvm.Cond.fieldLink "ChalkCastleModel" (140 : Nat) "ChalkCastleModel" "readBlocks" "I" ∈ lw_g := g_in (in_t3 (List.mem_of_getElem? (i := 190) (by rfl))) rfl
set_option maxRecDepth 20000 in
theorem tw_671 : Jvm.Cond.fieldLink "ChalkCastleModel" (143 : Nat) "ChalkCastleModel" "readRests" "I" ∈ lw_g := g_in (in_t3 (List.mem_of_getElem? (i := 191) (by rfl))) rfl
set_option maxRecDepth 20000 in
theorem tw_672 : Jvm.Cond.fieldLink "ChalkCastleModel" (154 : Nat) "ChalkCastleModel" "readClerks" "I" ∈ lw_g := g_in (in_t3 (List.mem_of_getElem? (i := 192) (by rfl))) rfl
set_option maxRecDepth 20000 in
theorem tw_673 : Jvm.Cond.fieldLink "ChalkCastleModel" (37 : Nat) "ChalkCastleModel" "readLaw" "[I" ∈ lw_g := g_in (in_t3 (List.mem_of_getElem? (i := 193) (by rfl))) rfl
set_option maxRecDepth 20000 in
theorem tw_674 : Jvm.Cond.fieldLink "ChalkCastleModel" (40 : Nat) "ChalkCastleModel" "readChalk" "[I" ∈ lw_g := g_in (in_t3 (List.mem_of_getElem? (i := 194) (by rfl))) rfl
set_option maxRecDepth 20000 in
theorem tw_675 : Jvm.Cond.fieldLink "ChalkCastleModel" (43 : Nat) "ChalkCastleModel" "readOn" "[I" ∈ lw_g := g_in (in_t3 (List.mem_of_getElem? (i := 195) (by rfl))) rfl
set_option maxRecDepth 20000 in
theorem tw_676 : Jvm.Cond.fieldLink "ChalkCastleModel" (46 : Nat) "ChalkCastleModel" "readHands" "[I" ∈ lw_g := g_in (in_t3 (List.mem_of_getElem? (i := 196) (by rfl))) rfl
set_option maxRecDepth 20000 in
theorem tw_677 : Jvm.Cond.fieldLink "ChalkCastleModel" (49 : Nat) "ChalkCastleModel" "readKinds" "[I" ∈ lw_g := g_in (in_t3 (List.mem_of_getElem? (i := 197) (by rfl))) rfl
set_option maxRecDepth 20000 in
theorem tw_678 : Jvm.Cond.fieldLink "ChalkCastleModel" (192 : Nat) "ChalkCastleModel" "actMany" "I" ∈ lw_g := g_in (in_t3 (List.mem_of_getElem? (i := 198) (by rfl))) rfl
set_option maxRecDepth 20000 in
theorem tw_679 : Jvm.Cond.fieldLink "ChalkCastleModel" (195 : Nat) "ChalkCastleModel" "actAt" "I" ∈ lw_g := g_in (in_t3 (List.mem_of_getElem? (i := 199) (by rfl))) rfl
set_option maxRecDepth 20000 in
theorem tw_680 : Jvm.Cond.fieldLink "ChalkCastleModel" (52 : Nat) "ChalkCastleModel" "acts" "[I" ∈ lw_g := g_in (in_t3 (List.mem_of_getElem? (i := 200) (by rfl))) rfl
set_option maxRecDepth 20000 in
theorem tw_681 : Jvm.Cond.fieldLink "ChalkCastleModel" (55 : Nat) "ChalkCastleModel" "layers" "[I" ∈ lw_g := g_in (in_t3 (List.mem_of_getElem? (i := 201) (by rfl))) rfl
set_option maxRecDepth 20000 in
theorem tw_682 : Jvm.Cond.fieldLink "ChalkCastleModel" (58 : Nat) "ChalkCastleModel" "isKept" "[Z" ∈ lw_g := g_in (in_t3 (List.mem_of_getElem? (i := 202) (by rfl))) rfl
set_option maxRecDepth 20000 in
theorem tw_683 : Jvm.Cond.fieldLink "ChalkCastleModel" (62 : Nat) "ChalkCastleModel" "keptLaw" "[I" ∈ lw_g := g_in (in_t3 (List.mem_of_getElem? (i := 203) (by rfl))) rfl
set_option maxRecDepth 20000 in
theorem tw_684 : Jvm.Cond.fieldLink "ChalkCastleModel" (65 : Nat) "ChalkCastleModel" "keptOn" "[I" ∈ lw_g := g_in (in_t3 (List.mem_of_getElem? (i := 204) (by rfl))) rfl
set_option maxRecDepth 20000 in
theorem tw_685 : Jvm.Cond.fieldLink "ChalkCastleModel" (68 : Nat) "ChalkCastleModel" "keptHands" "[I" ∈ lw_g := g_in (in_t3 (List.mem_of_getElem? (i := 205) (by rfl))) rfl
set_option maxRecDepth 20000 in
theorem tw_686 : Jvm.Cond.fieldLink "ChalkCastleModel" (71 : Nat) "ChalkCastleModel" "keptKinds" "[I" ∈ lw_g := g_in (in_t3 (List.mem_of_getElem? (i := 206) (by rfl))) rfl
set_option maxRecDepth 20000 in
theorem tw_687 : Jvm.Cond.fieldLink "ChalkCastleModel" (74 : Nat) "ChalkCastleModel" "keptNow" "[I" ∈ lw_g := g_in (in_t3 (List.mem_of_getElem? (i := 207) (by rfl))) rfl
set_option maxRecDepth 20000 in
theorem tw_688 : Jvm.Cond.fieldLink "ChalkCastleModel" (288 : Nat) "ChalkCastleModel" "traceMany" "I" ∈ lw_g := g_in (in_t3 (List.mem_of_getElem? (i := 208) (by rfl))) rfl
set_option maxRecDepth 20000 in
theorem tw_689 : Jvm.Cond.fieldLink "ChalkCastleModel" (77 : Nat) "ChalkCastleModel" "traced" "[I" ∈ lw_g := g_in (in_t3 (List.mem_of_getElem? (i := 209) (by rfl))) rfl
set_option maxRecDepth 20000 in
theorem tw_771 : Jvm.Cond.instanceMethod ({ cls := "ChalkCastleModel", name := "status", desc := "()I" } : Jvm.MethodName) ∈ lw_g := g_in (in_t4 (List.mem_of_getElem? (i := 51) (by rfl))) rfl
set_option maxRecDepth 20000 in
theorem tw_773 : Jvm.Cond.code ({ cls := "ChalkCastleModel", name := "status", desc := "()I" } : Jvm.MethodName) prog_9_method_8_code (1 : Nat) (Option.some Jvm.ClassFile.FieldType.int) ∈ lw_g := g_in (in_t4 (List.mem_of_getElem? (i := 53) (by rfl))) rfl
set_option maxRecDepth 20000 in
theorem tw_775 : Jvm.Cond.instanceMethod ({ cls := "ChalkCastleModel", name := "row", desc := "(III)I" } : Jvm.MethodName) ∈ lw_g := g_in (in_t4 (List.mem_of_getElem? (i := 55) (by rfl))) rfl
set_option maxRecDepth 20000 in
theorem tw_777 : Jvm.Cond.code ({ cls := "ChalkCastleModel", name := "row", desc := "(III)I" } : Jvm.MethodName) prog_9_method_11_code (5 : Nat) (Option.some Jvm.ClassFile.FieldType.int) ∈ lw_g := g_in (in_t4 (List.mem_of_getElem? (i := 57) (by rfl))) rfl
set_option maxRecDepth 20000 in
theorem tw_778 : Jvm.Cond.methodLink "ChalkCastleModel" (89 : Nat) ({ cls := "ChalkCastleModel", name := "isRow", desc := "(I)Z" } : Jvm.MethodName) ∈ lw_g := g_in (in_t4 (List.mem_of_getElem? (i := 58) (by rfl))) rfl
set_option maxRecDepth 20000 in
theorem tw_779 : Jvm.Cond.static ({ cls := "ChalkCastleModel", name := "isRow", desc := "(I)Z" } : Jvm.MethodName) ∈ lw_g := g_in (in_t4 (List.mem_of_getElem? (i := 59) (by rfl))) rfl
set_option maxRecDepth 20000 in
theorem tw_780 : Jvm.Cond.code ({ cls := "ChalkCastleModel", name := "isRow", desc := "(I)Z" } : Jvm.MethodName) prog_9_method_9_code (1 : Nat) (Option.some Jvm.ClassFile.FieldType.boolean) ∈ lw_g := g_in (in_t4 (List.mem_of_getElem? (i := 60) (by rfl))) rfl
set_option maxRecDepth 20000 in
theorem tw_781 : Jvm.Cond.methodLink "ChalkCastleModel" (85 : Nat) ({ cls := "ChalkCastleModel", name := "in", desc := "(III)Z" } : Jvm.MethodName) ∈ lw_g := g_in (in_t4 (List.mem_of_getElem? (i := 61) (by rfl))) rfl
set_option maxRecDepth 20000 in
theorem tw_782 : Jvm.Cond.static ({ cls := "ChalkCastleModel", name := "in", desc := "(III)Z" } : Jvm.MethodName) ∈ lw_g := g_in (in_t4 (List.mem_of_getElem? (i := 62) (by rfl))) rfl
set_option maxRecDepth 20000 in
theorem tw_783 : Jvm.Cond.code ({ cls := "ChalkCastleModel", name := "in", desc := "(III)Z" } : Jvm.MethodName) prog_9_method_2_code (3 : Nat) (Option.some Jvm.ClassFile.FieldType.boolean) ∈ lw_g := g_in (in_t4 (List.mem_of_getElem? (i := 63) (by rfl))) rfl
set_option maxRecDepth 20000 in
theorem tw_784 : Jvm.Cond.constant "ChalkCastleModel" (93 : Nat) (-1000001 : Int32) ∈ lw_g := g_in (in_t4 (List.mem_of_getElem? (i := 64) (by rfl))) rfl
set_option maxRecDepth 20000 in
theorem tw_785 : Jvm.Cond.methodLink "ChalkCastleModel" (94 : Nat) ({ cls := "ChalkCastleModel", name := "meets", desc := "(I)I" } : Jvm.MethodName) ∈ lw_g := g_in (in_t4 (List.mem_of_getElem? (i := 65) (by rfl))) rfl
set_option maxRecDepth 20000 in
theorem tw_787 : Jvm.Cond.instanceMethod ({ cls := "ChalkCastleModel", name := "meets", desc := "(I)I" } : Jvm.MethodName) ∈ lw_g := g_in (in_t4 (List.mem_of_getElem? (i := 67) (by rfl))) rfl
set_option maxRecDepth 20000 in
theorem tw_788 : Jvm.Cond.code ({ cls := "ChalkCastleModel", name := "meets", desc := "(I)I" } : Jvm.MethodName) prog_9_method_6_code (2 : Nat) (Option.some Jvm.ClassFile.FieldType.int) ∈ lw_g := g_in (in_t4 (List.mem_of_getElem? (i := 68) (by rfl))) rfl
set_option maxRecDepth 20000 in
theorem tw_789 : Jvm.Cond.constant "ChalkCastleModel" (84 : Nat) (-1000010 : Int32) ∈ lw_g := g_in (in_t4 (List.mem_of_getElem? (i := 69) (by rfl))) rfl
set_option maxRecDepth 20000 in
theorem tw_790 : Jvm.Cond.methodLink "ChalkCastleModel" (98 : Nat) ({ cls := "ChalkCastleModel", name := "well", desc := "(I)I" } : Jvm.MethodName) ∈ lw_g := g_in (in_t4 (List.mem_of_getElem? (i := 70) (by rfl))) rfl
set_option maxRecDepth 20000 in
theorem tw_792 : Jvm.Cond.instanceMethod ({ cls := "ChalkCastleModel", name := "well", desc := "(I)I" } : Jvm.MethodName) ∈ lw_g := g_in (in_t4 (List.mem_of_getElem? (i := 72) (by rfl))) rfl
set_option maxRecDepth 20000 in
theorem tw_793 : Jvm.Cond.code ({ cls := "ChalkCastleModel", name := "well", desc := "(I)I" } : Jvm.MethodName) prog_9_method_7_code (2 : Nat) (Option.some Jvm.ClassFile.FieldType.int) ∈ lw_g := g_in (in_t4 (List.mem_of_getElem? (i := 73) (by rfl))) rfl
set_option maxRecDepth 20000 in
theorem tw_795 : Jvm.Cond.instanceMethod ({ cls := "ChalkCastleModel", name := "set", desc := "(III)I" } : Jvm.MethodName) ∈ lw_g := g_in (in_t4 (List.mem_of_getElem? (i := 75) (by rfl))) rfl
set_option maxRecDepth 20000 in
theorem tw_797 : Jvm.Cond.code ({ cls := "ChalkCastleModel", name := "set", desc := "(III)I" } : Jvm.MethodName) prog_9_method_12_code (4 : Nat) (Option.some Jvm.ClassFile.FieldType.int) ∈ lw_g := g_in (in_t4 (List.mem_of_getElem? (i := 77) (by rfl))) rfl
set_option maxRecDepth 20000 in
theorem tw_798 : Jvm.Cond.methodLink "ChalkCastleModel" (101 : Nat) ({ cls := "ChalkCastleModel", name := "cut", desc := "(II)I" } : Jvm.MethodName) ∈ lw_g := g_in (in_t4 (List.mem_of_getElem? (i := 78) (by rfl))) rfl
set_option maxRecDepth 20000 in
theorem tw_799 : Jvm.Cond.static ({ cls := "ChalkCastleModel", name := "cut", desc := "(II)I" } : Jvm.MethodName) ∈ lw_g := g_in (in_t4 (List.mem_of_getElem? (i := 79) (by rfl))) rfl
set_option maxRecDepth 20000 in
theorem tw_800 : Jvm.Cond.code ({ cls := "ChalkCastleModel", name := "cut", desc := "(II)I" } : Jvm.MethodName) prog_9_method_10_code (2 : Nat) (Option.some Jvm.ClassFile.FieldType.int) ∈ lw_g := g_in (in_t4 (List.mem_of_getElem? (i := 80) (by rfl))) rfl
set_option maxRecDepth 20000 in
theorem tw_802 : Jvm.Cond.instanceMethod ({ cls := "ChalkCastleModel", name := "copy", desc := "(IIIII)I" } : Jvm.MethodName) ∈ lw_g := g_in (in_t4 (List.mem_of_getElem? (i := 82) (by rfl))) rfl
set_option maxRecDepth 20000 in
theorem tw_804 : Jvm.Cond.code ({ cls := "ChalkCastleModel", name := "copy", desc := "(IIIII)I" } : Jvm.MethodName) prog_9_method_14_code (9 : Nat) (Option.some Jvm.ClassFile.FieldType.int) ∈ lw_g := g_in (in_t4 (List.mem_of_getElem? (i := 84) (by rfl))) rfl
set_option maxRecDepth 20000 in
theorem tw_805 : Jvm.Cond.methodLink "ChalkCastleModel" (105 : Nat) ({ cls := "ChalkCastleModel", name := "isPart", desc := "(III)Z" } : Jvm.MethodName) ∈ lw_g := g_in (in_t4 (List.mem_of_getElem? (i := 85) (by rfl))) rfl
set_option maxRecDepth 20000 in
theorem tw_807 : Jvm.Cond.instanceMethod ({ cls := "ChalkCastleModel", name := "isPart", desc := "(III)Z" } : Jvm.MethodName) ∈ lw_g := g_in (in_t4 (List.mem_of_getElem? (i := 87) (by rfl))) rfl
set_option maxRecDepth 20000 in
theorem tw_808 : Jvm.Cond.code ({ cls := "ChalkCastleModel", name := "isPart", desc := "(III)Z" } : Jvm.MethodName) prog_9_method_13_code (4 : Nat) (Option.some Jvm.ClassFile.FieldType.boolean) ∈ lw_g := g_in (in_t4 (List.mem_of_getElem? (i := 88) (by rfl))) rfl
set_option maxRecDepth 20000 in
theorem tw_810 : Jvm.Cond.instanceMethod ({ cls := "ChalkCastleModel", name := "drop", desc := "(I)I" } : Jvm.MethodName) ∈ lw_g := g_in (in_t4 (List.mem_of_getElem? (i := 90) (by rfl))) rfl
set_option maxRecDepth 20000 in
theorem tw_812 : Jvm.Cond.code ({ cls := "ChalkCastleModel", name := "drop", desc := "(I)I" } : Jvm.MethodName) prog_9_method_15_code (3 : Nat) (Option.some Jvm.ClassFile.FieldType.int) ∈ lw_g := g_in (in_t4 (List.mem_of_getElem? (i := 92) (by rfl))) rfl
set_option maxRecDepth 20000 in
theorem tw_814 : Jvm.Cond.instanceMethod ({ cls := "ChalkCastleModel", name := "feed", desc := "(I)I" } : Jvm.MethodName) ∈ lw_g := g_in (in_t4 (List.mem_of_getElem? (i := 94) (by rfl))) rfl
set_option maxRecDepth 20000 in
theorem tw_816 : Jvm.Cond.code ({ cls := "ChalkCastleModel", name := "feed", desc := "(I)I" } : Jvm.MethodName) prog_9_method_17_code (2 : Nat) (Option.some Jvm.ClassFile.FieldType.int) ∈ lw_g := g_in (in_t4 (List.mem_of_getElem? (i := 96) (by rfl))) rfl
set_option maxRecDepth 20000 in
theorem tw_817 : Jvm.Cond.constant "ChalkCastleModel" (111 : Nat) (-1000003 : Int32) ∈ lw_g := g_in (in_t4 (List.mem_of_getElem? (i := 97) (by rfl))) rfl
set_option maxRecDepth 20000 in
theorem tw_819 : Jvm.Cond.instanceMethod ({ cls := "ChalkCastleModel", name := "fault", desc := "()I" } : Jvm.MethodName) ∈ lw_g := g_in (in_t4 (List.mem_of_getElem? (i := 99) (by rfl))) rfl
set_option maxRecDepth 20000 in
theorem tw_821 : Jvm.Cond.code ({ cls := "ChalkCastleModel", name := "fault", desc := "()I" } : Jvm.MethodName) prog_9_method_18_code (1 : Nat) (Option.some Jvm.ClassFile.FieldType.int) ∈ lw_g := g_in (in_t4 (List.mem_of_getElem? (i := 101) (by rfl))) rfl
set_option maxRecDepth 20000 in
theorem tw_823 : Jvm.Cond.instanceMethod ({ cls := "ChalkCastleModel", name := "castle", desc := "()I" } : Jvm.MethodName) ∈ lw_g := g_in (in_t4 (List.mem_of_getElem? (i := 103) (by rfl))) rfl
set_option maxRecDepth 20000 in
theorem tw_825 : Jvm.Cond.code ({ cls := "ChalkCastleModel", name := "castle", desc := "()I" } : Jvm.MethodName) prog_9_method_32_code (3 : Nat) (Option.some Jvm.ClassFile.FieldType.int) ∈ lw_g := g_in (in_t4 (List.mem_of_getElem? (i := 105) (by rfl))) rfl
set_option maxRecDepth 20000 in
theorem tw_826 : Jvm.Cond.methodLink "ChalkCastleModel" (173 : Nat) ({ cls := "ChalkCastleModel", name := "reads", desc := "()Z" } : Jvm.MethodName) ∈ lw_g := g_in (in_t4 (List.mem_of_getElem? (i := 106) (by rfl))) rfl
set_option maxRecDepth 20000 in
theorem tw_828 : Jvm.Cond.instanceMethod ({ cls := "ChalkCastleModel", name := "reads", desc := "()Z" } : Jvm.MethodName) ∈ lw_g := g_in (in_t4 (List.mem_of_getElem? (i := 108) (by rfl))) rfl
set_option maxRecDepth 20000 in
theorem tw_829 : Jvm.Cond.code ({ cls := "ChalkCastleModel", name := "reads", desc := "()Z" } : Jvm.MethodName) prog_9_method_31_code (2 : Nat) (Option.some Jvm.ClassFile.FieldType.boolean) ∈ lw_g := g_in (in_t4 (List.mem_of_getElem? (i := 109) (by rfl))) rfl
set_option maxRecDepth 20000 in
theorem tw_830 : Jvm.Cond.methodLink "ChalkCastleModel" (167 : Nat) ({ cls := "ChalkCastleModel", name := "readsLaw", desc := "()Z" } : Jvm.MethodName) ∈ lw_g := g_in (in_t4 (List.mem_of_getElem? (i := 110) (by rfl))) rfl
set_option maxRecDepth 20000 in
theorem tw_832 : Jvm.Cond.instanceMethod ({ cls := "ChalkCastleModel", name := "readsLaw", desc := "()Z" } : Jvm.MethodName) ∈ lw_g := g_in (in_t4 (List.mem_of_getElem? (i := 112) (by rfl))) rfl
set_option maxRecDepth 20000 in
theorem tw_833 : Jvm.Cond.code ({ cls := "ChalkCastleModel", name := "readsLaw", desc := "()Z" } : Jvm.MethodName) prog_9_method_25_code (1 : Nat) (Option.some Jvm.ClassFile.FieldType.boolean) ∈ lw_g := g_in (in_t4 (List.mem_of_getElem? (i := 113) (by rfl))) rfl
set_option maxRecDepth 20000 in
theorem tw_834 : Jvm.Cond.methodLink "ChalkCastleModel" (134 : Nat) ({ cls := "ChalkCastleModel", name := "readsSign", desc := "(I)Z" } : Jvm.MethodName) ∈ lw_g := g_in (in_t4 (List.mem_of_getElem? (i := 114) (by rfl))) rfl
set_option maxRecDepth 20000 in
theorem tw_836 : Jvm.Cond.instanceMethod ({ cls := "ChalkCastleModel", name := "readsSign", desc := "(I)Z" } : Jvm.MethodName) ∈ lw_g := g_in (in_t4 (List.mem_of_getElem? (i := 116) (by rfl))) rfl
set_option maxRecDepth 20000 in
theorem tw_837 : Jvm.Cond.code ({ cls := "ChalkCastleModel", name := "readsSign", desc := "(I)Z" } : Jvm.MethodName) prog_9_method_23_code (2 : Nat) (Option.some Jvm.ClassFile.FieldType.boolean) ∈ lw_g := g_in (in_t4 (List.mem_of_getElem? (i := 117) (by rfl))) rfl
set_option maxRecDepth 20000 in
theorem tw_838 : Jvm.Cond.methodLink "ChalkCastleModel" (124 : Nat) ({ cls := "ChalkCastleModel", name := "here", desc := "()I" } : Jvm.MethodName) ∈ lw_g := g_in (in_t4 (List.mem_of_getElem? (i := 118) (by rfl))) rfl
set_option maxRecDepth 20000 in
theorem tw_840 : Jvm.Cond.instanceMethod ({ cls := "ChalkCastleModel", name := "here", desc := "()I" } : Jvm.MethodName) ∈ lw_g := g_in (in_t4 (List.mem_of_getElem? (i := 120) (by rfl))) rfl
set_option maxRecDepth 20000 in
theorem tw_841 : Jvm.Cond.code ({ cls := "ChalkCastleModel", name := "here", desc := "()I" } : Jvm.MethodName) prog_9_method_19_code (1 : Nat) (Option.some Jvm.ClassFile.FieldType.int) ∈ lw_g := g_in (in_t4 (List.mem_of_getElem? (i := 121) (by rfl))) rfl
set_option maxRecDepth 20000 in
theorem tw_842 : Jvm.Cond.methodLink "ChalkCastleModel" (128 : Nat) ({ cls := "ChalkCastleModel", name := "fails", desc := "(I)Z" } : Jvm.MethodName) ∈ lw_g := g_in (in_t4 (List.mem_of_getElem? (i := 122) (by rfl))) rfl
set_option maxRecDepth 20000 in
theorem tw_844 : Jvm.Cond.instanceMethod ({ cls := "ChalkCastleModel", name := "fails", desc := "(I)Z" } : Jvm.MethodName) ∈ lw_g := g_in (in_t4 (List.mem_of_getElem? (i := 124) (by rfl))) rfl
set_option maxRecDepth 20000 in
theorem tw_845 : Jvm.Cond.code ({ cls := "ChalkCastleModel", name := "fails", desc := "(I)Z" } : Jvm.MethodName) prog_9_method_22_code (2 : Nat) (Option.some Jvm.ClassFile.FieldType.boolean) ∈ lw_g := g_in (in_t4 (List.mem_of_getElem? (i := 125) (by rfl))) rfl
set_option maxRecDepth 20000 in
theorem tw_846 : Jvm.Cond.methodLink "ChalkCastleModel" (137 : Nat) ({ cls := "ChalkCastleModel", name := "number", desc := "(II)I" } : Jvm.MethodName) ∈ lw_g := g_in (in_t4 (List.mem_of_getElem? (i := 126) (by rfl))) rfl
set_option maxRecDepth 20000 in
theorem tw_848 : Jvm.Cond.instanceMethod ({ cls := "ChalkCastleModel", name := "number", desc := "(II)I" } : Jvm.MethodName) ∈ lw_g := g_in (in_t4 (List.mem_of_getElem? (i := 128) (by rfl))) rfl
set_option maxRecDepth 20000 in
theorem tw_849 : Jvm.Cond.code ({ cls := "ChalkCastleModel", name := "number", desc := "(II)I" } : Jvm.MethodName) prog_9_method_24_code (5 : Nat) (Option.some Jvm.ClassFile.FieldType.int) ∈ lw_g := g_in (in_t4 (List.mem_of_getElem? (i := 129) (by rfl))) rfl
set_option maxRecDepth 20000 in
theorem tw_850 : Jvm.Cond.methodLink "ChalkCastleModel" (131 : Nat) ({ cls := "ChalkCastleModel", name := "run", desc := "()I" } : Jvm.MethodName) ∈ lw_g := g_in (in_t4 (List.mem_of_getElem? (i := 130) (by rfl))) rfl
set_option maxRecDepth 20000 in
theorem tw_852 : Jvm.Cond.instanceMethod ({ cls := "ChalkCastleModel", name := "run", desc := "()I" } : Jvm.MethodName) ∈ lw_g := g_in (in_t4 (List.mem_of_getElem? (i := 132) (by rfl))) rfl
set_option maxRecDepth 20000 in
theorem tw_853 : Jvm.Cond.code ({ cls := "ChalkCastleModel", name := "run", desc := "()I" } : Jvm.MethodName) prog_9_method_21_code (2 : Nat) (Option.some Jvm.ClassFile.FieldType.int) ∈ lw_g := g_in (in_t4 (List.mem_of_getElem? (i := 133) (by rfl))) rfl
set_option maxRecDepth 20000 in
theorem tw_854 : Jvm.Cond.methodLink "ChalkCastleModel" (118 : Nat) ({ cls := "ChalkCastleModel", name := "isFigure", desc := "(I)Z" } : Jvm.MethodName) ∈ lw_g := g_in (in_t4 (List.mem_of_getElem? (i := 134) (by rfl))) rfl
set_option maxRecDepth 20000 in
theorem tw_856 : Jvm.Cond.instanceMethod ({ cls := "ChalkCastleModel", name := "isFigure", desc := "(I)Z" } : Jvm.MethodName) ∈ lw_g := g_in (in_t4 (List.mem_of_getElem? (i := 136) (by rfl))) rfl
set_option maxRecDepth 20000 in
theorem tw_857 : Jvm.Cond.code ({ cls := "ChalkCastleModel", name := "isFigure", desc := "(I)Z" } : Jvm.MethodName) prog_9_method_20_code (2 : Nat) (Option.some Jvm.ClassFile.FieldType.boolean) ∈ lw_g := g_in (in_t4 (List.mem_of_getElem? (i := 137) (by rfl))) rfl
set_option maxRecDepth 20000 in
theorem tw_858 : Jvm.Cond.methodLink "ChalkCastleModel" (170 : Nat) ({ cls := "ChalkCastleModel", name := "readsItem", desc := "()Z" } : Jvm.MethodName) ∈ lw_g := g_in (in_t4 (List.mem_of_getElem? (i := 138) (by rfl))) rfl
set_option maxRecDepth 20000 in
theorem tw_860 : Jvm.Cond.instanceMethod ({ cls := "ChalkCastleModel", name := "readsItem", desc := "()Z" } : Jvm.MethodName) ∈ lw_g := g_in (in_t4 (List.mem_of_getElem? (i := 140) (by rfl))) rfl
set_option maxRecDepth 20000 in
theorem tw_861 : Jvm.Cond.code ({ cls := "ChalkCastleModel", name := "readsItem", desc := "()Z" } : Jvm.MethodName) prog_9_method_30_code (2 : Nat) (Option.some Jvm.ClassFile.FieldType.boolean) ∈ lw_g := g_in (in_t4 (List.mem_of_getElem? (i := 141) (by rfl))) rfl
set_option maxRecDepth 20000 in
theorem tw_862 : Jvm.Cond.methodLink "ChalkCastleModel" (157 : Nat) ({ cls := "ChalkCastleModel", name := "readsBlock", desc := "()Z" } : Jvm.MethodName) ∈ lw_g := g_in (in_t4 (List.mem_of_getElem? (i := 142) (by rfl))) rfl
set_option maxRecDepth 20000 in
theorem tw_864 : Jvm.Cond.instanceMethod ({ cls := "ChalkCastleModel", name := "readsBlock", desc := "()Z" } : Jvm.MethodName) ∈ lw_g := g_in (in_t4 (List.mem_of_getElem? (i := 144) (by rfl))) rfl
set_option maxRecDepth 20000 in
theorem tw_865 : Jvm.Cond.code ({ cls := "ChalkCastleModel", name := "readsBlock", desc := "()Z" } : Jvm.MethodName) prog_9_method_26_code (2 : Nat) (Option.some Jvm.ClassFile.FieldType.boolean) ∈ lw_g := g_in (in_t4 (List.mem_of_getElem? (i := 145) (by rfl))) rfl
set_option maxRecDepth 20000 in
theorem tw_866 : Jvm.Cond.methodLink "ChalkCastleModel" (161 : Nat) ({ cls := "ChalkCastleModel", name := "readsRest", desc := "()Z" } : Jvm.MethodName) ∈ lw_g := g_in (in_t4 (List.mem_of_getElem? (i := 146) (by rfl))) rfl
set_option maxRecDepth 20000 in
theorem tw_868 : Jvm.Cond.instanceMethod ({ cls := "ChalkCastleModel", name := "readsRest", desc := "()Z" } : Jvm.MethodName) ∈ lw_g := g_in (in_t4 (List.mem_of_getElem? (i := 148) (by rfl))) rfl
set_option maxRecDepth 20000 in
theorem tw_869 : Jvm.Cond.code ({ cls := "ChalkCastleModel", name := "readsRest", desc := "()Z" } : Jvm.MethodName) prog_9_method_27_code (4 : Nat) (Option.some Jvm.ClassFile.FieldType.boolean) ∈ lw_g := g_in (in_t4 (List.mem_of_getElem? (i := 149) (by rfl))) rfl
set_option maxRecDepth 20000 in
theorem tw_870 : Jvm.Cond.methodLink "ChalkCastleModel" (146 : Nat) ({ cls := "ChalkCastleModel", name := "has", desc := "(II)Z" } : Jvm.MethodName) ∈ lw_g := g_in (in_t4 (List.mem_of_getElem? (i := 150) (by rfl))) rfl
set_option maxRecDepth 20000 in
theorem tw_871 : Jvm.Cond.static ({ cls := "ChalkCastleModel", name := "has", desc := "(II)Z" } : Jvm.MethodName) ∈ lw_g := g_in (in_t4 (List.mem_of_getElem? (i := 151) (by rfl))) rfl
set_option maxRecDepth 20000 in
theorem tw_872 : Jvm.Cond.code ({ cls := "ChalkCastleModel", name := "has", desc := "(II)Z" } : Jvm.MethodName) prog_9_method_3_code (2 : Nat) (Option.some Jvm.ClassFile.FieldType.boolean) ∈ lw_g := g_in (in_t4 (List.mem_of_getElem? (i := 152) (by rfl))) rfl
set_option maxRecDepth 20000 in
theorem tw_873 : Jvm.Cond.methodLink "ChalkCastleModel" (164 : Nat) ({ cls := "ChalkCastleModel", name := "readsClerk", desc := "()Z" } : Jvm.MethodName) ∈ lw_g := g_in (in_t4 (List.mem_of_getElem? (i := 153) (by rfl))) rfl
set_option maxRecDepth 20000 in
theorem tw_875 : Jvm.Cond.instanceMethod ({ cls := "ChalkCastleModel", name := "readsClerk", desc := "()Z" } : Jvm.MethodName) ∈ lw_g := g_in (in_t4 (List.mem_of_getElem? (i := 155) (by rfl))) rfl
set_option maxRecDepth 20000 in
theorem tw_876 : Jvm.Cond.code ({ cls := "ChalkCastleModel", name := "readsClerk", desc := "()Z" } : Jvm.MethodName) prog_9_method_29_code (3 : Nat) (Option.some Jvm.ClassFile.FieldType.boolean) ∈ lw_g := g_in (in_t4 (List.mem_of_getElem? (i := 156) (by rfl))) rfl
set_option maxRecDepth 20000 in
theorem tw_877 : Jvm.Cond.methodLink "ChalkCastleModel" (151 : Nat) ({ cls := "ChalkCastleModel", name := "kindOf", desc := "(I)I" } : Jvm.MethodName) ∈ lw_g := g_in (in_t4 (List.mem_of_getElem? (i := 157) (by rfl))) rfl
set_option maxRecDepth 20000 in
theorem tw_878 : Jvm.Cond.static ({ cls := "ChalkCastleModel", name := "kindOf", desc := "(I)I" } : Jvm.MethodName) ∈ lw_g := g_in (in_t4 (List.mem_of_getElem? (i := 158) (by rfl))) rfl
set_option maxRecDepth 20000 in
theorem tw_879 : Jvm.Cond.code ({ cls := "ChalkCastleModel", name := "kindOf", desc := "(I)I" } : Jvm.MethodName) prog_9_method_28_code (1 : Nat) (Option.some Jvm.ClassFile.FieldType.int) ∈ lw_g := g_in (in_t4 (List.mem_of_getElem? (i := 159) (by rfl))) rfl
set_option maxRecDepth 20000 in
theorem tw_880 : Jvm.Cond.constant "ChalkCastleModel" (150 : Nat) (-1000000 : Int32) ∈ lw_g := g_in (in_t4 (List.mem_of_getElem? (i := 160) (by rfl))) rfl
set_option maxRecDepth 20000 in
theorem tw_881 : Jvm.Cond.constant "ChalkCastleModel" (176 : Nat) (-1000100 : Int32) ∈ lw_g := g_in (in_t4 (List.mem_of_getElem? (i := 161) (by rfl))) rfl
set_option maxRecDepth 20000 in
theorem tw_883 : Jvm.Cond.instanceMethod ({ cls := "ChalkCastleModel", name := "undo", desc := "()I" } : Jvm.MethodName) ∈ lw_g := g_in (in_t4 (List.mem_of_getElem? (i := 163) (by rfl))) rfl
set_option maxRecDepth 20000 in
theorem tw_885 : Jvm.Cond.code ({ cls := "ChalkCastleModel", name := "undo", desc := "()I" } : Jvm.MethodName) prog_9_method_37_code (2 : Nat) (Option.some Jvm.ClassFile.FieldType.int) ∈ lw_g := g_in (in_t4 (List.mem_of_getElem? (i := 165) (by rfl))) rfl
set_option maxRecDepth 20000 in
theorem tw_886 : Jvm.Cond.constant "ChalkCastleModel" (201 : Nat) (-1000002 : Int32) ∈ lw_g := g_in (in_t4 (List.mem_of_getElem? (i := 166) (by rfl))) rfl
set_option maxRecDepth 20000 in
theorem tw_888 : Jvm.Cond.instanceMethod ({ cls := "ChalkCastleModel", name := "write", desc := "(III)I" } : Jvm.MethodName) ∈ lw_g := g_in (in_t4 (List.mem_of_getElem? (i := 168) (by rfl))) rfl
set_option maxRecDepth 20000 in
theorem tw_890 : Jvm.Cond.code ({ cls := "ChalkCastleModel", name := "write", desc := "(III)I" } : Jvm.MethodName) prog_9_method_45_code (5 : Nat) (Option.some Jvm.ClassFile.FieldType.int) ∈ lw_g := g_in (in_t4 (List.mem_of_getElem? (i := 170) (by rfl))) rfl
set_option maxRecDepth 20000 in
theorem tw_891 : Jvm.Cond.methodLink "ChalkCastleModel" (217 : Nat) ({ cls := "ChalkCastleModel", name := "isClerk", desc := "(I)Z" } : Jvm.MethodName) ∈ lw_g := g_in (in_t4 (List.mem_of_getElem? (i := 171) (by rfl))) rfl
set_option maxRecDepth 20000 in
theorem tw_893 : Jvm.Cond.instanceMethod ({ cls := "ChalkCastleModel", name := "isClerk", desc := "(I)Z" } : Jvm.MethodName) ∈ lw_g := g_in (in_t4 (List.mem_of_getElem? (i := 173) (by rfl))) rfl
set_option maxRecDepth 20000 in
theorem tw_894 : Jvm.Cond.code ({ cls := "ChalkCastleModel", name := "isClerk", desc := "(I)Z" } : Jvm.MethodName) prog_9_method_34_code (2 : Nat) (Option.some Jvm.ClassFile.FieldType.boolean) ∈ lw_g := g_in (in_t4 (List.mem_of_getElem? (i := 174) (by rfl))) rfl
set_option maxRecDepth 20000 in
theorem tw_895 : Jvm.Cond.methodLink "ChalkCastleModel" (220 : Nat) ({ cls := "ChalkCastleModel", name := "isBlock", desc := "(I)Z" } : Jvm.MethodName) ∈ lw_g := g_in (in_t4 (List.mem_of_getElem? (i := 175) (by rfl))) rfl
set_option maxRecDepth 20000 in
theorem tw_897 : Jvm.Cond.instanceMethod ({ cls := "ChalkCastleModel", name := "isBlock", desc := "(I)Z" } : Jvm.MethodName) ∈ lw_g := g_in (in_t4 (List.mem_of_getElem? (i := 177) (by rfl))) rfl
set_option maxRecDepth 20000 in
theorem tw_898 : Jvm.Cond.code ({ cls := "ChalkCastleModel", name := "isBlock", desc := "(I)Z" } : Jvm.MethodName) prog_9_method_33_code (2 : Nat) (Option.some Jvm.ClassFile.FieldType.boolean) ∈ lw_g := g_in (in_t4 (List.mem_of_getElem? (i := 178) (by rfl))) rfl
set_option maxRecDepth 20000 in
theorem tw_899 : Jvm.Cond.methodLink "ChalkCastleModel" (210 : Nat) ({ cls := "ChalkCastleModel", name := "takesOf", desc := "([III)I" } : Jvm.MethodName) ∈ lw_g := g_in (in_t4 (List.mem_of_getElem? (i := 179) (by rfl))) rfl
set_option maxRecDepth 20000 in
theorem tw_901 : Jvm.Cond.instanceMethod ({ cls := "ChalkCastleModel", name := "takesOf", desc := "([III)I" } : Jvm.MethodName) ∈ lw_g := g_in (in_t4 (List.mem_of_getElem? (i := 181) (by rfl))) rfl
set_option maxRecDepth 20000 in
theorem tw_902 : Jvm.Cond.code ({ cls := "ChalkCastleModel", name := "takesOf", desc := "([III)I" } : Jvm.MethodName) prog_9_method_41_code (4 : Nat) (Option.some Jvm.ClassFile.FieldType.int) ∈ lw_g := g_in (in_t4 (List.mem_of_getElem? (i := 182) (by rfl))) rfl
set_option maxRecDepth 20000 in
theorem tw_903 : Jvm.Cond.methodLink "ChalkCastleModel" (206 : Nat) ({ cls := "ChalkCastleModel", name := "takesBy", desc := "(IIII)I" } : Jvm.MethodName) ∈ lw_g := g_in (in_t4 (List.mem_of_getElem? (i := 183) (by rfl))) rfl
set_option maxRecDepth 20000 in
theorem tw_905 : Jvm.Cond.instanceMethod ({ cls := "ChalkCastleModel", name := "takesBy", desc := "(IIII)I" } : Jvm.MethodName) ∈ lw_g := g_in (in_t4 (List.mem_of_getElem? (i := 185) (by rfl))) rfl
set_option maxRecDepth 20000 in
theorem tw_906 : Jvm.Cond.code ({ cls := "ChalkCastleModel", name := "takesBy", desc := "(IIII)I" } : Jvm.MethodName) prog_9_method_40_code (5 : Nat) (Option.some Jvm.ClassFile.FieldType.int) ∈ lw_g := g_in (in_t4 (List.mem_of_getElem? (i := 186) (by rfl))) rfl
set_option maxRecDepth 20000 in
theorem tw_907 : Jvm.Cond.methodLink "ChalkCastleModel" (198 : Nat) ({ cls := "ChalkCastleModel", name := "least", desc := "(II)I" } : Jvm.MethodName) ∈ lw_g := g_in (in_t4 (List.mem_of_getElem? (i := 187) (by rfl))) rfl
set_option maxRecDepth 20000 in
theorem tw_908 : Jvm.Cond.static ({ cls := "ChalkCastleModel", name := "least", desc := "(II)I" } : Jvm.MethodName) ∈ lw_g := g_in (in_t4 (List.mem_of_getElem? (i := 188) (by rfl))) rfl
set_option maxRecDepth 20000 in
theorem tw_909 : Jvm.Cond.code ({ cls := "ChalkCastleModel", name := "least", desc := "(II)I" } : Jvm.MethodName) prog_9_method_5_code (2 : Nat) (Option.some Jvm.ClassFile.FieldType.int) ∈ lw_g := g_in (in_t4 (List.mem_of_getElem? (i := 189) (by rfl))) rfl
set_option maxRecDepth 20000 in
theorem tw_910 : Jvm.Cond.methodLink "ChalkCastleModel" (223 : Nat) ({ cls := "ChalkCastleModel", name := "remember", desc := "()V" } : Jvm.MethodName) ∈ lw_g := g_in (in_t4 (List.mem_of_getElem? (i := 190) (by rfl))) rfl
set_option maxRecDepth 20000 in
theorem tw_912 : Jvm.Cond.instanceMethod ({ cls := "ChalkCastleModel", name := "remember", desc := "()V" } : Jvm.MethodName) ∈ lw_g := g_in (in_t4 (List.mem_of_getElem? (i := 192) (by rfl))) rfl
set_option maxRecDepth 20000 in
theorem tw_913 : Jvm.Cond.code ({ cls := "ChalkCastleModel", name := "remember", desc := "()V" } : Jvm.MethodName) prog_9_method_36_code (2 : Nat) (Option.none : Option Jvm.ClassFile.FieldType) ∈ lw_g := g_in (in_t4 (List.mem_of_getElem? (i := 193) (by rfl))) rfl
set_option maxRecDepth 20000 in
theorem tw_914 : Jvm.Cond.methodLink "ChalkCastleModel" (226 : Nat) ({ cls := "ChalkCastleModel", name := "writes", desc := "([IIII)Z" } : Jvm.MethodName) ∈ lw_g := g_in (in_t4 (List.mem_of_getElem? (i := 194) (by rfl))) rfl
set_option maxRecDepth 20000 in
theorem tw_916 : Jvm.Cond.instanceMethod ({ cls := "ChalkCastleModel", name := "writes", desc := "([IIII)Z" } : Jvm.MethodName) ∈ lw_g := g_in (in_t4 (List.mem_of_getElem? (i := 196) (by rfl))) rfl
set_option maxRecDepth 20000 in
theorem tw_917 : Jvm.Cond.code ({ cls := "ChalkCastleModel", name := "writes", desc := "([IIII)Z" } : Jvm.MethodName) prog_9_method_42_code (6 : Nat) (Option.some Jvm.ClassFile.FieldType.boolean) ∈ lw_g := g_in (in_t4 (List.mem_of_getElem? (i := 197) (by rfl))) rfl
set_option maxRecDepth 20000 in
theorem tw_919 : Jvm.Cond.instanceMethod ({ cls := "ChalkCastleModel", name := "rub", desc := "(II)I" } : Jvm.MethodName) ∈ lw_g := g_in (in_t4 (List.mem_of_getElem? (i := 199) (by rfl))) rfl
set_option maxRecDepth 20000 in
theorem tw_921 : Jvm.Cond.code ({ cls := "ChalkCastleModel", name := "rub", desc := "(II)I" } : Jvm.MethodName) prog_9_method_46_code (3 : Nat) (Option.some Jvm.ClassFile.FieldType.int) ∈ lw_g := g_in (in_t4 (List.mem_of_getElem? (i := 201) (by rfl))) rfl
set_option maxRecDepth 20000 in
theorem tw_923 : Jvm.Cond.instanceMethod ({ cls := "ChalkCastleModel", name := "rain", desc := "()I" } : Jvm.MethodName) ∈ lw_g := g_in (in_t4 (List.mem_of_getElem? (i := 203) (by rfl))) rfl
set_option maxRecDepth 20000 in
theorem tw_925 : Jvm.Cond.code ({ cls := "ChalkCastleModel", name := "rain", desc := "()I" } : Jvm.MethodName) prog_9_method_47_code (1 : Nat) (Option.some Jvm.ClassFile.FieldType.int) ∈ lw_g := g_in (in_t4 (List.mem_of_getElem? (i := 205) (by rfl))) rfl
set_option maxRecDepth 20000 in
theorem tw_926 : Jvm.Cond.methodLink "ChalkCastleModel" (230 : Nat) ({ cls := "ChalkCastleModel", name := "rainsOn", desc := "([I)V" } : Jvm.MethodName) ∈ lw_g := g_in (in_t4 (List.mem_of_getElem? (i := 206) (by rfl))) rfl
set_option maxRecDepth 20000 in
theorem tw_928 : Jvm.Cond.instanceMethod ({ cls := "ChalkCastleModel", name := "rainsOn", desc := "([I)V" } : Jvm.MethodName) ∈ lw_g := g_in (in_t4 (List.mem_of_getElem? (i := 208) (by rfl))) rfl
set_option maxRecDepth 20000 in
theorem tw_929 : Jvm.Cond.code ({ cls := "ChalkCastleModel", name := "rainsOn", desc := "([I)V" } : Jvm.MethodName) prog_9_method_44_code (5 : Nat) (Option.none : Option Jvm.ClassFile.FieldType) ∈ lw_g := g_in (in_t4 (List.mem_of_getElem? (i := 209) (by rfl))) rfl
set_option maxRecDepth 20000 in
theorem tw_930 : Jvm.Cond.methodLink "ChalkCastleModel" (202 : Nat) ({ cls := "ChalkCastleModel", name := "standing", desc := "([I)I" } : Jvm.MethodName) ∈ lw_g := g_in (in_t4 (List.mem_of_getElem? (i := 210) (by rfl))) rfl
set_option maxRecDepth 20000 in
theorem tw_932 : Jvm.Cond.instanceMethod ({ cls := "ChalkCastleModel", name := "standing", desc := "([I)I" } : Jvm.MethodName) ∈ lw_g := g_in (in_t4 (List.mem_of_getElem? (i := 212) (by rfl))) rfl
set_option maxRecDepth 20000 in
theorem tw_933 : Jvm.Cond.code ({ cls := "ChalkCastleModel", name := "standing", desc := "([I)I" } : Jvm.MethodName) prog_9_method_38_code (4 : Nat) (Option.some Jvm.ClassFile.FieldType.int) ∈ lw_g := g_in (in_t4 (List.mem_of_getElem? (i := 213) (by rfl))) rfl
set_option maxRecDepth 20000 in
theorem tw_934 : Jvm.Cond.methodLink "ChalkCastleModel" (214 : Nat) ({ cls := "ChalkCastleModel", name := "restingOn", desc := "(I)I" } : Jvm.MethodName) ∈ lw_g := g_in (in_t4 (List.mem_of_getElem? (i := 214) (by rfl))) rfl
set_option maxRecDepth 20000 in
theorem tw_936 : Jvm.Cond.instanceMethod ({ cls := "ChalkCastleModel", name := "restingOn", desc := "(I)I" } : Jvm.MethodName) ∈ lw_g := g_in (in_t4 (List.mem_of_getElem? (i := 216) (by rfl))) rfl
set_option maxRecDepth 20000 in
theorem tw_937 : Jvm.Cond.code ({ cls := "ChalkCastleModel", name := "restingOn", desc := "(I)I" } : Jvm.MethodName) prog_9_method_43_code (4 : Nat) (Option.some Jvm.ClassFile.FieldType.int) ∈ lw_g := g_in (in_t4 (List.mem_of_getElem? (i := 217) (by rfl))) rfl
set_option maxRecDepth 20000 in
theorem tw_939 : Jvm.Cond.instanceMethod ({ cls := "ChalkCastleModel", name := "days", desc := "(I)I" } : Jvm.MethodName) ∈ lw_g := g_in (in_t4 (List.mem_of_getElem? (i := 219) (by rfl))) rfl
set_option maxRecDepth 20000 in
theorem tw_941 : Jvm.Cond.code ({ cls := "ChalkCastleModel", name := "days", desc := "(I)I" } : Jvm.MethodName) prog_9_method_48_code (3 : Nat) (Option.some Jvm.ClassFile.FieldType.int) ∈ lw_g := g_in (in_t4 (List.mem_of_getElem? (i := 221) (by rfl))) rfl
set_option maxRecDepth 20000 in
theorem tw_943 : Jvm.Cond.instanceMethod ({ cls := "ChalkCastleModel", name := "block", desc := "(II)I" } : Jvm.MethodName) ∈ lw_g := g_in (in_t4 (List.mem_of_getElem? (i := 223) (by rfl))) rfl
set_option maxRecDepth 20000 in
theorem tw_945 : Jvm.Cond.code ({ cls := "ChalkCastleModel", name := "block", desc := "(II)I" } : Jvm.MethodName) prog_9_method_49_code (3 : Nat) (Option.some Jvm.ClassFile.FieldType.int) ∈ lw_g := g_in (in_t4 (List.mem_of_getElem? (i := 225) (by rfl))) rfl
set_option maxRecDepth 20000 in
theorem tw_947 : Jvm.Cond.instanceMethod ({ cls := "ChalkCastleModel", name := "clerk", desc := "(II)I" } : Jvm.MethodName) ∈ lw_g := g_in (in_t4 (List.mem_of_getElem? (i := 227) (by rfl))) rfl
set_option maxRecDepth 20000 in
theorem tw_949 : Jvm.Cond.code ({ cls := "ChalkCastleModel", name := "clerk", desc := "(II)I" } : Jvm.MethodName) prog_9_method_50_code (3 : Nat) (Option.some Jvm.ClassFile.FieldType.int) ∈ lw_g := g_in (in_t4 (List.mem_of_getElem? (i := 229) (by rfl))) rfl
set_option maxRecDepth 20000 in
theorem tw_951 : Jvm.Cond.instanceMethod ({ cls := "ChalkCastleModel", name := "takes", desc := "(II)I" } : Jvm.MethodName) ∈ lw_g := g_in (in_t4 (List.mem_of_getElem? (i := 231) (by rfl))) rfl
set_option maxRecDepth 20000 in
theorem tw_953 : Jvm.Cond.code ({ cls := "ChalkCastleModel", name := "takes", desc := "(II)I" } : Jvm.MethodName) prog_9_method_51_code (3 : Nat) (Option.some Jvm.ClassFile.FieldType.int) ∈ lw_g := g_in (in_t4 (List.mem_of_getElem? (i := 233) (by rfl))) rfl
set_option maxRecDepth 20000 in
theorem tw_955 : Jvm.Cond.instanceMethod ({ cls := "ChalkCastleModel", name := "stand", desc := "(I)I" } : Jvm.MethodName) ∈ lw_g := g_in (in_t4 (List.mem_of_getElem? (i := 235) (by rfl))) rfl
set_option maxRecDepth 20000 in
theorem tw_957 : Jvm.Cond.code ({ cls := "ChalkCastleModel", name := "stand", desc := "(I)I" } : Jvm.MethodName) prog_9_method_54_code (2 : Nat) (Option.some Jvm.ClassFile.FieldType.int) ∈ lw_g := g_in (in_t4 (List.mem_of_getElem? (i := 237) (by rfl))) rfl
set_option maxRecDepth 20000 in
theorem tw_958 : Jvm.Cond.methodLink "ChalkCastleModel" (234 : Nat) ({ cls := "ChalkCastleModel", name := "fallen", desc := "([I)I" } : Jvm.MethodName) ∈ lw_g := g_in (in_t4 (List.mem_of_getElem? (i := 238) (by rfl))) rfl
set_option maxRecDepth 20000 in
theorem tw_960 : Jvm.Cond.instanceMethod ({ cls := "ChalkCastleModel", name := "fallen", desc := "([I)I" } : Jvm.MethodName) ∈ lw_g := g_in (in_t5 (List.mem_of_getElem? (i := 0) (by rfl))) rfl
set_option maxRecDepth 20000 in
theorem tw_961 : Jvm.Cond.code ({ cls := "ChalkCastleModel", name := "fallen", desc := "([I)I" } : Jvm.MethodName) prog_9_method_39_code (5 : Nat) (Option.some Jvm.ClassFile.FieldType.int) ∈ lw_g := g_in (in_t5 (List.mem_of_getElem? (i := 1) (by rfl))) rfl
set_option maxRecDepth 20000 in
theorem tw_962 : Jvm.Cond.methodLink "ChalkCastleModel" (237 : Nat) ({ cls := "ChalkCastleModel", name := "allChalk", desc := "()I" } : Jvm.MethodName) ∈ lw_g := g_in (in_t5 (List.mem_of_getElem? (i := 2) (by rfl))) rfl
set_option maxRecDepth 20000 in
theorem tw_964 : Jvm.Cond.instanceMethod ({ cls := "ChalkCastleModel", name := "allChalk", desc := "()I" } : Jvm.MethodName) ∈ lw_g := g_in (in_t5 (List.mem_of_getElem? (i := 4) (by rfl))) rfl
set_option maxRecDepth 20000 in
theorem tw_965 : Jvm.Cond.code ({ cls := "ChalkCastleModel", name := "allChalk", desc := "()I" } : Jvm.MethodName) prog_9_method_53_code (3 : Nat) (Option.some Jvm.ClassFile.FieldType.int) ∈ lw_g := g_in (in_t5 (List.mem_of_getElem? (i := 5) (by rfl))) rfl
set_option maxRecDepth 20000 in
theorem tw_966 : Jvm.Cond.methodLink "ChalkCastleModel" (240 : Nat) ({ cls := "ChalkCastleModel", name := "allLines", desc := "()I" } : Jvm.MethodName) ∈ lw_g := g_in (in_t5 (List.mem_of_getElem? (i := 6) (by rfl))) rfl
set_option maxRecDepth 20000 in
theorem tw_968 : Jvm.Cond.instanceMethod ({ cls := "ChalkCastleModel", name := "allLines", desc := "()I" } : Jvm.MethodName) ∈ lw_g := g_in (in_t5 (List.mem_of_getElem? (i := 8) (by rfl))) rfl
set_option maxRecDepth 20000 in
theorem tw_969 : Jvm.Cond.code ({ cls := "ChalkCastleModel", name := "allLines", desc := "()I" } : Jvm.MethodName) prog_9_method_52_code (3 : Nat) (Option.some Jvm.ClassFile.FieldType.int) ∈ lw_g := g_in (in_t5 (List.mem_of_getElem? (i := 9) (by rfl))) rfl
set_option maxRecDepth 20000 in
theorem tw_971 : Jvm.Cond.instanceMethod ({ cls := "ChalkCastleModel", name := "wouldFall", desc := "(I)I" } : Jvm.MethodName) ∈ lw_g := g_in (in_t5 (List.mem_of_getElem? (i := 11) (by rfl))) rfl
set_option maxRecDepth 20000 in
theorem tw_973 : Jvm.Cond.code ({ cls := "ChalkCastleModel", name := "wouldFall", desc := "(I)I" } : Jvm.MethodName) prog_9_method_57_code (2 : Nat) (Option.some Jvm.ClassFile.FieldType.int) ∈ lw_g := g_in (in_t5 (List.mem_of_getElem? (i := 13) (by rfl))) rfl
set_option maxRecDepth 20000 in
theorem tw_974 : Jvm.Cond.methodLink "ChalkCastleModel" (246 : Nat) ({ cls := "ChalkCastleModel", name := "isBlocks", desc := "(I)Z" } : Jvm.MethodName) ∈ lw_g := g_in (in_t5 (List.mem_of_getElem? (i := 14) (by rfl))) rfl
set_option maxRecDepth 20000 in
theorem tw_976 : Jvm.Cond.instanceMethod ({ cls := "ChalkCastleModel", name := "isBlocks", desc := "(I)Z" } : Jvm.MethodName) ∈ lw_g := g_in (in_t5 (List.mem_of_getElem? (i := 16) (by rfl))) rfl
set_option maxRecDepth 20000 in
theorem tw_977 : Jvm.Cond.code ({ cls := "ChalkCastleModel", name := "isBlocks", desc := "(I)Z" } : Jvm.MethodName) prog_9_method_35_code (2 : Nat) (Option.some Jvm.ClassFile.FieldType.boolean) ∈ lw_g := g_in (in_t5 (List.mem_of_getElem? (i := 17) (by rfl))) rfl
set_option maxRecDepth 20000 in
theorem tw_978 : Jvm.Cond.methodLink "ChalkCastleModel" (249 : Nat) ({ cls := "ChalkCastleModel", name := "standingWithout", desc := "(I)I" } : Jvm.MethodName) ∈ lw_g := g_in (in_t5 (List.mem_of_getElem? (i := 18) (by rfl))) rfl
set_option maxRecDepth 20000 in
theorem tw_980 : Jvm.Cond.instanceMethod ({ cls := "ChalkCastleModel", name := "standingWithout", desc := "(I)I" } : Jvm.MethodName) ∈ lw_g := g_in (in_t5 (List.mem_of_getElem? (i := 20) (by rfl))) rfl
set_option maxRecDepth 20000 in
theorem tw_981 : Jvm.Cond.code ({ cls := "ChalkCastleModel", name := "standingWithout", desc := "(I)I" } : Jvm.MethodName) prog_9_method_56_code (3 : Nat) (Option.some Jvm.ClassFile.FieldType.int) ∈ lw_g := g_in (in_t5 (List.mem_of_getElem? (i := 21) (by rfl))) rfl
set_option maxRecDepth 20000 in
theorem tw_982 : Jvm.Cond.methodLink "ChalkCastleModel" (243 : Nat) ({ cls := "ChalkCastleModel", name := "copyNow", desc := "()V" } : Jvm.MethodName) ∈ lw_g := g_in (in_t5 (List.mem_of_getElem? (i := 22) (by rfl))) rfl
set_option maxRecDepth 20000 in
theorem tw_984 : Jvm.Cond.instanceMethod ({ cls := "ChalkCastleModel", name := "copyNow", desc := "()V" } : Jvm.MethodName) ∈ lw_g := g_in (in_t5 (List.mem_of_getElem? (i := 24) (by rfl))) rfl
set_option maxRecDepth 20000 in
theorem tw_985 : Jvm.Cond.code ({ cls := "ChalkCastleModel", name := "copyNow", desc := "()V" } : Jvm.MethodName) prog_9_method_55_code (2 : Nat) (Option.none : Option Jvm.ClassFile.FieldType) ∈ lw_g := g_in (in_t5 (List.mem_of_getElem? (i := 25) (by rfl))) rfl
set_option maxRecDepth 20000 in
theorem tw_987 : Jvm.Cond.instanceMethod ({ cls := "ChalkCastleModel", name := "left", desc := "(I)I" } : Jvm.MethodName) ∈ lw_g := g_in (in_t5 (List.mem_of_getElem? (i := 27) (by rfl))) rfl
set_option maxRecDepth 20000 in
theorem tw_989 : Jvm.Cond.code ({ cls := "ChalkCastleModel", name := "left", desc := "(I)I" } : Jvm.MethodName) prog_9_method_58_code (5 : Nat) (Option.some Jvm.ClassFile.FieldType.int) ∈ lw_g := g_in (in_t5 (List.mem_of_getElem? (i := 29) (by rfl))) rfl
set_option maxRecDepth 20000 in
theorem tw_991 : Jvm.Cond.instanceMethod ({ cls := "ChalkCastleModel", name := "leastFallen", desc := "(III)I" } : Jvm.MethodName) ∈ lw_g := g_in (in_t5 (List.mem_of_getElem? (i := 31) (by rfl))) rfl
set_option maxRecDepth 20000 in
theorem tw_993 : Jvm.Cond.code ({ cls := "ChalkCastleModel", name := "leastFallen", desc := "(III)I" } : Jvm.MethodName) prog_9_method_60_code (10 : Nat) (Option.some Jvm.ClassFile.FieldType.int) ∈ lw_g := g_in (in_t5 (List.mem_of_getElem? (i := 33) (by rfl))) rfl
set_option maxRecDepth 20000 in
theorem tw_994 : Jvm.Cond.methodLink "ChalkCastleModel" (252 : Nat) ({ cls := "ChalkCastleModel", name := "bits", desc := "(I)I" } : Jvm.MethodName) ∈ lw_g := g_in (in_t5 (List.mem_of_getElem? (i := 34) (by rfl))) rfl
set_option maxRecDepth 20000 in
theorem tw_995 : Jvm.Cond.static ({ cls := "ChalkCastleModel", name := "bits", desc := "(I)I" } : Jvm.MethodName) ∈ lw_g := g_in (in_t5 (List.mem_of_getElem? (i := 35) (by rfl))) rfl
set_option maxRecDepth 20000 in
theorem tw_996 : Jvm.Cond.code ({ cls := "ChalkCastleModel", name := "bits", desc := "(I)I" } : Jvm.MethodName) prog_9_method_4_code (3 : Nat) (Option.some Jvm.ClassFile.FieldType.int) ∈ lw_g := g_in (in_t5 (List.mem_of_getElem? (i := 36) (by rfl))) rfl
set_option maxRecDepth 20000 in
theorem tw_997 : Jvm.Cond.methodLink "ChalkCastleModel" (255 : Nat) ({ cls := "ChalkCastleModel", name := "chalkBut", desc := "(I)I" } : Jvm.MethodName) ∈ lw_g := g_in (in_t5 (List.mem_of_getElem? (i := 37) (by rfl))) rfl
set_option maxRecDepth 20000 in
theorem tw_999 : Jvm.Cond.instanceMethod ({ cls := "ChalkCastleModel", name := "chalkBut", desc := "(I)I" } : Jvm.MethodName) ∈ lw_g := g_in (in_t5 (List.mem_of_getElem? (i := 39) (by rfl))) rfl
set_option maxRecDepth 20000 in
theorem tw_1000 : Jvm.Cond.code ({ cls := "ChalkCastleModel", name := "chalkBut", desc := "(I)I" } : Jvm.MethodName) prog_9_method_59_code (4 : Nat) (Option.some Jvm.ClassFile.FieldType.int) ∈ lw_g := g_in (in_t5 (List.mem_of_getElem? (i := 40) (by rfl))) rfl
set_option maxRecDepth 20000 in
theorem tw_1002 : Jvm.Cond.instanceMethod ({ cls := "ChalkCastleModel", name := "must", desc := "()I" } : Jvm.MethodName) ∈ lw_g := g_in (in_t5 (List.mem_of_getElem? (i := 42) (by rfl))) rfl
set_option maxRecDepth 20000 in
theorem tw_1004 : Jvm.Cond.code ({ cls := "ChalkCastleModel", name := "must", desc := "()I" } : Jvm.MethodName) prog_9_method_61_code (5 : Nat) (Option.some Jvm.ClassFile.FieldType.int) ∈ lw_g := g_in (in_t5 (List.mem_of_getElem? (i := 44) (by rfl))) rfl
set_option maxRecDepth 20000 in
theorem tw_1006 : Jvm.Cond.instanceMethod ({ cls := "ChalkCastleModel", name := "writings", desc := "(IIII)I" } : Jvm.MethodName) ∈ lw_g := g_in (in_t5 (List.mem_of_getElem? (i := 46) (by rfl))) rfl
set_option maxRecDepth 20000 in
theorem tw_1008 : Jvm.Cond.code ({ cls := "ChalkCastleModel", name := "writings", desc := "(IIII)I" } : Jvm.MethodName) prog_9_method_63_code (10 : Nat) (Option.some Jvm.ClassFile.FieldType.int) ∈ lw_g := g_in (in_t5 (List.mem_of_getElem? (i := 48) (by rfl))) rfl
set_option maxRecDepth 20000 in
theorem tw_1009 : Jvm.Cond.methodLink "ChalkCastleModel" (258 : Nat) ({ cls := "ChalkCastleModel", name := "itemAt", desc := "(II)I" } : Jvm.MethodName) ∈ lw_g := g_in (in_t5 (List.mem_of_getElem? (i := 49) (by rfl))) rfl
set_option maxRecDepth 20000 in
theorem tw_1011 : Jvm.Cond.instanceMethod ({ cls := "ChalkCastleModel", name := "itemAt", desc := "(II)I" } : Jvm.MethodName) ∈ lw_g := g_in (in_t5 (List.mem_of_getElem? (i := 51) (by rfl))) rfl
set_option maxRecDepth 20000 in
theorem tw_1012 : Jvm.Cond.code ({ cls := "ChalkCastleModel", name := "itemAt", desc := "(II)I" } : Jvm.MethodName) prog_9_method_16_code (3 : Nat) (Option.some Jvm.ClassFile.FieldType.int) ∈ lw_g := g_in (in_t5 (List.mem_of_getElem? (i := 52) (by rfl))) rfl
set_option maxRecDepth 20000 in
theorem tw_1013 : Jvm.Cond.methodLink "ChalkCastleModel" (261 : Nat) ({ cls := "ChalkCastleModel", name := "standingBy", desc := "(IIII)I" } : Jvm.MethodName) ∈ lw_g := g_in (in_t5 (List.mem_of_getElem? (i := 53) (by rfl))) rfl
set_option maxRecDepth 20000 in
theorem tw_1015 : Jvm.Cond.instanceMethod ({ cls := "ChalkCastleModel", name := "standingBy", desc := "(IIII)I" } : Jvm.MethodName) ∈ lw_g := g_in (in_t5 (List.mem_of_getElem? (i := 55) (by rfl))) rfl
set_option maxRecDepth 20000 in
theorem tw_1016 : Jvm.Cond.code ({ cls := "ChalkCastleModel", name := "standingBy", desc := "(IIII)I" } : Jvm.MethodName) prog_9_method_62_code (7 : Nat) (Option.some Jvm.ClassFile.FieldType.int) ∈ lw_g := g_in (in_t5 (List.mem_of_getElem? (i := 56) (by rfl))) rfl
set_option maxRecDepth 20000 in
theorem tw_1018 : Jvm.Cond.instanceMethod ({ cls := "ChalkCastleModel", name := "from", desc := "(III)I" } : Jvm.MethodName) ∈ lw_g := g_in (in_t5 (List.mem_of_getElem? (i := 58) (by rfl))) rfl
set_option maxRecDepth 20000 in
theorem tw_1020 : Jvm.Cond.code ({ cls := "ChalkCastleModel", name := "from", desc := "(III)I" } : Jvm.MethodName) prog_9_method_65_code (9 : Nat) (Option.some Jvm.ClassFile.FieldType.int) ∈ lw_g := g_in (in_t5 (List.mem_of_getElem? (i := 60) (by rfl))) rfl
set_option maxRecDepth 20000 in
theorem tw_1021 : Jvm.Cond.methodLink "ChalkCastleModel" (264 : Nat) ({ cls := "ChalkCastleModel", name := "isLeft", desc := "(IIII)Z" } : Jvm.MethodName) ∈ lw_g := g_in (in_t5 (List.mem_of_getElem? (i := 61) (by rfl))) rfl
set_option maxRecDepth 20000 in
theorem tw_1023 : Jvm.Cond.instanceMethod ({ cls := "ChalkCastleModel", name := "isLeft", desc := "(IIII)Z" } : Jvm.MethodName) ∈ lw_g := g_in (in_t5 (List.mem_of_getElem? (i := 63) (by rfl))) rfl
set_option maxRecDepth 20000 in
theorem tw_1024 : Jvm.Cond.code ({ cls := "ChalkCastleModel", name := "isLeft", desc := "(IIII)Z" } : Jvm.MethodName) prog_9_method_64_code (7 : Nat) (Option.some Jvm.ClassFile.FieldType.boolean) ∈ lw_g := g_in (in_t5 (List.mem_of_getElem? (i := 64) (by rfl))) rfl
set_option maxRecDepth 20000 in
theorem tw_1026 : Jvm.Cond.instanceMethod ({ cls := "ChalkCastleModel", name := "who", desc := "(IIII)I" } : Jvm.MethodName) ∈ lw_g := g_in (in_t5 (List.mem_of_getElem? (i := 66) (by rfl))) rfl
set_option maxRecDepth 20000 in
theorem tw_1028 : Jvm.Cond.code ({ cls := "ChalkCastleModel", name := "who", desc := "(IIII)I" } : Jvm.MethodName) prog_9_method_66_code (9 : Nat) (Option.some Jvm.ClassFile.FieldType.int) ∈ lw_g := g_in (in_t5 (List.mem_of_getElem? (i := 68) (by rfl))) rfl
set_option maxRecDepth 20000 in
theorem tw_1030 : Jvm.Cond.instanceMethod ({ cls := "ChalkCastleModel", name := "layer", desc := "(I)I" } : Jvm.MethodName) ∈ lw_g := g_in (in_t5 (List.mem_of_getElem? (i := 70) (by rfl))) rfl
set_option maxRecDepth 20000 in
theorem tw_1032 : Jvm.Cond.code ({ cls := "ChalkCastleModel", name := "layer", desc := "(I)I" } : Jvm.MethodName) prog_9_method_67_code (5 : Nat) (Option.some Jvm.ClassFile.FieldType.int) ∈ lw_g := g_in (in_t5 (List.mem_of_getElem? (i := 72) (by rfl))) rfl
set_option maxRecDepth 20000 in
theorem tw_1034 : Jvm.Cond.instanceMethod ({ cls := "ChalkCastleModel", name := "longest", desc := "(II)I" } : Jvm.MethodName) ∈ lw_g := g_in (in_t5 (List.mem_of_getElem? (i := 74) (by rfl))) rfl
set_option maxRecDepth 20000 in
theorem tw_1036 : Jvm.Cond.code ({ cls := "ChalkCastleModel", name := "longest", desc := "(II)I" } : Jvm.MethodName) prog_9_method_68_code (7 : Nat) (Option.some Jvm.ClassFile.FieldType.int) ∈ lw_g := g_in (in_t5 (List.mem_of_getElem? (i := 76) (by rfl))) rfl
set_option maxRecDepth 20000 in
theorem tw_1038 : Jvm.Cond.instanceMethod ({ cls := "ChalkCastleModel", name := "rains", desc := "(III)J" } : Jvm.MethodName) ∈ lw_g := g_in (in_t5 (List.mem_of_getElem? (i := 78) (by rfl))) rfl
set_option maxRecDepth 20000 in
theorem tw_1040 : Jvm.Cond.code ({ cls := "ChalkCastleModel", name := "rains", desc := "(III)J" } : Jvm.MethodName) prog_9_method_70_code (12 : Nat) (Option.some Jvm.ClassFile.FieldType.long) ∈ lw_g := g_in (in_t5 (List.mem_of_getElem? (i := 80) (by rfl))) rfl
set_option maxRecDepth 20000 in
theorem tw_1041 : Jvm.Cond.constantLong "ChalkCastleModel" (268 : Nat) (-1000001 : Int64) ∈ lw_g := g_in (in_t5 (List.mem_of_getElem? (i := 81) (by rfl))) rfl
set_option maxRecDepth 20000 in
theorem tw_1042 : Jvm.Cond.constantLong "ChalkCastleModel" (270 : Nat) (10 : Int64) ∈ lw_g := g_in (in_t5 (List.mem_of_getElem? (i := 82) (by rfl))) rfl
set_option maxRecDepth 20000 in
theorem tw_1043 : Jvm.Cond.methodLink "ChalkCastleModel" (272 : Nat) ({ cls := "ChalkCastleModel", name := "common", desc := "(JJ)J" } : Jvm.MethodName) ∈ lw_g := g_in (in_t5 (List.mem_of_getElem? (i := 83) (by rfl))) rfl
set_option maxRecDepth 20000 in
theorem tw_1044 : Jvm.Cond.static ({ cls := "ChalkCastleModel", name := "common", desc := "(JJ)J" } : Jvm.MethodName) ∈ lw_g := g_in (in_t5 (List.mem_of_getElem? (i := 84) (by rfl))) rfl
set_option maxRecDepth 20000 in
theorem tw_1045 : Jvm.Cond.code ({ cls := "ChalkCastleModel", name := "common", desc := "(JJ)J" } : Jvm.MethodName) prog_9_method_69_code (10 : Nat) (Option.some Jvm.ClassFile.FieldType.long) ∈ lw_g := g_in (in_t5 (List.mem_of_getElem? (i := 85) (by rfl))) rfl
set_option maxRecDepth 20000 in
theorem tw_1047 : Jvm.Cond.instanceMethod ({ cls := "ChalkCastleModel", name := "share", desc := "(II)I" } : Jvm.MethodName) ∈ lw_g := g_in (in_t5 (List.mem_of_getElem? (i := 87) (by rfl))) rfl
set_option maxRecDepth 20000 in
theorem tw_1049 : Jvm.Cond.code ({ cls := "ChalkCastleModel", name := "share", desc := "(II)I" } : Jvm.MethodName) prog_9_method_71_code (6 : Nat) (Option.some Jvm.ClassFile.FieldType.int) ∈ lw_g := g_in (in_t5 (List.mem_of_getElem? (i := 89) (by rfl))) rfl
set_option maxRecDepth 20000 in
theorem tw_1051 : Jvm.Cond.instanceMethod ({ cls := "ChalkCastleModel", name := "drawn", desc := "(III)I" } : Jvm.MethodName) ∈ lw_g := g_in (in_t5 (List.mem_of_getElem? (i := 91) (by rfl))) rfl
set_option maxRecDepth 20000 in
theorem tw_1053 : Jvm.Cond.code ({ cls := "ChalkCastleModel", name := "drawn", desc := "(III)I" } : Jvm.MethodName) prog_9_method_72_code (7 : Nat) (Option.some Jvm.ClassFile.FieldType.int) ∈ lw_g := g_in (in_t5 (List.mem_of_getElem? (i := 93) (by rfl))) rfl
set_option maxRecDepth 20000 in
theorem tw_1054 : Jvm.Cond.constant "ChalkCastleModel" (276 : Nat) (999999 : Int32) ∈ lw_g := g_in (in_t5 (List.mem_of_getElem? (i := 94) (by rfl))) rfl
set_option maxRecDepth 20000 in
theorem tw_1055 : Jvm.Cond.constantLong "ChalkCastleModel" (277 : Nat) (16807 : Int64) ∈ lw_g := g_in (in_t5 (List.mem_of_getElem? (i := 95) (by rfl))) rfl
set_option maxRecDepth 20000 in
theorem tw_1056 : Jvm.Cond.constantLong "ChalkCastleModel" (279 : Nat) (2147483647 : Int64) ∈ lw_g := g_in (in_t5 (List.mem_of_getElem? (i := 96) (by rfl))) rfl
set_option maxRecDepth 20000 in
theorem tw_1057 : Jvm.Cond.constantLong "ChalkCastleModel" (281 : Nat) (5 : Int64) ∈ lw_g := g_in (in_t5 (List.mem_of_getElem? (i := 97) (by rfl))) rfl
set_option maxRecDepth 20000 in
theorem tw_1058 : Jvm.Cond.constantLong "ChalkCastleModel" (283 : Nat) (4 : Int64) ∈ lw_g := g_in (in_t5 (List.mem_of_getElem? (i := 98) (by rfl))) rfl
set_option maxRecDepth 20000 in
theorem tw_1060 : Jvm.Cond.instanceMethod ({ cls := "ChalkCastleModel", name := "image", desc := "(I)I" } : Jvm.MethodName) ∈ lw_g := g_in (in_t5 (List.mem_of_getElem? (i := 100) (by rfl))) rfl
set_option maxRecDepth 20000 in
theorem tw_1062 : Jvm.Cond.code ({ cls := "ChalkCastleModel", name := "image", desc := "(I)I" } : Jvm.MethodName) prog_9_method_73_code (3 : Nat) (Option.some Jvm.ClassFile.FieldType.int) ∈ lw_g := g_in (in_t5 (List.mem_of_getElem? (i := 102) (by rfl))) rfl
set_option maxRecDepth 20000 in
theorem tw_1064 : Jvm.Cond.instanceMethod ({ cls := "ChalkCastleModel", name := "restore", desc := "(I)I" } : Jvm.MethodName) ∈ lw_g := g_in (in_t5 (List.mem_of_getElem? (i := 104) (by rfl))) rfl
set_option maxRecDepth 20000 in
theorem tw_1066 : Jvm.Cond.code ({ cls := "ChalkCastleModel", name := "restore", desc := "(I)I" } : Jvm.MethodName) prog_9_method_74_code (3 : Nat) (Option.some Jvm.ClassFile.FieldType.int) ∈ lw_g := g_in (in_t5 (List.mem_of_getElem? (i := 106) (by rfl))) rfl
set_option maxRecDepth 20000 in
theorem tw_1068 : Jvm.Cond.instanceMethod ({ cls := "ChalkCastleModel", name := "kind", desc := "(I)I" } : Jvm.MethodName) ∈ lw_g := g_in (in_t5 (List.mem_of_getElem? (i := 108) (by rfl))) rfl
set_option maxRecDepth 20000 in
theorem tw_1070 : Jvm.Cond.code ({ cls := "ChalkCastleModel", name := "kind", desc := "(I)I" } : Jvm.MethodName) prog_9_method_75_code (2 : Nat) (Option.some Jvm.ClassFile.FieldType.int) ∈ lw_g := g_in (in_t5 (List.mem_of_getElem? (i := 110) (by rfl))) rfl
set_option maxRecDepth 20000 in
theorem tw_1072 : Jvm.Cond.instanceMethod ({ cls := "ChalkCastleModel", name := "as", desc := "(II)I" } : Jvm.MethodName) ∈ lw_g := g_in (in_t5 (List.mem_of_getElem? (i := 112) (by rfl))) rfl
set_option maxRecDepth 20000 in
theorem tw_1074 : Jvm.Cond.code ({ cls := "ChalkCastleModel", name := "as", desc := "(II)I" } : Jvm.MethodName) prog_9_method_77_code (3 : Nat) (Option.some Jvm.ClassFile.FieldType.int) ∈ lw_g := g_in (in_t5 (List.mem_of_getElem? (i := 114) (by rfl))) rfl
set_option maxRecDepth 20000 in
theorem tw_1075 : Jvm.Cond.methodLink "ChalkCastleModel" (285 : Nat) ({ cls := "ChalkCastleModel", name := "isOf", desc := "(II)Z" } : Jvm.MethodName) ∈ lw_g := g_in (in_t5 (List.mem_of_getElem? (i := 115) (by rfl))) rfl
set_option maxRecDepth 20000 in
theorem tw_1077 : Jvm.Cond.instanceMethod ({ cls := "ChalkCastleModel", name := "isOf", desc := "(II)Z" } : Jvm.MethodName) ∈ lw_g := g_in (in_t5 (List.mem_of_getElem? (i := 117) (by rfl))) rfl
set_option maxRecDepth 20000 in
theorem tw_1078 : Jvm.Cond.code ({ cls := "ChalkCastleModel", name := "isOf", desc := "(II)Z" } : Jvm.MethodName) prog_9_method_76_code (4 : Nat) (Option.some Jvm.ClassFile.FieldType.boolean) ∈ lw_g := g_in (in_t5 (List.mem_of_getElem? (i := 118) (by rfl))) rfl
set_option maxRecDepth 20000 in
theorem tw_1080 : Jvm.Cond.instanceMethod ({ cls := "ChalkCastleModel", name := "ask", desc := "(II)I" } : Jvm.MethodName) ∈ lw_g := g_in (in_t5 (List.mem_of_getElem? (i := 120) (by rfl))) rfl
set_option maxRecDepth 20000 in
theorem tw_1082 : Jvm.Cond.code ({ cls := "ChalkCastleModel", name := "ask", desc := "(II)I" } : Jvm.MethodName) prog_9_method_87_code (3 : Nat) (Option.some Jvm.ClassFile.FieldType.int) ∈ lw_g := g_in (in_t5 (List.mem_of_getElem? (i := 122) (by rfl))) rfl
set_option maxRecDepth 20000 in
theorem tw_1083 : Jvm.Cond.methodLink "ChalkCastleModel" (316 : Nat) ({ cls := "ChalkCastleModel", name := "sizeOf", desc := "(I)I" } : Jvm.MethodName) ∈ lw_g := g_in (in_t5 (List.mem_of_getElem? (i := 123) (by rfl))) rfl
set_option maxRecDepth 20000 in
theorem tw_1085 : Jvm.Cond.instanceMethod ({ cls := "ChalkCastleModel", name := "sizeOf", desc := "(I)I" } : Jvm.MethodName) ∈ lw_g := g_in (in_t5 (List.mem_of_getElem? (i := 125) (by rfl))) rfl
set_option maxRecDepth 20000 in
theorem tw_1086 : Jvm.Cond.code ({ cls := "ChalkCastleModel", name := "sizeOf", desc := "(I)I" } : Jvm.MethodName) prog_9_method_86_code (2 : Nat) (Option.some Jvm.ClassFile.FieldType.int) ∈ lw_g := g_in (in_t5 (List.mem_of_getElem? (i := 126) (by rfl))) rfl
set_option maxRecDepth 20000 in
theorem tw_1087 : Jvm.Cond.methodLink "ChalkCastleModel" (313 : Nat) ({ cls := "ChalkCastleModel", name := "body11", desc := "(I)I" } : Jvm.MethodName) ∈ lw_g := g_in (in_t5 (List.mem_of_getElem? (i := 127) (by rfl))) rfl
set_option maxRecDepth 20000 in
theorem tw_1089 : Jvm.Cond.instanceMethod ({ cls := "ChalkCastleModel", name := "body11", desc := "(I)I" } : Jvm.MethodName) ∈ lw_g := g_in (in_t5 (List.mem_of_getElem? (i := 129) (by rfl))) rfl
set_option maxRecDepth 20000 in
theorem tw_1090 : Jvm.Cond.code ({ cls := "ChalkCastleModel", name := "body11", desc := "(I)I" } : Jvm.MethodName) prog_9_method_85_code (2 : Nat) (Option.some Jvm.ClassFile.FieldType.int) ∈ lw_g := g_in (in_t5 (List.mem_of_getElem? (i := 130) (by rfl))) rfl
set_option maxRecDepth 20000 in
theorem tw_1091 : Jvm.Cond.methodLink "ChalkCastleModel" (291 : Nat) ({ cls := "ChalkCastleModel", name := "leaves", desc := "(I)V" } : Jvm.MethodName) ∈ lw_g := g_in (in_t5 (List.mem_of_getElem? (i := 131) (by rfl))) rfl
set_option maxRecDepth 20000 in
theorem tw_1093 : Jvm.Cond.instanceMethod ({ cls := "ChalkCastleModel", name := "leaves", desc := "(I)V" } : Jvm.MethodName) ∈ lw_g := g_in (in_t5 (List.mem_of_getElem? (i := 133) (by rfl))) rfl
set_option maxRecDepth 20000 in
theorem tw_1094 : Jvm.Cond.code ({ cls := "ChalkCastleModel", name := "leaves", desc := "(I)V" } : Jvm.MethodName) prog_9_method_78_code (2 : Nat) (Option.none : Option Jvm.ClassFile.FieldType) ∈ lw_g := g_in (in_t5 (List.mem_of_getElem? (i := 134) (by rfl))) rfl
set_option maxRecDepth 20000 in
theorem tw_1095 : Jvm.Cond.methodLink "ChalkCastleModel" (295 : Nat) ({ cls := "ChalkCastleModel", name := "body10", desc := "(I)I" } : Jvm.MethodName) ∈ lw_g := g_in (in_t5 (List.mem_of_getElem? (i := 135) (by rfl))) rfl
set_option maxRecDepth 20000 in
theorem tw_1097 : Jvm.Cond.instanceMethod ({ cls := "ChalkCastleModel", name := "body10", desc := "(I)I" } : Jvm.MethodName) ∈ lw_g := g_in (in_t5 (List.mem_of_getElem? (i := 137) (by rfl))) rfl
set_option maxRecDepth 20000 in
theorem tw_1098 : Jvm.Cond.code ({ cls := "ChalkCastleModel", name := "body10", desc := "(I)I" } : Jvm.MethodName) prog_9_method_79_code (2 : Nat) (Option.some Jvm.ClassFile.FieldType.int) ∈ lw_g := g_in (in_t5 (List.mem_of_getElem? (i := 138) (by rfl))) rfl
set_option maxRecDepth 20000 in
theorem tw_1099 : Jvm.Cond.methodLink "ChalkCastleModel" (310 : Nat) ({ cls := "ChalkCastleModel", name := "markOf", desc := "(I)I" } : Jvm.MethodName) ∈ lw_g := g_in (in_t5 (List.mem_of_getElem? (i := 139) (by rfl))) rfl
set_option maxRecDepth 20000 in
theorem tw_1101 : Jvm.Cond.instanceMethod ({ cls := "ChalkCastleModel", name := "markOf", desc := "(I)I" } : Jvm.MethodName) ∈ lw_g := g_in (in_t5 (List.mem_of_getElem? (i := 141) (by rfl))) rfl
set_option maxRecDepth 20000 in
theorem tw_1102 : Jvm.Cond.code ({ cls := "ChalkCastleModel", name := "markOf", desc := "(I)I" } : Jvm.MethodName) prog_9_method_84_code (2 : Nat) (Option.some Jvm.ClassFile.FieldType.int) ∈ lw_g := g_in (in_t5 (List.mem_of_getElem? (i := 142) (by rfl))) rfl
set_option maxRecDepth 20000 in
theorem tw_1103 : Jvm.Cond.methodLink "ChalkCastleModel" (304 : Nat) ({ cls := "ChalkCastleModel", name := "body21", desc := "(I)I" } : Jvm.MethodName) ∈ lw_g := g_in (in_t5 (List.mem_of_getElem? (i := 143) (by rfl))) rfl
set_option maxRecDepth 20000 in
theorem tw_1105 : Jvm.Cond.instanceMethod ({ cls := "ChalkCastleModel", name := "body21", desc := "(I)I" } : Jvm.MethodName) ∈ lw_g := g_in (in_t5 (List.mem_of_getElem? (i := 145) (by rfl))) rfl
set_option maxRecDepth 20000 in
theorem tw_1106 : Jvm.Cond.code ({ cls := "ChalkCastleModel", name := "body21", desc := "(I)I" } : Jvm.MethodName) prog_9_method_83_code (2 : Nat) (Option.some Jvm.ClassFile.FieldType.int) ∈ lw_g := g_in (in_t5 (List.mem_of_getElem? (i := 146) (by rfl))) rfl
set_option maxRecDepth 20000 in
theorem tw_1107 : Jvm.Cond.methodLink "ChalkCastleModel" (301 : Nat) ({ cls := "ChalkCastleModel", name := "body20", desc := "(I)I" } : Jvm.MethodName) ∈ lw_g := g_in (in_t5 (List.mem_of_getElem? (i := 147) (by rfl))) rfl
set_option maxRecDepth 20000 in
theorem tw_1109 : Jvm.Cond.instanceMethod ({ cls := "ChalkCastleModel", name := "body20", desc := "(I)I" } : Jvm.MethodName) ∈ lw_g := g_in (in_t5 (List.mem_of_getElem? (i := 149) (by rfl))) rfl
set_option maxRecDepth 20000 in
theorem tw_1110 : Jvm.Cond.code ({ cls := "ChalkCastleModel", name := "body20", desc := "(I)I" } : Jvm.MethodName) prog_9_method_82_code (2 : Nat) (Option.some Jvm.ClassFile.FieldType.int) ∈ lw_g := g_in (in_t5 (List.mem_of_getElem? (i := 150) (by rfl))) rfl
set_option maxRecDepth 20000 in
theorem tw_1111 : Jvm.Cond.methodLink "ChalkCastleModel" (307 : Nat) ({ cls := "ChalkCastleModel", name := "boySize", desc := "(I)I" } : Jvm.MethodName) ∈ lw_g := g_in (in_t5 (List.mem_of_getElem? (i := 151) (by rfl))) rfl
set_option maxRecDepth 20000 in
theorem tw_1113 : Jvm.Cond.instanceMethod ({ cls := "ChalkCastleModel", name := "boySize", desc := "(I)I" } : Jvm.MethodName) ∈ lw_g := g_in (in_t5 (List.mem_of_getElem? (i := 153) (by rfl))) rfl
set_option maxRecDepth 20000 in
theorem tw_1114 : Jvm.Cond.code ({ cls := "ChalkCastleModel", name := "boySize", desc := "(I)I" } : Jvm.MethodName) prog_9_method_81_code (2 : Nat) (Option.some Jvm.ClassFile.FieldType.int) ∈ lw_g := g_in (in_t5 (List.mem_of_getElem? (i := 154) (by rfl))) rfl
set_option maxRecDepth 20000 in
theorem tw_1115 : Jvm.Cond.methodLink "ChalkCastleModel" (298 : Nat) ({ cls := "ChalkCastleModel", name := "body13", desc := "(I)I" } : Jvm.MethodName) ∈ lw_g := g_in (in_t5 (List.mem_of_getElem? (i := 155) (by rfl))) rfl
set_option maxRecDepth 20000 in
theorem tw_1117 : Jvm.Cond.instanceMethod ({ cls := "ChalkCastleModel", name := "body13", desc := "(I)I" } : Jvm.MethodName) ∈ lw_g := g_in (in_t5 (List.mem_of_getElem? (i := 157) (by rfl))) rfl
set_option maxRecDepth 20000 in
theorem tw_1118 : Jvm.Cond.code ({ cls := "ChalkCastleModel", name := "body13", desc := "(I)I" } : Jvm.MethodName) prog_9_method_80_code (2 : Nat) (Option.some Jvm.ClassFile.FieldType.int) ∈ lw_g := g_in (in_t5 (List.mem_of_getElem? (i := 158) (by rfl))) rfl
set_option maxRecDepth 20000 in
theorem tw_1120 : Jvm.Cond.instanceMethod ({ cls := "ChalkCastleModel", name := "trace", desc := "(I)I" } : Jvm.MethodName) ∈ lw_g := g_in (in_t5 (List.mem_of_getElem? (i := 160) (by rfl))) rfl
set_option maxRecDepth 20000 in
theorem tw_1122 : Jvm.Cond.code ({ cls := "ChalkCastleModel", name := "trace", desc := "(I)I" } : Jvm.MethodName) prog_9_method_88_code (2 : Nat) (Option.some Jvm.ClassFile.FieldType.int) ∈ lw_g := g_in (in_t5 (List.mem_of_getElem? (i := 162) (by rfl))) rfl
set_option maxRecDepth 20000 in
theorem tw_1124 : Jvm.Cond.instanceMethod ({ cls := "ChalkCastleModel", name := "count", desc := "(I)I" } : Jvm.MethodName) ∈ lw_g := g_in (in_t5 (List.mem_of_getElem? (i := 164) (by rfl))) rfl
set_option maxRecDepth 20000 in
theorem tw_1126 : Jvm.Cond.code ({ cls := "ChalkCastleModel", name := "count", desc := "(I)I" } : Jvm.MethodName) prog_9_method_89_code (4 : Nat) (Option.some Jvm.ClassFile.FieldType.int) ∈ lw_g := g_in (in_t5 (List.mem_of_getElem? (i := 166) (by rfl))) rfl
set_option maxRecDepth 20000 in
theorem sw_X0_begin : Jvm.Cond.selects "ChalkCastle$Asking" ({ cls := "ChalkCastle$Asking", name := "begin", desc := "(IIII)V" } : Jvm.MethodName) ({ cls := "ChalkCastle$Asking", name := "begin", desc := "(IIII)V" } : Jvm.MethodName) ∈ lw_g := g_in (in_t3 (List.mem_of_getElem? (i := 133) (by rfl))) rfl
set_option maxRecDepth 20000 in
theorem sw_X0_leave : Jvm.Cond.selects "ChalkCastle$Asking" ({ cls := "ChalkCastle$Asking", name := "leave", desc := "(I)V" } : Jvm.MethodName) ({ cls := "ChalkCastle$Asking", name := "leave", desc := "(I)V" } : Jvm.MethodName) ∈ lw_g := g_in (in_t3 (List.mem_of_getElem? (i := 147) (by rfl))) rfl
set_option maxRecDepth 20000 in
theorem sw_X1_hasBlock : Jvm.Cond.selects "ChalkCastle$Plan" ({ cls := "ChalkCastle$Plan", name := "hasBlock", desc := "(I)Z" } : Jvm.MethodName) ({ cls := "ChalkCastle$Plan", name := "hasBlock", desc := "(I)Z" } : Jvm.MethodName) ∈ lw_g := g_in (in_t2 (List.mem_of_getElem? (i := 144) (by rfl))) rfl
set_option maxRecDepth 20000 in
theorem sw_X1_hasClerk : Jvm.Cond.selects "ChalkCastle$Plan" ({ cls := "ChalkCastle$Plan", name := "hasClerk", desc := "(I)Z" } : Jvm.MethodName) ({ cls := "ChalkCastle$Plan", name := "hasClerk", desc := "(I)Z" } : Jvm.MethodName) ∈ lw_g := g_in (in_t2 (List.mem_of_getElem? (i := 136) (by rfl))) rfl
set_option maxRecDepth 20000 in
theorem sw_X1_areBlocks : Jvm.Cond.selects "ChalkCastle$Plan" ({ cls := "ChalkCastle$Plan", name := "areBlocks", desc := "(I)Z" } : Jvm.MethodName) ({ cls := "ChalkCastle$Plan", name := "areBlocks", desc := "(I)Z" } : Jvm.MethodName) ∈ lw_g := g_in (in_t2 (List.mem_of_getElem? (i := 232) (by rfl))) rfl
set_option maxRecDepth 20000 in
theorem sw_X1_above : Jvm.Cond.selects "ChalkCastle$Plan" ({ cls := "ChalkCastle$Plan", name := "above", desc := "(I)I" } : Jvm.MethodName) ({ cls := "ChalkCastle$Plan", name := "above", desc := "(I)I" } : Jvm.MethodName) ∈ lw_g := g_in (in_t2 (List.mem_of_getElem? (i := 188) (by rfl))) rfl
set_option maxRecDepth 20000 in
theorem sw_X1_standing : Jvm.Cond.selects "ChalkCastle$Plan" ({ cls := "ChalkCastle$Plan", name := "standing", desc := "(I)I" } : Jvm.MethodName) ({ cls := "ChalkCastle$Plan", name := "standing", desc := "(I)I" } : Jvm.MethodName) ∈ lw_g := g_in (in_t2 (List.mem_of_getElem? (i := 184) (by rfl))) rfl
set_option maxRecDepth 20000 in
theorem sw_X1_layerOf : Jvm.Cond.selects "ChalkCastle$Plan" ({ cls := "ChalkCastle$Plan", name := "layerOf", desc := "(I)I" } : Jvm.MethodName) ({ cls := "ChalkCastle$Plan", name := "layerOf", desc := "(I)I" } : Jvm.MethodName) ∈ lw_g := g_in (in_t3 (List.mem_of_getElem? (i := 70) (by rfl))) rfl
set_option maxRecDepth 20000 in
theorem sw_X1_chalkFor : Jvm.Cond.selects "ChalkCastle$Plan" ({ cls := "ChalkCastle$Plan", name := "chalkFor", desc := "(III)I" } : Jvm.MethodName) ({ cls := "ChalkCastle$Plan", name := "chalkFor", desc := "(III)I" } : Jvm.MethodName) ∈ lw_g := g_in (in_t2 (List.mem_of_getElem? (i := 148) (by rfl))) rfl
set_option maxRecDepth 20000 in
theorem sw_X1_letRain : Jvm.Cond.selects "ChalkCastle$Plan" ({ cls := "ChalkCastle$Plan", name := "letRain", desc := "(LChalkCastle$State;)V" } : Jvm.MethodName) ({ cls := "ChalkCastle$Plan", name := "letRain", desc := "(LChalkCastle$State;)V" } : Jvm.MethodName) ∈ lw_g := g_in (in_t2 (List.mem_of_getElem? (i := 176) (by rfl))) rfl
set_option maxRecDepth 20000 in
theorem sw_X2_readCastle : Jvm.Cond.selects "ChalkCastle$Reader" ({ cls := "ChalkCastle$Reader", name := "readCastle", desc := "()V" } : Jvm.MethodName) ({ cls := "ChalkCastle$Reader", name := "readCastle", desc := "()V" } : Jvm.MethodName) ∈ lw_g := g_in (in_t2 (List.mem_of_getElem? (i := 74) (by rfl))) rfl
set_option maxRecDepth 20000 in
theorem sw_X2_readLaw : Jvm.Cond.selects "ChalkCastle$Reader" ({ cls := "ChalkCastle$Reader", name := "readLaw", desc := "()V" } : Jvm.MethodName) ({ cls := "ChalkCastle$Reader", name := "readLaw", desc := "()V" } : Jvm.MethodName) ∈ lw_g := g_in (in_t2 (List.mem_of_getElem? (i := 78) (by rfl))) rfl
set_option maxRecDepth 20000 in
theorem sw_X2_readBlock : Jvm.Cond.selects "ChalkCastle$Reader" ({ cls := "ChalkCastle$Reader", name := "readBlock", desc := "()V" } : Jvm.MethodName) ({ cls := "ChalkCastle$Reader", name := "readBlock", desc := "()V" } : Jvm.MethodName) ∈ lw_g := g_in (in_t2 (List.mem_of_getElem? (i := 94) (by rfl))) rfl
set_option maxRecDepth 20000 in
theorem sw_X2_readRest : Jvm.Cond.selects "ChalkCastle$Reader" ({ cls := "ChalkCastle$Reader", name := "readRest", desc := "()V" } : Jvm.MethodName) ({ cls := "ChalkCastle$Reader", name := "readRest", desc := "()V" } : Jvm.MethodName) ∈ lw_g := g_in (in_t2 (List.mem_of_getElem? (i := 102) (by rfl))) rfl
set_option maxRecDepth 20000 in
theorem sw_X2_readClerk : Jvm.Cond.selects "ChalkCastle$Reader" ({ cls := "ChalkCastle$Reader", name := "readClerk", desc := "()V" } : Jvm.MethodName) ({ cls := "ChalkCastle$Reader", name := "readClerk", desc := "()V" } : Jvm.MethodName) ∈ lw_g := g_in (in_t2 (List.mem_of_getElem? (i := 109) (by rfl))) rfl
set_option maxRecDepth 20000 in
theorem sw_X2_letter : Jvm.Cond.selects "ChalkCastle$Reader" ({ cls := "ChalkCastle$Reader", name := "letter", desc := "()I" } : Jvm.MethodName) ({ cls := "ChalkCastle$Reader", name := "letter", desc := "()I" } : Jvm.MethodName) ∈ lw_g := g_in (in_t2 (List.mem_of_getElem? (i := 86) (by rfl))) rfl
set_option maxRecDepth 20000 in
theorem sw_X2_lookForRoom : Jvm.Cond.selects "ChalkCastle$Reader" ({ cls := "ChalkCastle$Reader", name := "lookForRoom", desc := "(III)V" } : Jvm.MethodName) ({ cls := "ChalkCastle$Reader", name := "lookForRoom", desc := "(III)V" } : Jvm.MethodName) ∈ lw_g := g_in (in_t2 (List.mem_of_getElem? (i := 98) (by rfl))) rfl
set_option maxRecDepth 20000 in
theorem sw_X2_readSign : Jvm.Cond.selects "ChalkCastle$Reader" ({ cls := "ChalkCastle$Reader", name := "readSign", desc := "(I)V" } : Jvm.MethodName) ({ cls := "ChalkCastle$Reader", name := "readSign", desc := "(I)V" } : Jvm.MethodName) ∈ lw_g := g_in (in_t2 (List.mem_of_getElem? (i := 82) (by rfl))) rfl
set_option maxRecDepth 20000 in
theorem sw_X2_readNumber : Jvm.Cond.selects "ChalkCastle$Reader" ({ cls := "ChalkCastle$Reader", name := "readNumber", desc := "(II)I" } : Jvm.MethodName) ({ cls := "ChalkCastle$Reader", name := "readNumber", desc := "(II)I" } : Jvm.MethodName) ∈ lw_g := g_in (in_t2 (List.mem_of_getElem? (i := 90) (by rfl))) rfl
set_option maxRecDepth 20000 in
theorem sw_X3_hasPlaces : Jvm.Cond.selects "ChalkCastle$Row" ({ cls := "ChalkCastle$Row", name := "hasPlaces", desc := "(II)Z" } : Jvm.MethodName) ({ cls := "ChalkCastle$Row", name := "hasPlaces", desc := "(II)Z" } : Jvm.MethodName) ∈ lw_g := g_in (in_t2 (List.mem_of_getElem? (i := 16) (by rfl))) rfl
set_option maxRecDepth 20000 in
theorem sw_X3_lowestBits : Jvm.Cond.selects "ChalkCastle$Row" ({ cls := "ChalkCastle$Row", name := "lowestBits", desc := "(I)I" } : Jvm.MethodName) ({ cls := "ChalkCastle$Row", name := "lowestBits", desc := "(I)I" } : Jvm.MethodName) ∈ lw_g := g_in (in_t2 (List.mem_of_getElem? (i := 20) (by rfl))) rfl
set_option maxRecDepth 20000 in
theorem sw_X4_begin : Jvm.Cond.selects "ChalkCastle$Search" ({ cls := "ChalkCastle$Search", name := "begin", desc := "(LChalkCastle$Plan;LChalkCastle$State;I)V" } : Jvm.MethodName) ({ cls := "ChalkCastle$Search", name := "begin", desc := "(LChalkCastle$Plan;LChalkCastle$State;I)V" } : Jvm.MethodName) ∈ lw_g := g_in (in_t3 (List.mem_of_getElem? (i := 27) (by rfl))) rfl
set_option maxRecDepth 20000 in
theorem sw_X4_standing : Jvm.Cond.selects "ChalkCastle$Search" ({ cls := "ChalkCastle$Search", name := "standing", desc := "()I" } : Jvm.MethodName) ({ cls := "ChalkCastle$Search", name := "standing", desc := "()I" } : Jvm.MethodName) ∈ lw_g := g_in (in_t3 (List.mem_of_getElem? (i := 40) (by rfl))) rfl
set_option maxRecDepth 20000 in
theorem sw_X4_keepWay : Jvm.Cond.selects "ChalkCastle$Search" ({ cls := "ChalkCastle$Search", name := "keepWay", desc := "()V" } : Jvm.MethodName) ({ cls := "ChalkCastle$Search", name := "keepWay", desc := "()V" } : Jvm.MethodName) ∈ lw_g := g_in (in_t3 (List.mem_of_getElem? (i := 36) (by rfl))) rfl
set_option maxRecDepth 20000 in
theorem sw_X5_begin : Jvm.Cond.selects "ChalkCastle$State" ({ cls := "ChalkCastle$State", name := "begin", desc := "(LChalkCastle$Plan;)V" } : Jvm.MethodName) ({ cls := "ChalkCastle$State", name := "begin", desc := "(LChalkCastle$Plan;)V" } : Jvm.MethodName) ∈ lw_g := g_in (in_t2 (List.mem_of_getElem? (i := 114) (by rfl))) rfl
set_option maxRecDepth 20000 in
theorem sw_X5_become : Jvm.Cond.selects "ChalkCastle$State" ({ cls := "ChalkCastle$State", name := "become", desc := "(LChalkCastle$State;)V" } : Jvm.MethodName) ({ cls := "ChalkCastle$State", name := "become", desc := "(LChalkCastle$State;)V" } : Jvm.MethodName) ∈ lw_g := g_in (in_t2 (List.mem_of_getElem? (i := 128) (by rfl))) rfl
set_option maxRecDepth 20000 in
theorem sw_X5_useUp : Jvm.Cond.selects "ChalkCastle$State" ({ cls := "ChalkCastle$State", name := "useUp", desc := "(II)V" } : Jvm.MethodName) ({ cls := "ChalkCastle$State", name := "useUp", desc := "(II)V" } : Jvm.MethodName) ∈ lw_g := g_in (in_t2 (List.mem_of_getElem? (i := 160) (by rfl))) rfl
set_option maxRecDepth 20000 in
theorem sw_X5_withChalk : Jvm.Cond.selects "ChalkCastle$State" ({ cls := "ChalkCastle$State", name := "withChalk", desc := "()I" } : Jvm.MethodName) ({ cls := "ChalkCastle$State", name := "withChalk", desc := "()I" } : Jvm.MethodName) ∈ lw_g := g_in (in_t2 (List.mem_of_getElem? (i := 180) (by rfl))) rfl
set_option maxRecDepth 20000 in
theorem sw_X5_allChalk : Jvm.Cond.selects "ChalkCastle$State" ({ cls := "ChalkCastle$State", name := "allChalk", desc := "()I" } : Jvm.MethodName) ({ cls := "ChalkCastle$State", name := "allChalk", desc := "()I" } : Jvm.MethodName) ∈ lw_g := g_in (in_t2 (List.mem_of_getElem? (i := 220) (by rfl))) rfl
set_option maxRecDepth 20000 in
theorem sw_X5_allLines : Jvm.Cond.selects "ChalkCastle$State" ({ cls := "ChalkCastle$State", name := "allLines", desc := "()I" } : Jvm.MethodName) ({ cls := "ChalkCastle$State", name := "allLines", desc := "()I" } : Jvm.MethodName) ∈ lw_g := g_in (in_t2 (List.mem_of_getElem? (i := 224) (by rfl))) rfl
set_option maxRecDepth 20000 in
theorem sw_X6_row : Jvm.Cond.selects "ChalkCastle" ({ cls := "ChalkCastle", name := "row", desc := "(III)I" } : Jvm.MethodName) ({ cls := "ChalkCastle", name := "row", desc := "(III)I" } : Jvm.MethodName) ∈ lw_g := g_in (in_t1 (List.mem_of_getElem? (i := 218) (by rfl))) rfl
set_option maxRecDepth 20000 in
theorem sw_X6_set : Jvm.Cond.selects "ChalkCastle" ({ cls := "ChalkCastle", name := "set", desc := "(III)I" } : Jvm.MethodName) ({ cls := "ChalkCastle", name := "set", desc := "(III)I" } : Jvm.MethodName) ∈ lw_g := g_in (in_t2 (List.mem_of_getElem? (i := 12) (by rfl))) rfl
set_option maxRecDepth 20000 in
theorem sw_X6_copy : Jvm.Cond.selects "ChalkCastle" ({ cls := "ChalkCastle", name := "copy", desc := "(IIIII)I" } : Jvm.MethodName) ({ cls := "ChalkCastle", name := "copy", desc := "(IIIII)I" } : Jvm.MethodName) ∈ lw_g := g_in (in_t2 (List.mem_of_getElem? (i := 24) (by rfl))) rfl
set_option maxRecDepth 20000 in
theorem sw_X6_drop : Jvm.Cond.selects "ChalkCastle" ({ cls := "ChalkCastle", name := "drop", desc := "(I)I" } : Jvm.MethodName) ({ cls := "ChalkCastle", name := "drop", desc := "(I)I" } : Jvm.MethodName) ∈ lw_g := g_in (in_t2 (List.mem_of_getElem? (i := 31) (by rfl))) rfl
set_option maxRecDepth 20000 in
theorem sw_X6_feed : Jvm.Cond.selects "ChalkCastle" ({ cls := "ChalkCastle", name := "feed", desc := "(I)I" } : Jvm.MethodName) ({ cls := "ChalkCastle", name := "feed", desc := "(I)I" } : Jvm.MethodName) ∈ lw_g := g_in (in_t2 (List.mem_of_getElem? (i := 35) (by rfl))) rfl
set_option maxRecDepth 20000 in
theorem sw_X6_castle : Jvm.Cond.selects "ChalkCastle" ({ cls := "ChalkCastle", name := "castle", desc := "()I" } : Jvm.MethodName) ({ cls := "ChalkCastle", name := "castle", desc := "()I" } : Jvm.MethodName) ∈ lw_g := g_in (in_t2 (List.mem_of_getElem? (i := 40) (by rfl))) rfl
set_option maxRecDepth 20000 in
theorem sw_X6_fault : Jvm.Cond.selects "ChalkCastle" ({ cls := "ChalkCastle", name := "fault", desc := "()I" } : Jvm.MethodName) ({ cls := "ChalkCastle", name := "fault", desc := "()I" } : Jvm.MethodName) ∈ lw_g := g_in (in_t2 (List.mem_of_getElem? (i := 119) (by rfl))) rfl
set_option maxRecDepth 20000 in
theorem sw_X6_undo : Jvm.Cond.selects "ChalkCastle" ({ cls := "ChalkCastle", name := "undo", desc := "()I" } : Jvm.MethodName) ({ cls := "ChalkCastle", name := "undo", desc := "()I" } : Jvm.MethodName) ∈ lw_g := g_in (in_t2 (List.mem_of_getElem? (i := 123) (by rfl))) rfl
set_option maxRecDepth 20000 in
theorem sw_X6_write : Jvm.Cond.selects "ChalkCastle" ({ cls := "ChalkCastle", name := "write", desc := "(III)I" } : Jvm.MethodName) ({ cls := "ChalkCastle", name := "write", desc := "(III)I" } : Jvm.MethodName) ∈ lw_g := g_in (in_t2 (List.mem_of_getElem? (i := 132) (by rfl))) rfl
set_option maxRecDepth 20000 in
theorem sw_X6_rub : Jvm.Cond.selects "ChalkCastle" ({ cls := "ChalkCastle", name := "rub", desc := "(II)I" } : Jvm.MethodName) ({ cls := "ChalkCastle", name := "rub", desc := "(II)I" } : Jvm.MethodName) ∈ lw_g := g_in (in_t2 (List.mem_of_getElem? (i := 164) (by rfl))) rfl
set_option maxRecDepth 20000 in
theorem sw_X6_rain : Jvm.Cond.selects "ChalkCastle" ({ cls := "ChalkCastle", name := "rain", desc := "()I" } : Jvm.MethodName) ({ cls := "ChalkCastle", name := "rain", desc := "()I" } : Jvm.MethodName) ∈ lw_g := g_in (in_t2 (List.mem_of_getElem? (i := 168) (by rfl))) rfl
set_option maxRecDepth 20000 in
theorem sw_X6_days : Jvm.Cond.selects "ChalkCastle" ({ cls := "ChalkCastle", name := "days", desc := "(I)I" } : Jvm.MethodName) ({ cls := "ChalkCastle", name := "days", desc := "(I)I" } : Jvm.MethodName) ∈ lw_g := g_in (in_t2 (List.mem_of_getElem? (i := 199) (by rfl))) rfl
set_option maxRecDepth 20000 in
theorem sw_X6_block : Jvm.Cond.selects "ChalkCastle" ({ cls := "ChalkCastle", name := "block", desc := "(II)I" } : Jvm.MethodName) ({ cls := "ChalkCastle", name := "block", desc := "(II)I" } : Jvm.MethodName) ∈ lw_g := g_in (in_t2 (List.mem_of_getElem? (i := 203) (by rfl))) rfl
set_option maxRecDepth 20000 in
theorem sw_X6_clerk : Jvm.Cond.selects "ChalkCastle" ({ cls := "ChalkCastle", name := "clerk", desc := "(II)I" } : Jvm.MethodName) ({ cls := "ChalkCastle", name := "clerk", desc := "(II)I" } : Jvm.MethodName) ∈ lw_g := g_in (in_t2 (List.mem_of_getElem? (i := 208) (by rfl))) rfl
set_option maxRecDepth 20000 in
theorem sw_X6_takes : Jvm.Cond.selects "ChalkCastle" ({ cls := "ChalkCastle", name := "takes", desc := "(II)I" } : Jvm.MethodName) ({ cls := "ChalkCastle", name := "takes", desc := "(II)I" } : Jvm.MethodName) ∈ lw_g := g_in (in_t2 (List.mem_of_getElem? (i := 212) (by rfl))) rfl
set_option maxRecDepth 20000 in
theorem sw_X6_stand : Jvm.Cond.selects "ChalkCastle" ({ cls := "ChalkCastle", name := "stand", desc := "(I)I" } : Jvm.MethodName) ({ cls := "ChalkCastle", name := "stand", desc := "(I)I" } : Jvm.MethodName) ∈ lw_g := g_in (in_t2 (List.mem_of_getElem? (i := 216) (by rfl))) rfl
set_option maxRecDepth 20000 in
theorem sw_X6_wouldFall : Jvm.Cond.selects "ChalkCastle" ({ cls := "ChalkCastle", name := "wouldFall", desc := "(I)I" } : Jvm.MethodName) ({ cls := "ChalkCastle", name := "wouldFall", desc := "(I)I" } : Jvm.MethodName) ∈ lw_g := g_in (in_t2 (List.mem_of_getElem? (i := 228) (by rfl))) rfl
set_option maxRecDepth 20000 in
theorem sw_X6_left : Jvm.Cond.selects "ChalkCastle" ({ cls := "ChalkCastle", name := "left", desc := "(I)I" } : Jvm.MethodName) ({ cls := "ChalkCastle", name := "left", desc := "(I)I" } : Jvm.MethodName) ∈ lw_g := g_in (in_t3 (List.mem_of_getElem? (i := 0) (by rfl))) rfl
set_option maxRecDepth 20000 in
theorem sw_X6_leastFallen : Jvm.Cond.selects "ChalkCastle" ({ cls := "ChalkCastle", name := "leastFallen", desc := "(III)I" } : Jvm.MethodName) ({ cls := "ChalkCastle", name := "leastFallen", desc := "(III)I" } : Jvm.MethodName) ∈ lw_g := g_in (in_t3 (List.mem_of_getElem? (i := 4) (by rfl))) rfl
set_option maxRecDepth 20000 in
theorem sw_X6_must : Jvm.Cond.selects "ChalkCastle" ({ cls := "ChalkCastle", name := "must", desc := "()I" } : Jvm.MethodName) ({ cls := "ChalkCastle", name := "must", desc := "()I" } : Jvm.MethodName) ∈ lw_g := g_in (in_t3 (List.mem_of_getElem? (i := 15) (by rfl))) rfl
set_option maxRecDepth 20000 in
theorem sw_X6_writings : Jvm.Cond.selects "ChalkCastle" ({ cls := "ChalkCastle", name := "writings", desc := "(IIII)I" } : Jvm.MethodName) ({ cls := "ChalkCastle", name := "writings", desc := "(IIII)I" } : Jvm.MethodName) ∈ lw_g := g_in (in_t3 (List.mem_of_getElem? (i := 19) (by rfl))) rfl
set_option maxRecDepth 20000 in
theorem sw_X6_from : Jvm.Cond.selects "ChalkCastle" ({ cls := "ChalkCastle", name := "from", desc := "(III)I" } : Jvm.MethodName) ({ cls := "ChalkCastle", name := "from", desc := "(III)I" } : Jvm.MethodName) ∈ lw_g := g_in (in_t3 (List.mem_of_getElem? (i := 49) (by rfl))) rfl
set_option maxRecDepth 20000 in
theorem sw_X6_who : Jvm.Cond.selects "ChalkCastle" ({ cls := "ChalkCastle", name := "who", desc := "(IIII)I" } : Jvm.MethodName) ({ cls := "ChalkCastle", name := "who", desc := "(IIII)I" } : Jvm.MethodName) ∈ lw_g := g_in (in_t3 (List.mem_of_getElem? (i := 57) (by rfl))) rfl
set_option maxRecDepth 20000 in
theorem sw_X6_layer : Jvm.Cond.selects "ChalkCastle" ({ cls := "ChalkCastle", name := "layer", desc := "(I)I" } : Jvm.MethodName) ({ cls := "ChalkCastle", name := "layer", desc := "(I)I" } : Jvm.MethodName) ∈ lw_g := g_in (in_t3 (List.mem_of_getElem? (i := 66) (by rfl))) rfl
set_option maxRecDepth 20000 in
theorem sw_X6_longest : Jvm.Cond.selects "ChalkCastle" ({ cls := "ChalkCastle", name := "longest", desc := "(II)I" } : Jvm.MethodName) ({ cls := "ChalkCastle", name := "longest", desc := "(II)I" } : Jvm.MethodName) ∈ lw_g := g_in (in_t3 (List.mem_of_getElem? (i := 74) (by rfl))) rfl
set_option maxRecDepth 20000 in
theorem sw_X6_rains : Jvm.Cond.selects "ChalkCastle" ({ cls := "ChalkCastle", name := "rains", desc := "(III)J" } : Jvm.MethodName) ({ cls := "ChalkCastle", name := "rains", desc := "(III)J" } : Jvm.MethodName) ∈ lw_g := g_in (in_t3 (List.mem_of_getElem? (i := 82) (by rfl))) rfl
set_option maxRecDepth 20000 in
theorem sw_X6_share : Jvm.Cond.selects "ChalkCastle" ({ cls := "ChalkCastle", name := "share", desc := "(II)I" } : Jvm.MethodName) ({ cls := "ChalkCastle", name := "share", desc := "(II)I" } : Jvm.MethodName) ∈ lw_g := g_in (in_t3 (List.mem_of_getElem? (i := 94) (by rfl))) rfl
set_option maxRecDepth 20000 in
theorem sw_X6_drawn : Jvm.Cond.selects "ChalkCastle" ({ cls := "ChalkCastle", name := "drawn", desc := "(III)I" } : Jvm.MethodName) ({ cls := "ChalkCastle", name := "drawn", desc := "(III)I" } : Jvm.MethodName) ∈ lw_g := g_in (in_t3 (List.mem_of_getElem? (i := 98) (by rfl))) rfl
set_option maxRecDepth 20000 in
theorem sw_X6_image : Jvm.Cond.selects "ChalkCastle" ({ cls := "ChalkCastle", name := "image", desc := "(I)I" } : Jvm.MethodName) ({ cls := "ChalkCastle", name := "image", desc := "(I)I" } : Jvm.MethodName) ∈ lw_g := g_in (in_t3 (List.mem_of_getElem? (i := 111) (by rfl))) rfl
set_option maxRecDepth 20000 in
theorem sw_X6_restore : Jvm.Cond.selects "ChalkCastle" ({ cls := "ChalkCastle", name := "restore", desc := "(I)I" } : Jvm.MethodName) ({ cls := "ChalkCastle", name := "restore", desc := "(I)I" } : Jvm.MethodName) ∈ lw_g := g_in (in_t3 (List.mem_of_getElem? (i := 115) (by rfl))) rfl
set_option maxRecDepth 20000 in
theorem sw_X6_kind : Jvm.Cond.selects "ChalkCastle" ({ cls := "ChalkCastle", name := "kind", desc := "(I)I" } : Jvm.MethodName) ({ cls := "ChalkCastle", name := "kind", desc := "(I)I" } : Jvm.MethodName) ∈ lw_g := g_in (in_t3 (List.mem_of_getElem? (i := 119) (by rfl))) rfl
set_option maxRecDepth 20000 in
theorem sw_X6_as : Jvm.Cond.selects "ChalkCastle" ({ cls := "ChalkCastle", name := "as", desc := "(II)I" } : Jvm.MethodName) ({ cls := "ChalkCastle", name := "as", desc := "(II)I" } : Jvm.MethodName) ∈ lw_g := g_in (in_t3 (List.mem_of_getElem? (i := 123) (by rfl))) rfl
set_option maxRecDepth 20000 in
theorem sw_X6_ask : Jvm.Cond.selects "ChalkCastle" ({ cls := "ChalkCastle", name := "ask", desc := "(II)I" } : Jvm.MethodName) ({ cls := "ChalkCastle", name := "ask", desc := "(II)I" } : Jvm.MethodName) ∈ lw_g := g_in (in_t3 (List.mem_of_getElem? (i := 129) (by rfl))) rfl
set_option maxRecDepth 20000 in
theorem sw_X6_trace : Jvm.Cond.selects "ChalkCastle" ({ cls := "ChalkCastle", name := "trace", desc := "(I)I" } : Jvm.MethodName) ({ cls := "ChalkCastle", name := "trace", desc := "(I)I" } : Jvm.MethodName) ∈ lw_g := g_in (in_t3 (List.mem_of_getElem? (i := 151) (by rfl))) rfl
set_option maxRecDepth 20000 in
theorem sw_X6_count : Jvm.Cond.selects "ChalkCastle" ({ cls := "ChalkCastle", name := "count", desc := "(I)I" } : Jvm.MethodName) ({ cls := "ChalkCastle", name := "count", desc := "(I)I" } : Jvm.MethodName) ∈ lw_g := g_in (in_t3 (List.mem_of_getElem? (i := 155) (by rfl))) rfl
set_option maxRecDepth 20000 in
theorem sw_X6_status : Jvm.Cond.selects "ChalkCastle" ({ cls := "ChalkCastle", name := "status", desc := "()I" } : Jvm.MethodName) ({ cls := "ChalkCastle", name := "status", desc := "()I" } : Jvm.MethodName) ∈ lw_g := g_in (in_t3 (List.mem_of_getElem? (i := 163) (by rfl))) rfl
set_option maxRecDepth 20000 in
theorem sw_X6_found : Jvm.Cond.selects "ChalkCastle" ({ cls := "ChalkCastle", name := "found", desc := "(I)I" } : Jvm.MethodName) ({ cls := "ChalkCastle", name := "found", desc := "(I)I" } : Jvm.MethodName) ∈ lw_g := g_in (in_t0 (List.mem_of_getElem? (i := 0) (by rfl))) rfl
set_option maxRecDepth 20000 in
theorem sw_X6_foundNone : Jvm.Cond.selects "ChalkCastle" ({ cls := "ChalkCastle", name := "foundNone", desc := "(I)I" } : Jvm.MethodName) ({ cls := "ChalkCastle", name := "foundNone", desc := "(I)I" } : Jvm.MethodName) ∈ lw_g := g_in (in_t0 (List.mem_of_getElem? (i := 1) (by rfl))) rfl
set_option maxRecDepth 20000 in
theorem sw_X6_hasCastle : Jvm.Cond.selects "ChalkCastle" ({ cls := "ChalkCastle", name := "hasCastle", desc := "()Z" } : Jvm.MethodName) ({ cls := "ChalkCastle", name := "hasCastle", desc := "()Z" } : Jvm.MethodName) ∈ lw_g := g_in (in_t0 (List.mem_of_getElem? (i := 3) (by rfl))) rfl
set_option maxRecDepth 20000 in
theorem sw_X6_rowsThere : Jvm.Cond.selects "ChalkCastle" ({ cls := "ChalkCastle", name := "rowsThere", desc := "()I" } : Jvm.MethodName) ({ cls := "ChalkCastle", name := "rowsThere", desc := "()I" } : Jvm.MethodName) ∈ lw_g := g_in (in_t0 (List.mem_of_getElem? (i := 11) (by rfl))) rfl
set_option maxRecDepth 20000 in
theorem sw_X6_beginAct : Jvm.Cond.selects "ChalkCastle" ({ cls := "ChalkCastle", name := "beginAct", desc := "()V" } : Jvm.MethodName) ({ cls := "ChalkCastle", name := "beginAct", desc := "()V" } : Jvm.MethodName) ∈ lw_g := g_in (in_t0 (List.mem_of_getElem? (i := 2) (by rfl))) rfl
set_option maxRecDepth 20000 in
theorem sw_X6_standingNow : Jvm.Cond.selects "ChalkCastle" ({ cls := "ChalkCastle", name := "standingNow", desc := "()I" } : Jvm.MethodName) ({ cls := "ChalkCastle", name := "standingNow", desc := "()I" } : Jvm.MethodName) ∈ lw_g := g_in (in_t0 (List.mem_of_getElem? (i := 4) (by rfl))) rfl
set_option maxRecDepth 20000 in
theorem sw_X6_fallingWithout : Jvm.Cond.selects "ChalkCastle" ({ cls := "ChalkCastle", name := "fallingWithout", desc := "(I)I" } : Jvm.MethodName) ({ cls := "ChalkCastle", name := "fallingWithout", desc := "(I)I" } : Jvm.MethodName) ∈ lw_g := g_in (in_t0 (List.mem_of_getElem? (i := 5) (by rfl))) rfl
set_option maxRecDepth 20000 in
theorem sw_X6_tellsWritings : Jvm.Cond.selects "ChalkCastle" ({ cls := "ChalkCastle", name := "tellsWritings", desc := "([III)Z" } : Jvm.MethodName) ({ cls := "ChalkCastle", name := "tellsWritings", desc := "([III)Z" } : Jvm.MethodName) ∈ lw_g := g_in (in_t0 (List.mem_of_getElem? (i := 6) (by rfl))) rfl
set_option maxRecDepth 20000 in
theorem sw_X6_onlyLessened : Jvm.Cond.selects "ChalkCastle" ({ cls := "ChalkCastle", name := "onlyLessened", desc := "([II)I" } : Jvm.MethodName) ({ cls := "ChalkCastle", name := "onlyLessened", desc := "([II)I" } : Jvm.MethodName) ∈ lw_g := g_in (in_t0 (List.mem_of_getElem? (i := 7) (by rfl))) rfl
set_option maxRecDepth 20000 in
theorem sw_X6_fitsKind : Jvm.Cond.selects "ChalkCastle" ({ cls := "ChalkCastle", name := "fitsKind", desc := "(II[III)Z" } : Jvm.MethodName) ({ cls := "ChalkCastle", name := "fitsKind", desc := "(II[III)Z" } : Jvm.MethodName) ∈ lw_g := g_in (in_t0 (List.mem_of_getElem? (i := 8) (by rfl))) rfl
set_option maxRecDepth 20000 in
theorem sw_X6_linesAtOnce : Jvm.Cond.selects "ChalkCastle" ({ cls := "ChalkCastle", name := "linesAtOnce", desc := "(II)I" } : Jvm.MethodName) ({ cls := "ChalkCastle", name := "linesAtOnce", desc := "(II)I" } : Jvm.MethodName) ∈ lw_g := g_in (in_t0 (List.mem_of_getElem? (i := 9) (by rfl))) rfl
set_option maxRecDepth 20000 in
theorem sw_X6_drawWriting : Jvm.Cond.selects "ChalkCastle" ({ cls := "ChalkCastle", name := "drawWriting", desc := "(J)V" } : Jvm.MethodName) ({ cls := "ChalkCastle", name := "drawWriting", desc := "(J)V" } : Jvm.MethodName) ∈ lw_g := g_in (in_t0 (List.mem_of_getElem? (i := 10) (by rfl))) rfl
set_option maxRecDepth 20000 in
theorem sw_X7_meets : Jvm.Cond.selects "ChalkCastleModel" ({ cls := "ChalkCastleModel", name := "meets", desc := "(I)I" } : Jvm.MethodName) ({ cls := "ChalkCastleModel", name := "meets", desc := "(I)I" } : Jvm.MethodName) ∈ lw_g := g_in (in_t0 (List.mem_of_getElem? (i := 12) (by rfl))) rfl
set_option maxRecDepth 20000 in
theorem sw_X7_well : Jvm.Cond.selects "ChalkCastleModel" ({ cls := "ChalkCastleModel", name := "well", desc := "(I)I" } : Jvm.MethodName) ({ cls := "ChalkCastleModel", name := "well", desc := "(I)I" } : Jvm.MethodName) ∈ lw_g := g_in (in_t0 (List.mem_of_getElem? (i := 13) (by rfl))) rfl
set_option maxRecDepth 20000 in
theorem sw_X7_status : Jvm.Cond.selects "ChalkCastleModel" ({ cls := "ChalkCastleModel", name := "status", desc := "()I" } : Jvm.MethodName) ({ cls := "ChalkCastleModel", name := "status", desc := "()I" } : Jvm.MethodName) ∈ lw_g := g_in (in_t4 (List.mem_of_getElem? (i := 52) (by rfl))) rfl
set_option maxRecDepth 20000 in
theorem sw_X7_row : Jvm.Cond.selects "ChalkCastleModel" ({ cls := "ChalkCastleModel", name := "row", desc := "(III)I" } : Jvm.MethodName) ({ cls := "ChalkCastleModel", name := "row", desc := "(III)I" } : Jvm.MethodName) ∈ lw_g := g_in (in_t4 (List.mem_of_getElem? (i := 56) (by rfl))) rfl
set_option maxRecDepth 20000 in
theorem sw_X7_set : Jvm.Cond.selects "ChalkCastleModel" ({ cls := "ChalkCastleModel", name := "set", desc := "(III)I" } : Jvm.MethodName) ({ cls := "ChalkCastleModel", name := "set", desc := "(III)I" } : Jvm.MethodName) ∈ lw_g := g_in (in_t4 (List.mem_of_getElem? (i := 76) (by rfl))) rfl
set_option maxRecDepth 20000 in
theorem sw_X7_isPart : Jvm.Cond.selects "ChalkCastleModel" ({ cls := "ChalkCastleModel", name := "isPart", desc := "(III)Z" } : Jvm.MethodName) ({ cls := "ChalkCastleModel", name := "isPart", desc := "(III)Z" } : Jvm.MethodName) ∈ lw_g := g_in (in_t0 (List.mem_of_getElem? (i := 14) (by rfl))) rfl
set_option maxRecDepth 20000 in
theorem sw_X7_copy : Jvm.Cond.selects "ChalkCastleModel" ({ cls := "ChalkCastleModel", name := "copy", desc := "(IIIII)I" } : Jvm.MethodName) ({ cls := "ChalkCastleModel", name := "copy", desc := "(IIIII)I" } : Jvm.MethodName) ∈ lw_g := g_in (in_t4 (List.mem_of_getElem? (i := 83) (by rfl))) rfl
set_option maxRecDepth 20000 in
theorem sw_X7_drop : Jvm.Cond.selects "ChalkCastleModel" ({ cls := "ChalkCastleModel", name := "drop", desc := "(I)I" } : Jvm.MethodName) ({ cls := "ChalkCastleModel", name := "drop", desc := "(I)I" } : Jvm.MethodName) ∈ lw_g := g_in (in_t4 (List.mem_of_getElem? (i := 91) (by rfl))) rfl
set_option maxRecDepth 20000 in
theorem sw_X7_itemAt : Jvm.Cond.selects "ChalkCastleModel" ({ cls := "ChalkCastleModel", name := "itemAt", desc := "(II)I" } : Jvm.MethodName) ({ cls := "ChalkCastleModel", name := "itemAt", desc := "(II)I" } : Jvm.MethodName) ∈ lw_g := g_in (in_t0 (List.mem_of_getElem? (i := 43) (by rfl))) rfl
set_option maxRecDepth 20000 in
theorem sw_X7_feed : Jvm.Cond.selects "ChalkCastleModel" ({ cls := "ChalkCastleModel", name := "feed", desc := "(I)I" } : Jvm.MethodName) ({ cls := "ChalkCastleModel", name := "feed", desc := "(I)I" } : Jvm.MethodName) ∈ lw_g := g_in (in_t4 (List.mem_of_getElem? (i := 95) (by rfl))) rfl
set_option maxRecDepth 20000 in
theorem sw_X7_fault : Jvm.Cond.selects "ChalkCastleModel" ({ cls := "ChalkCastleModel", name := "fault", desc := "()I" } : Jvm.MethodName) ({ cls := "ChalkCastleModel", name := "fault", desc := "()I" } : Jvm.MethodName) ∈ lw_g := g_in (in_t4 (List.mem_of_getElem? (i := 100) (by rfl))) rfl
set_option maxRecDepth 20000 in
theorem sw_X7_here : Jvm.Cond.selects "ChalkCastleModel" ({ cls := "ChalkCastleModel", name := "here", desc := "()I" } : Jvm.MethodName) ({ cls := "ChalkCastleModel", name := "here", desc := "()I" } : Jvm.MethodName) ∈ lw_g := g_in (in_t0 (List.mem_of_getElem? (i := 18) (by rfl))) rfl
set_option maxRecDepth 20000 in
theorem sw_X7_isFigure : Jvm.Cond.selects "ChalkCastleModel" ({ cls := "ChalkCastleModel", name := "isFigure", desc := "(I)Z" } : Jvm.MethodName) ({ cls := "ChalkCastleModel", name := "isFigure", desc := "(I)Z" } : Jvm.MethodName) ∈ lw_g := g_in (in_t0 (List.mem_of_getElem? (i := 22) (by rfl))) rfl
set_option maxRecDepth 20000 in
theorem sw_X7_run : Jvm.Cond.selects "ChalkCastleModel" ({ cls := "ChalkCastleModel", name := "run", desc := "()I" } : Jvm.MethodName) ({ cls := "ChalkCastleModel", name := "run", desc := "()I" } : Jvm.MethodName) ∈ lw_g := g_in (in_t0 (List.mem_of_getElem? (i := 21) (by rfl))) rfl
set_option maxRecDepth 20000 in
theorem sw_X7_fails : Jvm.Cond.selects "ChalkCastleModel" ({ cls := "ChalkCastleModel", name := "fails", desc := "(I)Z" } : Jvm.MethodName) ({ cls := "ChalkCastleModel", name := "fails", desc := "(I)Z" } : Jvm.MethodName) ∈ lw_g := g_in (in_t0 (List.mem_of_getElem? (i := 19) (by rfl))) rfl
set_option maxRecDepth 20000 in
theorem sw_X7_readsSign : Jvm.Cond.selects "ChalkCastleModel" ({ cls := "ChalkCastleModel", name := "readsSign", desc := "(I)Z" } : Jvm.MethodName) ({ cls := "ChalkCastleModel", name := "readsSign", desc := "(I)Z" } : Jvm.MethodName) ∈ lw_g := g_in (in_t0 (List.mem_of_getElem? (i := 17) (by rfl))) rfl
set_option maxRecDepth 20000 in
theorem sw_X7_number : Jvm.Cond.selects "ChalkCastleModel" ({ cls := "ChalkCastleModel", name := "number", desc := "(II)I" } : Jvm.MethodName) ({ cls := "ChalkCastleModel", name := "number", desc := "(II)I" } : Jvm.MethodName) ∈ lw_g := g_in (in_t0 (List.mem_of_getElem? (i := 20) (by rfl))) rfl
set_option maxRecDepth 20000 in
theorem sw_X7_readsLaw : Jvm.Cond.selects "ChalkCastleModel" ({ cls := "ChalkCastleModel", name := "readsLaw", desc := "()Z" } : Jvm.MethodName) ({ cls := "ChalkCastleModel", name := "readsLaw", desc := "()Z" } : Jvm.MethodName) ∈ lw_g := g_in (in_t0 (List.mem_of_getElem? (i := 16) (by rfl))) rfl
set_option maxRecDepth 20000 in
theorem sw_X7_readsBlock : Jvm.Cond.selects "ChalkCastleModel" ({ cls := "ChalkCastleModel", name := "readsBlock", desc := "()Z" } : Jvm.MethodName) ({ cls := "ChalkCastleModel", name := "readsBlock", desc := "()Z" } : Jvm.MethodName) ∈ lw_g := g_in (in_t0 (List.mem_of_getElem? (i := 24) (by rfl))) rfl
set_option maxRecDepth 20000 in
theorem sw_X7_readsRest : Jvm.Cond.selects "ChalkCastleModel" ({ cls := "ChalkCastleModel", name := "readsRest", desc := "()Z" } : Jvm.MethodName) ({ cls := "ChalkCastleModel", name := "readsRest", desc := "()Z" } : Jvm.MethodName) ∈ lw_g := g_in (in_t0 (List.mem_of_getElem? (i := 25) (by rfl))) rfl
set_option maxRecDepth 20000 in
theorem sw_X7_readsClerk : Jvm.Cond.selects "ChalkCastleModel" ({ cls := "ChalkCastleModel", name := "readsClerk", desc := "()Z" } : Jvm.MethodName) ({ cls := "ChalkCastleModel", name := "readsClerk", desc := "()Z" } : Jvm.MethodName) ∈ lw_g := g_in (in_t0 (List.mem_of_getElem? (i := 26) (by rfl))) rfl
set_option maxRecDepth 20000 in
theorem sw_X7_readsItem : Jvm.Cond.selects "ChalkCastleModel" ({ cls := "ChalkCastleModel", name := "readsItem", desc := "()Z" } : Jvm.MethodName) ({ cls := "ChalkCastleModel", name := "readsItem", desc := "()Z" } : Jvm.MethodName) ∈ lw_g := g_in (in_t0 (List.mem_of_getElem? (i := 23) (by rfl))) rfl
set_option maxRecDepth 20000 in
theorem sw_X7_reads : Jvm.Cond.selects "ChalkCastleModel" ({ cls := "ChalkCastleModel", name := "reads", desc := "()Z" } : Jvm.MethodName) ({ cls := "ChalkCastleModel", name := "reads", desc := "()Z" } : Jvm.MethodName) ∈ lw_g := g_in (in_t0 (List.mem_of_getElem? (i := 15) (by rfl))) rfl
set_option maxRecDepth 20000 in
theorem sw_X7_castle : Jvm.Cond.selects "ChalkCastleModel" ({ cls := "ChalkCastleModel", name := "castle", desc := "()I" } : Jvm.MethodName) ({ cls := "ChalkCastleModel", name := "castle", desc := "()I" } : Jvm.MethodName) ∈ lw_g := g_in (in_t4 (List.mem_of_getElem? (i := 104) (by rfl))) rfl
set_option maxRecDepth 20000 in
theorem sw_X7_isBlock : Jvm.Cond.selects "ChalkCastleModel" ({ cls := "ChalkCastleModel", name := "isBlock", desc := "(I)Z" } : Jvm.MethodName) ({ cls := "ChalkCastleModel", name := "isBlock", desc := "(I)Z" } : Jvm.MethodName) ∈ lw_g := g_in (in_t0 (List.mem_of_getElem? (i := 28) (by rfl))) rfl
set_option maxRecDepth 20000 in
theorem sw_X7_isClerk : Jvm.Cond.selects "ChalkCastleModel" ({ cls := "ChalkCastleModel", name := "isClerk", desc := "(I)Z" } : Jvm.MethodName) ({ cls := "ChalkCastleModel", name := "isClerk", desc := "(I)Z" } : Jvm.MethodName) ∈ lw_g := g_in (in_t0 (List.mem_of_getElem? (i := 27) (by rfl))) rfl
set_option maxRecDepth 20000 in
theorem sw_X7_isBlocks : Jvm.Cond.selects "ChalkCastleModel" ({ cls := "ChalkCastleModel", name := "isBlocks", desc := "(I)Z" } : Jvm.MethodName) ({ cls := "ChalkCastleModel", name := "isBlocks", desc := "(I)Z" } : Jvm.MethodName) ∈ lw_g := g_in (in_t0 (List.mem_of_getElem? (i := 39) (by rfl))) rfl
set_option maxRecDepth 20000 in
theorem sw_X7_remember : Jvm.Cond.selects "ChalkCastleModel" ({ cls := "ChalkCastleModel", name := "remember", desc := "()V" } : Jvm.MethodName) ({ cls := "ChalkCastleModel", name := "remember", desc := "()V" } : Jvm.MethodName) ∈ lw_g := g_in (in_t0 (List.mem_of_getElem? (i := 31) (by rfl))) rfl
set_option maxRecDepth 20000 in
theorem sw_X7_undo : Jvm.Cond.selects "ChalkCastleModel" ({ cls := "ChalkCastleModel", name := "undo", desc := "()I" } : Jvm.MethodName) ({ cls := "ChalkCastleModel", name := "undo", desc := "()I" } : Jvm.MethodName) ∈ lw_g := g_in (in_t4 (List.mem_of_getElem? (i := 164) (by rfl))) rfl
set_option maxRecDepth 20000 in
theorem sw_X7_standing : Jvm.Cond.selects "ChalkCastleModel" ({ cls := "ChalkCastleModel", name := "standing", desc := "([I)I" } : Jvm.MethodName) ({ cls := "ChalkCastleModel", name := "standing", desc := "([I)I" } : Jvm.MethodName) ∈ lw_g := g_in (in_t0 (List.mem_of_getElem? (i := 34) (by rfl))) rfl
set_option maxRecDepth 20000 in
theorem sw_X7_fallen : Jvm.Cond.selects "ChalkCastleModel" ({ cls := "ChalkCastleModel", name := "fallen", desc := "([I)I" } : Jvm.MethodName) ({ cls := "ChalkCastleModel", name := "fallen", desc := "([I)I" } : Jvm.MethodName) ∈ lw_g := g_in (in_t0 (List.mem_of_getElem? (i := 36) (by rfl))) rfl
set_option maxRecDepth 20000 in
theorem sw_X7_takesBy : Jvm.Cond.selects "ChalkCastleModel" ({ cls := "ChalkCastleModel", name := "takesBy", desc := "(IIII)I" } : Jvm.MethodName) ({ cls := "ChalkCastleModel", name := "takesBy", desc := "(IIII)I" } : Jvm.MethodName) ∈ lw_g := g_in (in_t0 (List.mem_of_getElem? (i := 30) (by rfl))) rfl
set_option maxRecDepth 20000 in
theorem sw_X7_takesOf : Jvm.Cond.selects "ChalkCastleModel" ({ cls := "ChalkCastleModel", name := "takesOf", desc := "([III)I" } : Jvm.MethodName) ({ cls := "ChalkCastleModel", name := "takesOf", desc := "([III)I" } : Jvm.MethodName) ∈ lw_g := g_in (in_t0 (List.mem_of_getElem? (i := 29) (by rfl))) rfl
set_option maxRecDepth 20000 in
theorem sw_X7_writes : Jvm.Cond.selects "ChalkCastleModel" ({ cls := "ChalkCastleModel", name := "writes", desc := "([IIII)Z" } : Jvm.MethodName) ({ cls := "ChalkCastleModel", name := "writes", desc := "([IIII)Z" } : Jvm.MethodName) ∈ lw_g := g_in (in_t0 (List.mem_of_getElem? (i := 32) (by rfl))) rfl
set_option maxRecDepth 20000 in
theorem sw_X7_restingOn : Jvm.Cond.selects "ChalkCastleModel" ({ cls := "ChalkCastleModel", name := "restingOn", desc := "(I)I" } : Jvm.MethodName) ({ cls := "ChalkCastleModel", name := "restingOn", desc := "(I)I" } : Jvm.MethodName) ∈ lw_g := g_in (in_t0 (List.mem_of_getElem? (i := 35) (by rfl))) rfl
set_option maxRecDepth 20000 in
theorem sw_X7_rainsOn : Jvm.Cond.selects "ChalkCastleModel" ({ cls := "ChalkCastleModel", name := "rainsOn", desc := "([I)V" } : Jvm.MethodName) ({ cls := "ChalkCastleModel", name := "rainsOn", desc := "([I)V" } : Jvm.MethodName) ∈ lw_g := g_in (in_t0 (List.mem_of_getElem? (i := 33) (by rfl))) rfl
set_option maxRecDepth 20000 in
theorem sw_X7_write : Jvm.Cond.selects "ChalkCastleModel" ({ cls := "ChalkCastleModel", name := "write", desc := "(III)I" } : Jvm.MethodName) ({ cls := "ChalkCastleModel", name := "write", desc := "(III)I" } : Jvm.MethodName) ∈ lw_g := g_in (in_t4 (List.mem_of_getElem? (i := 169) (by rfl))) rfl
set_option maxRecDepth 20000 in
theorem sw_X7_rub : Jvm.Cond.selects "ChalkCastleModel" ({ cls := "ChalkCastleModel", name := "rub", desc := "(II)I" } : Jvm.MethodName) ({ cls := "ChalkCastleModel", name := "rub", desc := "(II)I" } : Jvm.MethodName) ∈ lw_g := g_in (in_t4 (List.mem_of_getElem? (i := 200) (by rfl))) rfl
set_option maxRecDepth 20000 in
theorem sw_X7_rain : Jvm.Cond.selects "ChalkCastleModel" ({ cls := "ChalkCastleModel", name := "rain", desc := "()I" } : Jvm.MethodName) ({ cls := "ChalkCastleModel", name := "rain", desc := "()I" } : Jvm.MethodName) ∈ lw_g := g_in (in_t4 (List.mem_of_getElem? (i := 204) (by rfl))) rfl
set_option maxRecDepth 20000 in
theorem sw_X7_days : Jvm.Cond.selects "ChalkCastleModel" ({ cls := "ChalkCastleModel", name := "days", desc := "(I)I" } : Jvm.MethodName) ({ cls := "ChalkCastleModel", name := "days", desc := "(I)I" } : Jvm.MethodName) ∈ lw_g := g_in (in_t4 (List.mem_of_getElem? (i := 220) (by rfl))) rfl
set_option maxRecDepth 20000 in
theorem sw_X7_block : Jvm.Cond.selects "ChalkCastleModel" ({ cls := "ChalkCastleModel", name := "block", desc := "(II)I" } : Jvm.MethodName) ({ cls := "ChalkCastleModel", name := "block", desc := "(II)I" } : Jvm.MethodName) ∈ lw_g := g_in (in_t4 (List.mem_of_getElem? (i := 224) (by rfl))) rfl
set_option maxRecDepth 20000 in
theorem sw_X7_clerk : Jvm.Cond.selects "ChalkCastleModel" ({ cls := "ChalkCastleModel", name := "clerk", desc := "(II)I" } : Jvm.MethodName) ({ cls := "ChalkCastleModel", name := "clerk", desc := "(II)I" } : Jvm.MethodName) ∈ lw_g := g_in (in_t4 (List.mem_of_getElem? (i := 228) (by rfl))) rfl
set_option maxRecDepth 20000 in
theorem sw_X7_takes : Jvm.Cond.selects "ChalkCastleModel" ({ cls := "ChalkCastleModel", name := "takes", desc := "(II)I" } : Jvm.MethodName) ({ cls := "ChalkCastleModel", name := "takes", desc := "(II)I" } : Jvm.MethodName) ∈ lw_g := g_in (in_t4 (List.mem_of_getElem? (i := 232) (by rfl))) rfl
set_option maxRecDepth 20000 in
theorem sw_X7_allLines : Jvm.Cond.selects "ChalkCastleModel" ({ cls := "ChalkCastleModel", name := "allLines", desc := "()I" } : Jvm.MethodName) ({ cls := "ChalkCastleModel", name := "allLines", desc := "()I" } : Jvm.MethodName) ∈ lw_g := g_in (in_t0 (List.mem_of_getElem? (i := 38) (by rfl))) rfl
set_option maxRecDepth 20000 in
theorem sw_X7_allChalk : Jvm.Cond.selects "ChalkCastleModel" ({ cls := "ChalkCastleModel", name := "allChalk", desc := "()I" } : Jvm.MethodName) ({ cls := "ChalkCastleModel", name := "allChalk", desc := "()I" } : Jvm.MethodName) ∈ lw_g := g_in (in_t0 (List.mem_of_getElem? (i := 37) (by rfl))) rfl
set_option maxRecDepth 20000 in
theorem sw_X7_stand : Jvm.Cond.selects "ChalkCastleModel" ({ cls := "ChalkCastleModel", name := "stand", desc := "(I)I" } : Jvm.MethodName) ({ cls := "ChalkCastleModel", name := "stand", desc := "(I)I" } : Jvm.MethodName) ∈ lw_g := g_in (in_t4 (List.mem_of_getElem? (i := 236) (by rfl))) rfl
set_option maxRecDepth 20000 in
theorem sw_X7_copyNow : Jvm.Cond.selects "ChalkCastleModel" ({ cls := "ChalkCastleModel", name := "copyNow", desc := "()V" } : Jvm.MethodName) ({ cls := "ChalkCastleModel", name := "copyNow", desc := "()V" } : Jvm.MethodName) ∈ lw_g := g_in (in_t0 (List.mem_of_getElem? (i := 41) (by rfl))) rfl
set_option maxRecDepth 20000 in
theorem sw_X7_standingWithout : Jvm.Cond.selects "ChalkCastleModel" ({ cls := "ChalkCastleModel", name := "standingWithout", desc := "(I)I" } : Jvm.MethodName) ({ cls := "ChalkCastleModel", name := "standingWithout", desc := "(I)I" } : Jvm.MethodName) ∈ lw_g := g_in (in_t0 (List.mem_of_getElem? (i := 40) (by rfl))) rfl
set_option maxRecDepth 20000 in
theorem sw_X7_wouldFall : Jvm.Cond.selects "ChalkCastleModel" ({ cls := "ChalkCastleModel", name := "wouldFall", desc := "(I)I" } : Jvm.MethodName) ({ cls := "ChalkCastleModel", name := "wouldFall", desc := "(I)I" } : Jvm.MethodName) ∈ lw_g := g_in (in_t5 (List.mem_of_getElem? (i := 12) (by rfl))) rfl
set_option maxRecDepth 20000 in
theorem sw_X7_left : Jvm.Cond.selects "ChalkCastleModel" ({ cls := "ChalkCastleModel", name := "left", desc := "(I)I" } : Jvm.MethodName) ({ cls := "ChalkCastleModel", name := "left", desc := "(I)I" } : Jvm.MethodName) ∈ lw_g := g_in (in_t5 (List.mem_of_getElem? (i := 28) (by rfl))) rfl
set_option maxRecDepth 20000 in
theorem sw_X7_chalkBut : Jvm.Cond.selects "ChalkCastleModel" ({ cls := "ChalkCastleModel", name := "chalkBut", desc := "(I)I" } : Jvm.MethodName) ({ cls := "ChalkCastleModel", name := "chalkBut", desc := "(I)I" } : Jvm.MethodName) ∈ lw_g := g_in (in_t0 (List.mem_of_getElem? (i := 42) (by rfl))) rfl
set_option maxRecDepth 20000 in
theorem sw_X7_leastFallen : Jvm.Cond.selects "ChalkCastleModel" ({ cls := "ChalkCastleModel", name := "leastFallen", desc := "(III)I" } : Jvm.MethodName) ({ cls := "ChalkCastleModel", name := "leastFallen", desc := "(III)I" } : Jvm.MethodName) ∈ lw_g := g_in (in_t5 (List.mem_of_getElem? (i := 32) (by rfl))) rfl
set_option maxRecDepth 20000 in
theorem sw_X7_must : Jvm.Cond.selects "ChalkCastleModel" ({ cls := "ChalkCastleModel", name := "must", desc := "()I" } : Jvm.MethodName) ({ cls := "ChalkCastleModel", name := "must", desc := "()I" } : Jvm.MethodName) ∈ lw_g := g_in (in_t5 (List.mem_of_getElem? (i := 43) (by rfl))) rfl
set_option maxRecDepth 20000 in
theorem sw_X7_standingBy : Jvm.Cond.selects "ChalkCastleModel" ({ cls := "ChalkCastleModel", name := "standingBy", desc := "(IIII)I" } : Jvm.MethodName) ({ cls := "ChalkCastleModel", name := "standingBy", desc := "(IIII)I" } : Jvm.MethodName) ∈ lw_g := g_in (in_t0 (List.mem_of_getElem? (i := 44) (by rfl))) rfl
set_option maxRecDepth 20000 in
theorem sw_X7_writings : Jvm.Cond.selects "ChalkCastleModel" ({ cls := "ChalkCastleModel", name := "writings", desc := "(IIII)I" } : Jvm.MethodName) ({ cls := "ChalkCastleModel", name := "writings", desc := "(IIII)I" } : Jvm.MethodName) ∈ lw_g := g_in (in_t5 (List.mem_of_getElem? (i := 47) (by rfl))) rfl
set_option maxRecDepth 20000 in
theorem sw_X7_isLeft : Jvm.Cond.selects "ChalkCastleModel" ({ cls := "ChalkCastleModel", name := "isLeft", desc := "(IIII)Z" } : Jvm.MethodName) ({ cls := "ChalkCastleModel", name := "isLeft", desc := "(IIII)Z" } : Jvm.MethodName) ∈ lw_g := g_in (in_t0 (List.mem_of_getElem? (i := 45) (by rfl))) rfl
set_option maxRecDepth 20000 in
theorem sw_X7_from : Jvm.Cond.selects "ChalkCastleModel" ({ cls := "ChalkCastleModel", name := "from", desc := "(III)I" } : Jvm.MethodName) ({ cls := "ChalkCastleModel", name := "from", desc := "(III)I" } : Jvm.MethodName) ∈ lw_g := g_in (in_t5 (List.mem_of_getElem? (i := 59) (by rfl))) rfl
set_option maxRecDepth 20000 in
theorem sw_X7_who : Jvm.Cond.selects "ChalkCastleModel" ({ cls := "ChalkCastleModel", name := "who", desc := "(IIII)I" } : Jvm.MethodName) ({ cls := "ChalkCastleModel", name := "who", desc := "(IIII)I" } : Jvm.MethodName) ∈ lw_g := g_in (in_t5 (List.mem_of_getElem? (i := 67) (by rfl))) rfl
set_option maxRecDepth 20000 in
theorem sw_X7_layer : Jvm.Cond.selects "ChalkCastleModel" ({ cls := "ChalkCastleModel", name := "layer", desc := "(I)I" } : Jvm.MethodName) ({ cls := "ChalkCastleModel", name := "layer", desc := "(I)I" } : Jvm.MethodName) ∈ lw_g := g_in (in_t5 (List.mem_of_getElem? (i := 71) (by rfl))) rfl
set_option maxRecDepth 20000 in
theorem sw_X7_longest : Jvm.Cond.selects "ChalkCastleModel" ({ cls := "ChalkCastleModel", name := "longest", desc := "(II)I" } : Jvm.MethodName) ({ cls := "ChalkCastleModel", name := "longest", desc := "(II)I" } : Jvm.MethodName) ∈ lw_g := g_in (in_t5 (List.mem_of_getElem? (i := 75) (by rfl))) rfl
set_option maxRecDepth 20000 in
theorem sw_X7_rains : Jvm.Cond.selects "ChalkCastleModel" ({ cls := "ChalkCastleModel", name := "rains", desc := "(III)J" } : Jvm.MethodName) ({ cls := "ChalkCastleModel", name := "rains", desc := "(III)J" } : Jvm.MethodName) ∈ lw_g := g_in (in_t5 (List.mem_of_getElem? (i := 79) (by rfl))) rfl
set_option maxRecDepth 20000 in
theorem sw_X7_share : Jvm.Cond.selects "ChalkCastleModel" ({ cls := "ChalkCastleModel", name := "share", desc := "(II)I" } : Jvm.MethodName) ({ cls := "ChalkCastleModel", name := "share", desc := "(II)I" } : Jvm.MethodName) ∈ lw_g := g_in (in_t5 (List.mem_of_getElem? (i := 88) (by rfl))) rfl
set_option maxRecDepth 20000 in
theorem sw_X7_drawn : Jvm.Cond.selects "ChalkCastleModel" ({ cls := "ChalkCastleModel", name := "drawn", desc := "(III)I" } : Jvm.MethodName) ({ cls := "ChalkCastleModel", name := "drawn", desc := "(III)I" } : Jvm.MethodName) ∈ lw_g := g_in (in_t5 (List.mem_of_getElem? (i := 92) (by rfl))) rfl
set_option maxRecDepth 20000 in
theorem sw_X7_image : Jvm.Cond.selects "ChalkCastleModel" ({ cls := "ChalkCastleModel", name := "image", desc := "(I)I" } : Jvm.MethodName) ({ cls := "ChalkCastleModel", name := "image", desc := "(I)I" } : Jvm.MethodName) ∈ lw_g := g_in (in_t5 (List.mem_of_getElem? (i := 101) (by rfl))) rfl
set_option maxRecDepth 20000 in
theorem sw_X7_restore : Jvm.Cond.selects "ChalkCastleModel" ({ cls := "ChalkCastleModel", name := "restore", desc := "(I)I" } : Jvm.MethodName) ({ cls := "ChalkCastleModel", name := "restore", desc := "(I)I" } : Jvm.MethodName) ∈ lw_g := g_in (in_t5 (List.mem_of_getElem? (i := 105) (by rfl))) rfl
set_option maxRecDepth 20000 in
theorem sw_X7_kind : Jvm.Cond.selects "ChalkCastleModel" ({ cls := "ChalkCastleModel", name := "kind", desc := "(I)I" } : Jvm.MethodName) ({ cls := "ChalkCastleModel", name := "kind", desc := "(I)I" } : Jvm.MethodName) ∈ lw_g := g_in (in_t5 (List.mem_of_getElem? (i := 109) (by rfl))) rfl
set_option maxRecDepth 20000 in
theorem sw_X7_isOf : Jvm.Cond.selects "ChalkCastleModel" ({ cls := "ChalkCastleModel", name := "isOf", desc := "(II)Z" } : Jvm.MethodName) ({ cls := "ChalkCastleModel", name := "isOf", desc := "(II)Z" } : Jvm.MethodName) ∈ lw_g := g_in (in_t0 (List.mem_of_getElem? (i := 46) (by rfl))) rfl
set_option maxRecDepth 20000 in
theorem sw_X7_as : Jvm.Cond.selects "ChalkCastleModel" ({ cls := "ChalkCastleModel", name := "as", desc := "(II)I" } : Jvm.MethodName) ({ cls := "ChalkCastleModel", name := "as", desc := "(II)I" } : Jvm.MethodName) ∈ lw_g := g_in (in_t5 (List.mem_of_getElem? (i := 113) (by rfl))) rfl
set_option maxRecDepth 20000 in
theorem sw_X7_leaves : Jvm.Cond.selects "ChalkCastleModel" ({ cls := "ChalkCastleModel", name := "leaves", desc := "(I)V" } : Jvm.MethodName) ({ cls := "ChalkCastleModel", name := "leaves", desc := "(I)V" } : Jvm.MethodName) ∈ lw_g := g_in (in_t0 (List.mem_of_getElem? (i := 49) (by rfl))) rfl
set_option maxRecDepth 20000 in
theorem sw_X7_body10 : Jvm.Cond.selects "ChalkCastleModel" ({ cls := "ChalkCastleModel", name := "body10", desc := "(I)I" } : Jvm.MethodName) ({ cls := "ChalkCastleModel", name := "body10", desc := "(I)I" } : Jvm.MethodName) ∈ lw_g := g_in (in_t0 (List.mem_of_getElem? (i := 50) (by rfl))) rfl
set_option maxRecDepth 20000 in
theorem sw_X7_body13 : Jvm.Cond.selects "ChalkCastleModel" ({ cls := "ChalkCastleModel", name := "body13", desc := "(I)I" } : Jvm.MethodName) ({ cls := "ChalkCastleModel", name := "body13", desc := "(I)I" } : Jvm.MethodName) ∈ lw_g := g_in (in_t0 (List.mem_of_getElem? (i := 55) (by rfl))) rfl
set_option maxRecDepth 20000 in
theorem sw_X7_boySize : Jvm.Cond.selects "ChalkCastleModel" ({ cls := "ChalkCastleModel", name := "boySize", desc := "(I)I" } : Jvm.MethodName) ({ cls := "ChalkCastleModel", name := "boySize", desc := "(I)I" } : Jvm.MethodName) ∈ lw_g := g_in (in_t0 (List.mem_of_getElem? (i := 54) (by rfl))) rfl
set_option maxRecDepth 20000 in
theorem sw_X7_body20 : Jvm.Cond.selects "ChalkCastleModel" ({ cls := "ChalkCastleModel", name := "body20", desc := "(I)I" } : Jvm.MethodName) ({ cls := "ChalkCastleModel", name := "body20", desc := "(I)I" } : Jvm.MethodName) ∈ lw_g := g_in (in_t0 (List.mem_of_getElem? (i := 53) (by rfl))) rfl
set_option maxRecDepth 20000 in
theorem sw_X7_body21 : Jvm.Cond.selects "ChalkCastleModel" ({ cls := "ChalkCastleModel", name := "body21", desc := "(I)I" } : Jvm.MethodName) ({ cls := "ChalkCastleModel", name := "body21", desc := "(I)I" } : Jvm.MethodName) ∈ lw_g := g_in (in_t0 (List.mem_of_getElem? (i := 52) (by rfl))) rfl
set_option maxRecDepth 20000 in
theorem sw_X7_markOf : Jvm.Cond.selects "ChalkCastleModel" ({ cls := "ChalkCastleModel", name := "markOf", desc := "(I)I" } : Jvm.MethodName) ({ cls := "ChalkCastleModel", name := "markOf", desc := "(I)I" } : Jvm.MethodName) ∈ lw_g := g_in (in_t0 (List.mem_of_getElem? (i := 51) (by rfl))) rfl
set_option maxRecDepth 20000 in
theorem sw_X7_body11 : Jvm.Cond.selects "ChalkCastleModel" ({ cls := "ChalkCastleModel", name := "body11", desc := "(I)I" } : Jvm.MethodName) ({ cls := "ChalkCastleModel", name := "body11", desc := "(I)I" } : Jvm.MethodName) ∈ lw_g := g_in (in_t0 (List.mem_of_getElem? (i := 48) (by rfl))) rfl
set_option maxRecDepth 20000 in
theorem sw_X7_sizeOf : Jvm.Cond.selects "ChalkCastleModel" ({ cls := "ChalkCastleModel", name := "sizeOf", desc := "(I)I" } : Jvm.MethodName) ({ cls := "ChalkCastleModel", name := "sizeOf", desc := "(I)I" } : Jvm.MethodName) ∈ lw_g := g_in (in_t0 (List.mem_of_getElem? (i := 47) (by rfl))) rfl
set_option maxRecDepth 20000 in
theorem sw_X7_ask : Jvm.Cond.selects "ChalkCastleModel" ({ cls := "ChalkCastleModel", name := "ask", desc := "(II)I" } : Jvm.MethodName) ({ cls := "ChalkCastleModel", name := "ask", desc := "(II)I" } : Jvm.MethodName) ∈ lw_g := g_in (in_t5 (List.mem_of_getElem? (i := 121) (by rfl))) rfl
set_option maxRecDepth 20000 in
theorem sw_X7_trace : Jvm.Cond.selects "ChalkCastleModel" ({ cls := "ChalkCastleModel", name := "trace", desc := "(I)I" } : Jvm.MethodName) ({ cls := "ChalkCastleModel", name := "trace", desc := "(I)I" } : Jvm.MethodName) ∈ lw_g := g_in (in_t5 (List.mem_of_getElem? (i := 161) (by rfl))) rfl
set_option maxRecDepth 20000 in
theorem sw_X7_count : Jvm.Cond.selects "ChalkCastleModel" ({ cls := "ChalkCastleModel", name := "count", desc := "(I)I" } : Jvm.MethodName) ({ cls := "ChalkCastleModel", name := "count", desc := "(I)I" } : Jvm.MethodName) ∈ lw_g := g_in (in_t5 (List.mem_of_getElem? (i := 165) (by rfl))) rfl
