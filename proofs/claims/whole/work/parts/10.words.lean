/-! ===== the words that the tables use, by their places ===== -/
theorem in_t1 {w : Cond} (h : w ∈ tables_1_1) : w ∈ lw_tbl := List.mem_append_right _ (List.mem_append_left _ h)
theorem in_t2 {w : Cond} (h : w ∈ tables_1_2) : w ∈ lw_tbl := List.mem_append_right _ (List.mem_append_right _ (List.mem_append_left _ h))
theorem in_t3 {w : Cond} (h : w ∈ tables_1_3) : w ∈ lw_tbl := List.mem_append_right _ (List.mem_append_right _ (List.mem_append_right _ (List.mem_append_left _ h)))
theorem in_t4 {w : Cond} (h : w ∈ tables_1_4) : w ∈ lw_tbl := List.mem_append_right _ (List.mem_append_right _ (List.mem_append_right _ (List.mem_append_right _ (List.mem_append_left _ h))))
theorem in_t5 {w : Cond} (h : w ∈ tables_1_5) : w ∈ lw_tbl := List.mem_append_right _ (List.mem_append_right _ (List.mem_append_right _ (List.mem_append_right _ (List.mem_append_right _ (h)))))
theorem in_t0 {w : Cond} (h : w ∈ k2_sels lw_privs) : w ∈ lw_tbl := List.mem_append_left _ h
set_option maxRecDepth 20000 in
theorem tw_0 : Jvm.Cond.initialized "ChalkCastleLaw" ∈ lw_g := g_in (in_t1 (List.mem_of_getElem? (i := 0) (by rfl))) rfl
set_option maxRecDepth 20000 in
theorem tw_1 : Jvm.Cond.initialized "ChalkCastle" ∈ lw_g := g_in (in_t1 (List.mem_of_getElem? (i := 1) (by rfl))) rfl
set_option maxRecDepth 20000 in
theorem tw_2 : Jvm.Cond.initialized "ChalkCastle$Reader" ∈ lw_g := g_in (in_t1 (List.mem_of_getElem? (i := 2) (by rfl))) rfl
set_option maxRecDepth 20000 in
theorem tw_3 : Jvm.Cond.initialized "ChalkCastle$Plan" ∈ lw_g := g_in (in_t1 (List.mem_of_getElem? (i := 3) (by rfl))) rfl
set_option maxRecDepth 20000 in
theorem tw_4 : Jvm.Cond.initialized "ChalkCastle$State" ∈ lw_g := g_in (in_t1 (List.mem_of_getElem? (i := 4) (by rfl))) rfl
set_option maxRecDepth 20000 in
theorem tw_5 : Jvm.Cond.initialized "ChalkCastle$Search" ∈ lw_g := g_in (in_t1 (List.mem_of_getElem? (i := 5) (by rfl))) rfl
set_option maxRecDepth 20000 in
theorem tw_6 : Jvm.Cond.initialized "ChalkCastle$Asking" ∈ lw_g := g_in (in_t1 (List.mem_of_getElem? (i := 6) (by rfl))) rfl
set_option maxRecDepth 20000 in
theorem tw_7 : Jvm.Cond.initialized "ChalkCastle$Row" ∈ lw_g := g_in (in_t1 (List.mem_of_getElem? (i := 7) (by rfl))) rfl
set_option maxRecDepth 20000 in
theorem tw_8 : Jvm.Cond.initialized "ChalkCastleModel" ∈ lw_g := g_in (in_t1 (List.mem_of_getElem? (i := 8) (by rfl))) rfl
set_option maxRecDepth 20000 in
theorem tw_9 : Jvm.Cond.initialized "java/lang/Math" ∈ lw_g := g_in (in_t1 (List.mem_of_getElem? (i := 9) (by rfl))) rfl
set_option maxRecDepth 20000 in
theorem tw_10 : Jvm.Cond.initialized "java/lang/System" ∈ lw_g := g_in (in_t1 (List.mem_of_getElem? (i := 10) (by rfl))) rfl
set_option maxRecDepth 20000 in
theorem tw_11 : Jvm.Cond.initialized "java/lang/Integer" ∈ lw_g := g_in (in_t1 (List.mem_of_getElem? (i := 11) (by rfl))) rfl
set_option maxRecDepth 20000 in
theorem tw_15 : Jvm.Cond.instanceMethod ({ cls := "ChalkCastle", name := "<init>", desc := "()V" } : Jvm.MethodName) ∈ lw_g := g_in (in_t1 (List.mem_of_getElem? (i := 15) (by rfl))) rfl
set_option maxRecDepth 20000 in
theorem tw_16 : Jvm.Cond.code ({ cls := "ChalkCastle", name := "<init>", desc := "()V" } : Jvm.MethodName) prog_1_method_1_code (2 : Nat) (Option.none : Option Jvm.ClassFile.FieldType) ∈ lw_g := g_in (in_t1 (List.mem_of_getElem? (i := 16) (by rfl))) rfl
set_option maxRecDepth 20000 in
theorem tw_17 : Jvm.Cond.methodLink "ChalkCastle" (1 : Nat) ({ cls := "java/lang/Object", name := "<init>", desc := "()V" } : Jvm.MethodName) ∈ lw_g := g_in (in_t1 (List.mem_of_getElem? (i := 17) (by rfl))) rfl
set_option maxRecDepth 20000 in
theorem tw_20 : Jvm.Cond.classLink "ChalkCastle" (9 : Nat) "ChalkCastle$Row" ∈ lw_g := g_in (in_t1 (List.mem_of_getElem? (i := 20) (by rfl))) rfl
set_option maxRecDepth 20000 in
theorem tw_22 : Jvm.Cond.classLink "ChalkCastle" (15 : Nat) "ChalkCastle$Reader" ∈ lw_g := g_in (in_t1 (List.mem_of_getElem? (i := 22) (by rfl))) rfl
set_option maxRecDepth 20000 in
theorem tw_24 : Jvm.Cond.methodLink "ChalkCastle" (17 : Nat) ({ cls := "ChalkCastle$Reader", name := "<init>", desc := "()V" } : Jvm.MethodName) ∈ lw_g := g_in (in_t1 (List.mem_of_getElem? (i := 24) (by rfl))) rfl
set_option maxRecDepth 20000 in
theorem tw_25 : Jvm.Cond.instanceMethod ({ cls := "ChalkCastle$Reader", name := "<init>", desc := "()V" } : Jvm.MethodName) ∈ lw_g := g_in (in_t1 (List.mem_of_getElem? (i := 25) (by rfl))) rfl
set_option maxRecDepth 20000 in
theorem tw_26 : Jvm.Cond.code ({ cls := "ChalkCastle$Reader", name := "<init>", desc := "()V" } : Jvm.MethodName) prog_4_method_1_code (1 : Nat) (Option.none : Option Jvm.ClassFile.FieldType) ∈ lw_g := g_in (in_t1 (List.mem_of_getElem? (i := 26) (by rfl))) rfl
set_option maxRecDepth 20000 in
theorem tw_27 : Jvm.Cond.methodLink "ChalkCastle$Reader" (3 : Nat) ({ cls := "java/lang/Object", name := "<init>", desc := "()V" } : Jvm.MethodName) ∈ lw_g := g_in (in_t1 (List.mem_of_getElem? (i := 27) (by rfl))) rfl
set_option maxRecDepth 20000 in
theorem tw_28 : Jvm.Cond.classLink "ChalkCastle$Reader" (9 : Nat) "ChalkCastle$Plan" ∈ lw_g := g_in (in_t1 (List.mem_of_getElem? (i := 28) (by rfl))) rfl
set_option maxRecDepth 20000 in
theorem tw_30 : Jvm.Cond.methodLink "ChalkCastle$Reader" (11 : Nat) ({ cls := "ChalkCastle$Plan", name := "<init>", desc := "()V" } : Jvm.MethodName) ∈ lw_g := g_in (in_t1 (List.mem_of_getElem? (i := 30) (by rfl))) rfl
set_option maxRecDepth 20000 in
theorem tw_31 : Jvm.Cond.instanceMethod ({ cls := "ChalkCastle$Plan", name := "<init>", desc := "()V" } : Jvm.MethodName) ∈ lw_g := g_in (in_t1 (List.mem_of_getElem? (i := 31) (by rfl))) rfl
set_option maxRecDepth 20000 in
theorem tw_32 : Jvm.Cond.code ({ cls := "ChalkCastle$Plan", name := "<init>", desc := "()V" } : Jvm.MethodName) prog_3_method_1_code (1 : Nat) (Option.none : Option Jvm.ClassFile.FieldType) ∈ lw_g := g_in (in_t1 (List.mem_of_getElem? (i := 32) (by rfl))) rfl
set_option maxRecDepth 20000 in
theorem tw_33 : Jvm.Cond.methodLink "ChalkCastle$Plan" (3 : Nat) ({ cls := "java/lang/Object", name := "<init>", desc := "()V" } : Jvm.MethodName) ∈ lw_g := g_in (in_t1 (List.mem_of_getElem? (i := 33) (by rfl))) rfl
set_option maxRecDepth 20000 in
theorem tw_34 : Jvm.Cond.fieldLink "ChalkCastle$Plan" (9 : Nat) "ChalkCastle$Plan" "rain" "I" ∈ lw_g := g_in (in_t1 (List.mem_of_getElem? (i := 34) (by rfl))) rfl
set_option maxRecDepth 20000 in
theorem tw_35 : Jvm.Cond.fieldLink "ChalkCastle$Reader" (66 : Nat) "ChalkCastle$Plan" "rain" "I" ∈ lw_g := g_in (in_t1 (List.mem_of_getElem? (i := 35) (by rfl))) rfl
set_option maxRecDepth 20000 in
theorem tw_36 : Jvm.Cond.fieldLink "ChalkCastle$Plan" (15 : Nat) "ChalkCastle$Plan" "rubs" "I" ∈ lw_g := g_in (in_t1 (List.mem_of_getElem? (i := 36) (by rfl))) rfl
set_option maxRecDepth 20000 in
theorem tw_37 : Jvm.Cond.fieldLink "ChalkCastle$Reader" (69 : Nat) "ChalkCastle$Plan" "rubs" "I" ∈ lw_g := g_in (in_t1 (List.mem_of_getElem? (i := 37) (by rfl))) rfl
set_option maxRecDepth 20000 in
theorem tw_38 : Jvm.Cond.fieldLink "ChalkCastle" (190 : Nat) "ChalkCastle$Plan" "rubs" "I" ∈ lw_g := g_in (in_t1 (List.mem_of_getElem? (i := 38) (by rfl))) rfl
set_option maxRecDepth 20000 in
theorem tw_39 : Jvm.Cond.fieldLink "ChalkCastle$Plan" (18 : Nat) "ChalkCastle$Plan" "blocks" "I" ∈ lw_g := g_in (in_t1 (List.mem_of_getElem? (i := 39) (by rfl))) rfl
set_option maxRecDepth 20000 in
theorem tw_40 : Jvm.Cond.fieldLink "ChalkCastle$Reader" (72 : Nat) "ChalkCastle$Plan" "blocks" "I" ∈ lw_g := g_in (in_t1 (List.mem_of_getElem? (i := 40) (by rfl))) rfl
set_option maxRecDepth 20000 in
theorem tw_41 : Jvm.Cond.fieldLink "ChalkCastle" (152 : Nat) "ChalkCastle$Plan" "blocks" "I" ∈ lw_g := g_in (in_t1 (List.mem_of_getElem? (i := 41) (by rfl))) rfl
set_option maxRecDepth 20000 in
theorem tw_42 : Jvm.Cond.fieldLink "ChalkCastle$Plan" (21 : Nat) "ChalkCastle$Plan" "rests" "I" ∈ lw_g := g_in (in_t1 (List.mem_of_getElem? (i := 42) (by rfl))) rfl
set_option maxRecDepth 20000 in
theorem tw_43 : Jvm.Cond.fieldLink "ChalkCastle$Reader" (82 : Nat) "ChalkCastle$Plan" "rests" "I" ∈ lw_g := g_in (in_t1 (List.mem_of_getElem? (i := 43) (by rfl))) rfl
set_option maxRecDepth 20000 in
theorem tw_44 : Jvm.Cond.fieldLink "ChalkCastle" (321 : Nat) "ChalkCastle$Plan" "rests" "I" ∈ lw_g := g_in (in_t1 (List.mem_of_getElem? (i := 44) (by rfl))) rfl
set_option maxRecDepth 20000 in
theorem tw_45 : Jvm.Cond.fieldLink "ChalkCastle$Plan" (24 : Nat) "ChalkCastle$Plan" "clerks" "I" ∈ lw_g := g_in (in_t1 (List.mem_of_getElem? (i := 45) (by rfl))) rfl
set_option maxRecDepth 20000 in
theorem tw_46 : Jvm.Cond.fieldLink "ChalkCastle$Reader" (88 : Nat) "ChalkCastle$Plan" "clerks" "I" ∈ lw_g := g_in (in_t1 (List.mem_of_getElem? (i := 46) (by rfl))) rfl
set_option maxRecDepth 20000 in
theorem tw_47 : Jvm.Cond.fieldLink "ChalkCastle" (265 : Nat) "ChalkCastle$Plan" "clerks" "I" ∈ lw_g := g_in (in_t1 (List.mem_of_getElem? (i := 47) (by rfl))) rfl
set_option maxRecDepth 20000 in
theorem tw_48 : Jvm.Cond.fieldLink "ChalkCastle$Plan" (27 : Nat) "ChalkCastle$Plan" "chalk" "[I" ∈ lw_g := g_in (in_t1 (List.mem_of_getElem? (i := 48) (by rfl))) rfl
set_option maxRecDepth 20000 in
theorem tw_49 : Jvm.Cond.fieldLink "ChalkCastle$State" (25 : Nat) "ChalkCastle$Plan" "chalk" "[I" ∈ lw_g := g_in (in_t1 (List.mem_of_getElem? (i := 49) (by rfl))) rfl
set_option maxRecDepth 20000 in
theorem tw_50 : Jvm.Cond.fieldLink "ChalkCastle$Reader" (79 : Nat) "ChalkCastle$Plan" "chalk" "[I" ∈ lw_g := g_in (in_t1 (List.mem_of_getElem? (i := 50) (by rfl))) rfl
set_option maxRecDepth 20000 in
theorem tw_51 : Jvm.Cond.fieldLink "ChalkCastle$Plan" (31 : Nat) "ChalkCastle$Plan" "below" "[I" ∈ lw_g := g_in (in_t1 (List.mem_of_getElem? (i := 51) (by rfl))) rfl
set_option maxRecDepth 20000 in
theorem tw_52 : Jvm.Cond.fieldLink "ChalkCastle$Reader" (85 : Nat) "ChalkCastle$Plan" "below" "[I" ∈ lw_g := g_in (in_t1 (List.mem_of_getElem? (i := 52) (by rfl))) rfl
set_option maxRecDepth 20000 in
theorem tw_53 : Jvm.Cond.fieldLink "ChalkCastle" (208 : Nat) "ChalkCastle$Plan" "below" "[I" ∈ lw_g := g_in (in_t1 (List.mem_of_getElem? (i := 53) (by rfl))) rfl
set_option maxRecDepth 20000 in
theorem tw_54 : Jvm.Cond.fieldLink "ChalkCastle$Plan" (34 : Nat) "ChalkCastle$Plan" "layers" "[I" ∈ lw_g := g_in (in_t1 (List.mem_of_getElem? (i := 54) (by rfl))) rfl
set_option maxRecDepth 20000 in
theorem tw_55 : Jvm.Cond.fieldLink "ChalkCastle" (272 : Nat) "ChalkCastle$Plan" "layers" "[I" ∈ lw_g := g_in (in_t1 (List.mem_of_getElem? (i := 55) (by rfl))) rfl
set_option maxRecDepth 20000 in
theorem tw_56 : Jvm.Cond.fieldLink "ChalkCastle$Plan" (37 : Nat) "ChalkCastle$Plan" "kinds" "[I" ∈ lw_g := g_in (in_t1 (List.mem_of_getElem? (i := 56) (by rfl))) rfl
set_option maxRecDepth 20000 in
theorem tw_57 : Jvm.Cond.fieldLink "ChalkCastle$Reader" (91 : Nat) "ChalkCastle$Plan" "kinds" "[I" ∈ lw_g := g_in (in_t1 (List.mem_of_getElem? (i := 57) (by rfl))) rfl
set_option maxRecDepth 20000 in
theorem tw_58 : Jvm.Cond.fieldLink "ChalkCastle" (301 : Nat) "ChalkCastle$Plan" "kinds" "[I" ∈ lw_g := g_in (in_t1 (List.mem_of_getElem? (i := 58) (by rfl))) rfl
set_option maxRecDepth 20000 in
theorem tw_59 : Jvm.Cond.fieldLink "ChalkCastle$Plan" (40 : Nat) "ChalkCastle$Plan" "hands" "[I" ∈ lw_g := g_in (in_t1 (List.mem_of_getElem? (i := 59) (by rfl))) rfl
set_option maxRecDepth 20000 in
theorem tw_60 : Jvm.Cond.fieldLink "ChalkCastle$Reader" (94 : Nat) "ChalkCastle$Plan" "hands" "[I" ∈ lw_g := g_in (in_t1 (List.mem_of_getElem? (i := 60) (by rfl))) rfl
set_option maxRecDepth 20000 in
theorem tw_61 : Jvm.Cond.fieldLink "ChalkCastle" (214 : Nat) "ChalkCastle$Plan" "hands" "[I" ∈ lw_g := g_in (in_t1 (List.mem_of_getElem? (i := 61) (by rfl))) rfl
set_option maxRecDepth 20000 in
theorem tw_84 : Jvm.Cond.fieldLink "ChalkCastle$Reader" (12 : Nat) "ChalkCastle$Reader" "plan" "LChalkCastle$Plan;" ∈ lw_g := g_in (in_t1 (List.mem_of_getElem? (i := 84) (by rfl))) rfl
set_option maxRecDepth 20000 in
theorem tw_85 : Jvm.Cond.fieldLink "ChalkCastle" (145 : Nat) "ChalkCastle$Reader" "plan" "LChalkCastle$Plan;" ∈ lw_g := g_in (in_t1 (List.mem_of_getElem? (i := 85) (by rfl))) rfl
set_option maxRecDepth 20000 in
theorem tw_86 : Jvm.Cond.fieldLink "ChalkCastle$Reader" (18 : Nat) "ChalkCastle$Reader" "tape" "[I" ∈ lw_g := g_in (in_t1 (List.mem_of_getElem? (i := 86) (by rfl))) rfl
set_option maxRecDepth 20000 in
theorem tw_87 : Jvm.Cond.fieldLink "ChalkCastle$Reader" (22 : Nat) "ChalkCastle$Reader" "bytes" "I" ∈ lw_g := g_in (in_t1 (List.mem_of_getElem? (i := 87) (by rfl))) rfl
set_option maxRecDepth 20000 in
theorem tw_88 : Jvm.Cond.fieldLink "ChalkCastle" (131 : Nat) "ChalkCastle$Reader" "bytes" "I" ∈ lw_g := g_in (in_t1 (List.mem_of_getElem? (i := 88) (by rfl))) rfl
set_option maxRecDepth 20000 in
theorem tw_89 : Jvm.Cond.fieldLink "ChalkCastle$Reader" (26 : Nat) "ChalkCastle$Reader" "place" "I" ∈ lw_g := g_in (in_t1 (List.mem_of_getElem? (i := 89) (by rfl))) rfl
set_option maxRecDepth 20000 in
theorem tw_90 : Jvm.Cond.fieldLink "ChalkCastle" (142 : Nat) "ChalkCastle$Reader" "place" "I" ∈ lw_g := g_in (in_t1 (List.mem_of_getElem? (i := 90) (by rfl))) rfl
set_option maxRecDepth 20000 in
theorem tw_91 : Jvm.Cond.fieldLink "ChalkCastle$Reader" (29 : Nat) "ChalkCastle$Reader" "fault" "I" ∈ lw_g := g_in (in_t1 (List.mem_of_getElem? (i := 91) (by rfl))) rfl
set_option maxRecDepth 20000 in
theorem tw_92 : Jvm.Cond.fieldLink "ChalkCastle" (138 : Nat) "ChalkCastle$Reader" "fault" "I" ∈ lw_g := g_in (in_t1 (List.mem_of_getElem? (i := 92) (by rfl))) rfl
set_option maxRecDepth 20000 in
theorem tw_104 : Jvm.Cond.classLink "ChalkCastle" (29 : Nat) "ChalkCastle$Plan" ∈ lw_g := g_in (in_t1 (List.mem_of_getElem? (i := 104) (by rfl))) rfl
set_option maxRecDepth 20000 in
theorem tw_105 : Jvm.Cond.methodLink "ChalkCastle" (31 : Nat) ({ cls := "ChalkCastle$Plan", name := "<init>", desc := "()V" } : Jvm.MethodName) ∈ lw_g := g_in (in_t1 (List.mem_of_getElem? (i := 105) (by rfl))) rfl
set_option maxRecDepth 20000 in
theorem tw_106 : Jvm.Cond.classLink "ChalkCastle" (36 : Nat) "ChalkCastle$State" ∈ lw_g := g_in (in_t1 (List.mem_of_getElem? (i := 106) (by rfl))) rfl
set_option maxRecDepth 20000 in
theorem tw_108 : Jvm.Cond.methodLink "ChalkCastle" (38 : Nat) ({ cls := "ChalkCastle$State", name := "<init>", desc := "()V" } : Jvm.MethodName) ∈ lw_g := g_in (in_t1 (List.mem_of_getElem? (i := 108) (by rfl))) rfl
set_option maxRecDepth 20000 in
theorem tw_109 : Jvm.Cond.instanceMethod ({ cls := "ChalkCastle$State", name := "<init>", desc := "()V" } : Jvm.MethodName) ∈ lw_g := g_in (in_t1 (List.mem_of_getElem? (i := 109) (by rfl))) rfl
set_option maxRecDepth 20000 in
theorem tw_110 : Jvm.Cond.code ({ cls := "ChalkCastle$State", name := "<init>", desc := "()V" } : Jvm.MethodName) prog_7_method_1_code (1 : Nat) (Option.none : Option Jvm.ClassFile.FieldType) ∈ lw_g := g_in (in_t1 (List.mem_of_getElem? (i := 110) (by rfl))) rfl
set_option maxRecDepth 20000 in
theorem tw_111 : Jvm.Cond.methodLink "ChalkCastle$State" (3 : Nat) ({ cls := "java/lang/Object", name := "<init>", desc := "()V" } : Jvm.MethodName) ∈ lw_g := g_in (in_t1 (List.mem_of_getElem? (i := 111) (by rfl))) rfl
set_option maxRecDepth 20000 in
theorem tw_112 : Jvm.Cond.fieldLink "ChalkCastle$State" (9 : Nat) "ChalkCastle$State" "chalk" "[I" ∈ lw_g := g_in (in_t1 (List.mem_of_getElem? (i := 112) (by rfl))) rfl
set_option maxRecDepth 20000 in
theorem tw_113 : Jvm.Cond.fieldLink "ChalkCastle" (175 : Nat) "ChalkCastle$State" "chalk" "[I" ∈ lw_g := g_in (in_t1 (List.mem_of_getElem? (i := 113) (by rfl))) rfl
set_option maxRecDepth 20000 in
theorem tw_114 : Jvm.Cond.fieldLink "ChalkCastle$Plan" (76 : Nat) "ChalkCastle$State" "chalk" "[I" ∈ lw_g := g_in (in_t1 (List.mem_of_getElem? (i := 114) (by rfl))) rfl
set_option maxRecDepth 20000 in
theorem tw_115 : Jvm.Cond.fieldLink "ChalkCastle$State" (15 : Nat) "ChalkCastle$State" "lines" "[I" ∈ lw_g := g_in (in_t1 (List.mem_of_getElem? (i := 115) (by rfl))) rfl
set_option maxRecDepth 20000 in
theorem tw_116 : Jvm.Cond.fieldLink "ChalkCastle" (184 : Nat) "ChalkCastle$State" "lines" "[I" ∈ lw_g := g_in (in_t1 (List.mem_of_getElem? (i := 116) (by rfl))) rfl
set_option maxRecDepth 20000 in
theorem tw_117 : Jvm.Cond.fieldLink "ChalkCastle$State" (18 : Nat) "ChalkCastle$State" "dust" "I" ∈ lw_g := g_in (in_t1 (List.mem_of_getElem? (i := 117) (by rfl))) rfl
set_option maxRecDepth 20000 in
theorem tw_118 : Jvm.Cond.fieldLink "ChalkCastle" (187 : Nat) "ChalkCastle$State" "dust" "I" ∈ lw_g := g_in (in_t1 (List.mem_of_getElem? (i := 118) (by rfl))) rfl
set_option maxRecDepth 20000 in
theorem tw_119 : Jvm.Cond.fieldLink "ChalkCastle$State" (22 : Nat) "ChalkCastle$State" "day" "I" ∈ lw_g := g_in (in_t1 (List.mem_of_getElem? (i := 119) (by rfl))) rfl
set_option maxRecDepth 20000 in
theorem tw_120 : Jvm.Cond.fieldLink "ChalkCastle" (168 : Nat) "ChalkCastle$State" "day" "I" ∈ lw_g := g_in (in_t1 (List.mem_of_getElem? (i := 120) (by rfl))) rfl
set_option maxRecDepth 20000 in
theorem tw_132 : Jvm.Cond.classLink "ChalkCastle" (63 : Nat) "ChalkCastle$Search" ∈ lw_g := g_in (in_t1 (List.mem_of_getElem? (i := 132) (by rfl))) rfl
set_option maxRecDepth 20000 in
theorem tw_134 : Jvm.Cond.methodLink "ChalkCastle" (65 : Nat) ({ cls := "ChalkCastle$Search", name := "<init>", desc := "()V" } : Jvm.MethodName) ∈ lw_g := g_in (in_t1 (List.mem_of_getElem? (i := 134) (by rfl))) rfl
set_option maxRecDepth 20000 in
theorem tw_135 : Jvm.Cond.instanceMethod ({ cls := "ChalkCastle$Search", name := "<init>", desc := "()V" } : Jvm.MethodName) ∈ lw_g := g_in (in_t1 (List.mem_of_getElem? (i := 135) (by rfl))) rfl
set_option maxRecDepth 20000 in
theorem tw_136 : Jvm.Cond.code ({ cls := "ChalkCastle$Search", name := "<init>", desc := "()V" } : Jvm.MethodName) prog_6_method_1_code (1 : Nat) (Option.none : Option Jvm.ClassFile.FieldType) ∈ lw_g := g_in (in_t1 (List.mem_of_getElem? (i := 136) (by rfl))) rfl
set_option maxRecDepth 20000 in
theorem tw_137 : Jvm.Cond.methodLink "ChalkCastle$Search" (3 : Nat) ({ cls := "java/lang/Object", name := "<init>", desc := "()V" } : Jvm.MethodName) ∈ lw_g := g_in (in_t1 (List.mem_of_getElem? (i := 137) (by rfl))) rfl
set_option maxRecDepth 20000 in
theorem tw_138 : Jvm.Cond.classLink "ChalkCastle$Search" (9 : Nat) "ChalkCastle$State" ∈ lw_g := g_in (in_t1 (List.mem_of_getElem? (i := 138) (by rfl))) rfl
set_option maxRecDepth 20000 in
theorem tw_139 : Jvm.Cond.methodLink "ChalkCastle$Search" (11 : Nat) ({ cls := "ChalkCastle$State", name := "<init>", desc := "()V" } : Jvm.MethodName) ∈ lw_g := g_in (in_t1 (List.mem_of_getElem? (i := 139) (by rfl))) rfl
set_option maxRecDepth 20000 in
theorem tw_140 : Jvm.Cond.fieldLink "ChalkCastle$Search" (12 : Nat) "ChalkCastle$Search" "state" "LChalkCastle$State;" ∈ lw_g := g_in (in_t1 (List.mem_of_getElem? (i := 140) (by rfl))) rfl
set_option maxRecDepth 20000 in
theorem tw_141 : Jvm.Cond.fieldLink "ChalkCastle" (325 : Nat) "ChalkCastle$Search" "state" "LChalkCastle$State;" ∈ lw_g := g_in (in_t1 (List.mem_of_getElem? (i := 141) (by rfl))) rfl
set_option maxRecDepth 20000 in
theorem tw_142 : Jvm.Cond.fieldLink "ChalkCastle$Search" (18 : Nat) "ChalkCastle$Search" "needs" "[I" ∈ lw_g := g_in (in_t1 (List.mem_of_getElem? (i := 142) (by rfl))) rfl
set_option maxRecDepth 20000 in
theorem tw_143 : Jvm.Cond.fieldLink "ChalkCastle" (248 : Nat) "ChalkCastle$Search" "needs" "[I" ∈ lw_g := g_in (in_t1 (List.mem_of_getElem? (i := 143) (by rfl))) rfl
set_option maxRecDepth 20000 in
theorem tw_144 : Jvm.Cond.fieldLink "ChalkCastle$Search" (22 : Nat) "ChalkCastle$Search" "way" "[I" ∈ lw_g := g_in (in_t1 (List.mem_of_getElem? (i := 144) (by rfl))) rfl
set_option maxRecDepth 20000 in
theorem tw_145 : Jvm.Cond.fieldLink "ChalkCastle" (335 : Nat) "ChalkCastle$Search" "way" "[I" ∈ lw_g := g_in (in_t1 (List.mem_of_getElem? (i := 145) (by rfl))) rfl
set_option maxRecDepth 20000 in
theorem tw_146 : Jvm.Cond.fieldLink "ChalkCastle$Search" (25 : Nat) "ChalkCastle$Search" "firstWay" "[I" ∈ lw_g := g_in (in_t1 (List.mem_of_getElem? (i := 146) (by rfl))) rfl
set_option maxRecDepth 20000 in
theorem tw_147 : Jvm.Cond.fieldLink "ChalkCastle" (258 : Nat) "ChalkCastle$Search" "firstWay" "[I" ∈ lw_g := g_in (in_t1 (List.mem_of_getElem? (i := 147) (by rfl))) rfl
set_option maxRecDepth 20000 in
theorem tw_148 : Jvm.Cond.fieldLink "ChalkCastle$Search" (28 : Nat) "ChalkCastle$Search" "n" "I" ∈ lw_g := g_in (in_t1 (List.mem_of_getElem? (i := 148) (by rfl))) rfl
set_option maxRecDepth 20000 in
theorem tw_149 : Jvm.Cond.fieldLink "ChalkCastle" (328 : Nat) "ChalkCastle$Search" "n" "I" ∈ lw_g := g_in (in_t1 (List.mem_of_getElem? (i := 149) (by rfl))) rfl
set_option maxRecDepth 20000 in
theorem tw_150 : Jvm.Cond.fieldLink "ChalkCastle$Search" (32 : Nat) "ChalkCastle$Search" "most" "I" ∈ lw_g := g_in (in_t1 (List.mem_of_getElem? (i := 150) (by rfl))) rfl
set_option maxRecDepth 20000 in
theorem tw_151 : Jvm.Cond.fieldLink "ChalkCastle" (255 : Nat) "ChalkCastle$Search" "most" "I" ∈ lw_g := g_in (in_t1 (List.mem_of_getElem? (i := 151) (by rfl))) rfl
set_option maxRecDepth 20000 in
theorem tw_165 : Jvm.Cond.classLink "ChalkCastle" (70 : Nat) "ChalkCastle$Asking" ∈ lw_g := g_in (in_t1 (List.mem_of_getElem? (i := 165) (by rfl))) rfl
set_option maxRecDepth 20000 in
theorem tw_167 : Jvm.Cond.methodLink "ChalkCastle" (72 : Nat) ({ cls := "ChalkCastle$Asking", name := "<init>", desc := "()V" } : Jvm.MethodName) ∈ lw_g := g_in (in_t1 (List.mem_of_getElem? (i := 167) (by rfl))) rfl
set_option maxRecDepth 20000 in
theorem tw_168 : Jvm.Cond.instanceMethod ({ cls := "ChalkCastle$Asking", name := "<init>", desc := "()V" } : Jvm.MethodName) ∈ lw_g := g_in (in_t1 (List.mem_of_getElem? (i := 168) (by rfl))) rfl
set_option maxRecDepth 20000 in
theorem tw_169 : Jvm.Cond.code ({ cls := "ChalkCastle$Asking", name := "<init>", desc := "()V" } : Jvm.MethodName) prog_2_method_1_code (1 : Nat) (Option.none : Option Jvm.ClassFile.FieldType) ∈ lw_g := g_in (in_t1 (List.mem_of_getElem? (i := 169) (by rfl))) rfl
set_option maxRecDepth 20000 in
theorem tw_170 : Jvm.Cond.methodLink "ChalkCastle$Asking" (3 : Nat) ({ cls := "java/lang/Object", name := "<init>", desc := "()V" } : Jvm.MethodName) ∈ lw_g := g_in (in_t1 (List.mem_of_getElem? (i := 170) (by rfl))) rfl
set_option maxRecDepth 20000 in
theorem tw_171 : Jvm.Cond.fieldLink "ChalkCastle$Asking" (9 : Nat) "ChalkCastle$Asking" "trace" "[I" ∈ lw_g := g_in (in_t1 (List.mem_of_getElem? (i := 171) (by rfl))) rfl
set_option maxRecDepth 20000 in
theorem tw_172 : Jvm.Cond.fieldLink "ChalkCastle" (315 : Nat) "ChalkCastle$Asking" "trace" "[I" ∈ lw_g := g_in (in_t1 (List.mem_of_getElem? (i := 172) (by rfl))) rfl
set_option maxRecDepth 20000 in
theorem tw_173 : Jvm.Cond.fieldLink "ChalkCastle$Asking" (15 : Nat) "ChalkCastle$Asking" "length" "I" ∈ lw_g := g_in (in_t1 (List.mem_of_getElem? (i := 173) (by rfl))) rfl
set_option maxRecDepth 20000 in
theorem tw_174 : Jvm.Cond.fieldLink "ChalkCastle" (314 : Nat) "ChalkCastle$Asking" "length" "I" ∈ lw_g := g_in (in_t1 (List.mem_of_getElem? (i := 174) (by rfl))) rfl
set_option maxRecDepth 20000 in
theorem tw_175 : Jvm.Cond.fieldLink "ChalkCastle$Asking" (19 : Nat) "ChalkCastle$Asking" "number" "I" ∈ lw_g := g_in (in_t1 (List.mem_of_getElem? (i := 175) (by rfl))) rfl
set_option maxRecDepth 20000 in
theorem tw_176 : Jvm.Cond.fieldLink "ChalkCastle" (362 : Nat) "ChalkCastle$Asking" "number" "I" ∈ lw_g := g_in (in_t1 (List.mem_of_getElem? (i := 176) (by rfl))) rfl
set_option maxRecDepth 20000 in
theorem tw_177 : Jvm.Cond.fieldLink "ChalkCastle$Asking" (22 : Nat) "ChalkCastle$Asking" "kind" "I" ∈ lw_g := g_in (in_t1 (List.mem_of_getElem? (i := 177) (by rfl))) rfl
set_option maxRecDepth 20000 in
theorem tw_178 : Jvm.Cond.fieldLink "ChalkCastle" (350 : Nat) "ChalkCastle$Asking" "kind" "I" ∈ lw_g := g_in (in_t1 (List.mem_of_getElem? (i := 178) (by rfl))) rfl
set_option maxRecDepth 20000 in
theorem tw_179 : Jvm.Cond.fieldLink "ChalkCastle$Asking" (25 : Nat) "ChalkCastle$Asking" "hand" "I" ∈ lw_g := g_in (in_t1 (List.mem_of_getElem? (i := 179) (by rfl))) rfl
set_option maxRecDepth 20000 in
theorem tw_180 : Jvm.Cond.fieldLink "ChalkCastle" (359 : Nat) "ChalkCastle$Asking" "hand" "I" ∈ lw_g := g_in (in_t1 (List.mem_of_getElem? (i := 180) (by rfl))) rfl
set_option maxRecDepth 20000 in
theorem tw_181 : Jvm.Cond.fieldLink "ChalkCastle$Asking" (28 : Nat) "ChalkCastle$Asking" "lines" "I" ∈ lw_g := g_in (in_t1 (List.mem_of_getElem? (i := 181) (by rfl))) rfl
set_option maxRecDepth 20000 in
theorem tw_182 : Jvm.Cond.fieldLink "ChalkCastle" (365 : Nat) "ChalkCastle$Asking" "lines" "I" ∈ lw_g := g_in (in_t1 (List.mem_of_getElem? (i := 182) (by rfl))) rfl
set_option maxRecDepth 20000 in
theorem tw_197 : Jvm.Cond.methodLink "ChalkCastle" (77 : Nat) ({ cls := "ChalkCastle$Row", name := "<init>", desc := "()V" } : Jvm.MethodName) ∈ lw_g := g_in (in_t1 (List.mem_of_getElem? (i := 197) (by rfl))) rfl
set_option maxRecDepth 20000 in
theorem tw_198 : Jvm.Cond.instanceMethod ({ cls := "ChalkCastle$Row", name := "<init>", desc := "()V" } : Jvm.MethodName) ∈ lw_g := g_in (in_t1 (List.mem_of_getElem? (i := 198) (by rfl))) rfl
set_option maxRecDepth 20000 in
theorem tw_199 : Jvm.Cond.code ({ cls := "ChalkCastle$Row", name := "<init>", desc := "()V" } : Jvm.MethodName) prog_5_method_1_code (1 : Nat) (Option.none : Option Jvm.ClassFile.FieldType) ∈ lw_g := g_in (in_t1 (List.mem_of_getElem? (i := 199) (by rfl))) rfl
set_option maxRecDepth 20000 in
theorem tw_200 : Jvm.Cond.methodLink "ChalkCastle$Row" (3 : Nat) ({ cls := "java/lang/Object", name := "<init>", desc := "()V" } : Jvm.MethodName) ∈ lw_g := g_in (in_t1 (List.mem_of_getElem? (i := 200) (by rfl))) rfl
set_option maxRecDepth 20000 in
theorem tw_201 : Jvm.Cond.fieldLink "ChalkCastle$Row" (9 : Nat) "ChalkCastle$Row" "items" "[I" ∈ lw_g := g_in (in_t1 (List.mem_of_getElem? (i := 201) (by rfl))) rfl
set_option maxRecDepth 20000 in
theorem tw_202 : Jvm.Cond.fieldLink "ChalkCastle" (98 : Nat) "ChalkCastle$Row" "items" "[I" ∈ lw_g := g_in (in_t1 (List.mem_of_getElem? (i := 202) (by rfl))) rfl
set_option maxRecDepth 20000 in
theorem tw_203 : Jvm.Cond.fieldLink "ChalkCastle$Row" (15 : Nat) "ChalkCastle$Row" "lane" "I" ∈ lw_g := g_in (in_t1 (List.mem_of_getElem? (i := 203) (by rfl))) rfl
set_option maxRecDepth 20000 in
theorem tw_204 : Jvm.Cond.fieldLink "ChalkCastle" (109 : Nat) "ChalkCastle$Row" "lane" "I" ∈ lw_g := g_in (in_t1 (List.mem_of_getElem? (i := 204) (by rfl))) rfl
set_option maxRecDepth 20000 in
theorem tw_205 : Jvm.Cond.fieldLink "ChalkCastle$Row" (19 : Nat) "ChalkCastle$Row" "length" "I" ∈ lw_g := g_in (in_t1 (List.mem_of_getElem? (i := 205) (by rfl))) rfl
set_option maxRecDepth 20000 in
theorem tw_206 : Jvm.Cond.fieldLink "ChalkCastle" (121 : Nat) "ChalkCastle$Row" "length" "I" ∈ lw_g := g_in (in_t1 (List.mem_of_getElem? (i := 206) (by rfl))) rfl
set_option maxRecDepth 20000 in
theorem tw_214 : Jvm.Cond.fieldLink "ChalkCastle" (11 : Nat) "ChalkCastle" "rows" "[LChalkCastle$Row;" ∈ lw_g := g_in (in_t1 (List.mem_of_getElem? (i := 214) (by rfl))) rfl
set_option maxRecDepth 20000 in
theorem tw_215 : Jvm.Cond.fieldLink "ChalkCastle" (18 : Nat) "ChalkCastle" "reader" "LChalkCastle$Reader;" ∈ lw_g := g_in (in_t1 (List.mem_of_getElem? (i := 215) (by rfl))) rfl
set_option maxRecDepth 20000 in
theorem tw_216 : Jvm.Cond.fieldLink "ChalkCastle" (22 : Nat) "ChalkCastle" "latestFault" "I" ∈ lw_g := g_in (in_t1 (List.mem_of_getElem? (i := 216) (by rfl))) rfl
set_option maxRecDepth 20000 in
theorem tw_217 : Jvm.Cond.fieldLink "ChalkCastle" (26 : Nat) "ChalkCastle" "finding" "I" ∈ lw_g := g_in (in_t1 (List.mem_of_getElem? (i := 217) (by rfl))) rfl
set_option maxRecDepth 20000 in
theorem tw_218 : Jvm.Cond.fieldLink "ChalkCastle" (32 : Nat) "ChalkCastle" "plan" "LChalkCastle$Plan;" ∈ lw_g := g_in (in_t1 (List.mem_of_getElem? (i := 218) (by rfl))) rfl
set_option maxRecDepth 20000 in
theorem tw_219 : Jvm.Cond.fieldLink "ChalkCastle" (39 : Nat) "ChalkCastle" "now" "LChalkCastle$State;" ∈ lw_g := g_in (in_t1 (List.mem_of_getElem? (i := 219) (by rfl))) rfl
set_option maxRecDepth 20000 in
theorem tw_220 : Jvm.Cond.fieldLink "ChalkCastle" (43 : Nat) "ChalkCastle" "ahead" "[LChalkCastle$State;" ∈ lw_g := g_in (in_t1 (List.mem_of_getElem? (i := 220) (by rfl))) rfl
set_option maxRecDepth 20000 in
theorem tw_221 : Jvm.Cond.fieldLink "ChalkCastle" (47 : Nat) "ChalkCastle" "nextAct" "I" ∈ lw_g := g_in (in_t1 (List.mem_of_getElem? (i := 221) (by rfl))) rfl
set_option maxRecDepth 20000 in
theorem tw_222 : Jvm.Cond.fieldLink "ChalkCastle" (50 : Nat) "ChalkCastle" "acts" "I" ∈ lw_g := g_in (in_t1 (List.mem_of_getElem? (i := 222) (by rfl))) rfl
set_option maxRecDepth 20000 in
theorem tw_223 : Jvm.Cond.fieldLink "ChalkCastle" (53 : Nat) "ChalkCastle" "imagePlans" "[LChalkCastle$Plan;" ∈ lw_g := g_in (in_t1 (List.mem_of_getElem? (i := 223) (by rfl))) rfl
set_option maxRecDepth 20000 in
theorem tw_224 : Jvm.Cond.fieldLink "ChalkCastle" (57 : Nat) "ChalkCastle" "imageStates" "[LChalkCastle$State;" ∈ lw_g := g_in (in_t1 (List.mem_of_getElem? (i := 224) (by rfl))) rfl
set_option maxRecDepth 20000 in
theorem tw_225 : Jvm.Cond.fieldLink "ChalkCastle" (60 : Nat) "ChalkCastle" "foretold" "LChalkCastle$State;" ∈ lw_g := g_in (in_t1 (List.mem_of_getElem? (i := 225) (by rfl))) rfl
set_option maxRecDepth 20000 in
theorem tw_226 : Jvm.Cond.fieldLink "ChalkCastle" (66 : Nat) "ChalkCastle" "search" "LChalkCastle$Search;" ∈ lw_g := g_in (in_t1 (List.mem_of_getElem? (i := 226) (by rfl))) rfl
set_option maxRecDepth 20000 in
theorem tw_227 : Jvm.Cond.fieldLink "ChalkCastle" (73 : Nat) "ChalkCastle" "asking" "LChalkCastle$Asking;" ∈ lw_g := g_in (in_t1 (List.mem_of_getElem? (i := 227) (by rfl))) rfl
set_option maxRecDepth 20000 in
theorem tw_258 : Jvm.Cond.instanceMethod ({ cls := "ChalkCastle", name := "row", desc := "(III)I" } : Jvm.MethodName) ∈ lw_g := g_in (in_t2 (List.mem_of_getElem? (i := 18) (by rfl))) rfl
set_option maxRecDepth 20000 in
theorem tw_260 : Jvm.Cond.code ({ cls := "ChalkCastle", name := "row", desc := "(III)I" } : Jvm.MethodName) prog_1_method_2_code (4 : Nat) (Option.some Jvm.ClassFile.FieldType.int) ∈ lw_g := g_in (in_t2 (List.mem_of_getElem? (i := 20) (by rfl))) rfl
set_option maxRecDepth 20000 in
theorem tw_261 : Jvm.Cond.methodLink "ChalkCastle" (78 : Nat) ({ cls := "ChalkCastle", name := "isBelow", desc := "(II)Z" } : Jvm.MethodName) ∈ lw_g := g_in (in_t2 (List.mem_of_getElem? (i := 21) (by rfl))) rfl
set_option maxRecDepth 20000 in
theorem tw_262 : Jvm.Cond.static ({ cls := "ChalkCastle", name := "isBelow", desc := "(II)Z" } : Jvm.MethodName) ∈ lw_g := g_in (in_t2 (List.mem_of_getElem? (i := 22) (by rfl))) rfl
set_option maxRecDepth 20000 in
theorem tw_263 : Jvm.Cond.code ({ cls := "ChalkCastle", name := "isBelow", desc := "(II)Z" } : Jvm.MethodName) prog_1_method_38_code (2 : Nat) (Option.some Jvm.ClassFile.FieldType.boolean) ∈ lw_g := g_in (in_t2 (List.mem_of_getElem? (i := 23) (by rfl))) rfl
set_option maxRecDepth 20000 in
theorem tw_264 : Jvm.Cond.constant "ChalkCastle" (82 : Nat) (-1000001 : Int32) ∈ lw_g := g_in (in_t2 (List.mem_of_getElem? (i := 24) (by rfl))) rfl
set_option maxRecDepth 20000 in
theorem tw_265 : Jvm.Cond.methodLink "ChalkCastle" (83 : Nat) ({ cls := "ChalkCastle", name := "found", desc := "(I)I" } : Jvm.MethodName) ∈ lw_g := g_in (in_t2 (List.mem_of_getElem? (i := 25) (by rfl))) rfl
set_option maxRecDepth 20000 in
theorem tw_267 : Jvm.Cond.instanceMethod ({ cls := "ChalkCastle", name := "found", desc := "(I)I" } : Jvm.MethodName) ∈ lw_g := g_in (in_t2 (List.mem_of_getElem? (i := 27) (by rfl))) rfl
set_option maxRecDepth 20000 in
theorem tw_268 : Jvm.Cond.code ({ cls := "ChalkCastle", name := "found", desc := "(I)I" } : Jvm.MethodName) prog_1_method_40_code (2 : Nat) (Option.some Jvm.ClassFile.FieldType.int) ∈ lw_g := g_in (in_t2 (List.mem_of_getElem? (i := 28) (by rfl))) rfl
set_option maxRecDepth 20000 in
theorem tw_269 : Jvm.Cond.constant "ChalkCastle" (324 : Nat) (-1000010 : Int32) ∈ lw_g := g_in (in_t2 (List.mem_of_getElem? (i := 29) (by rfl))) rfl
set_option maxRecDepth 20000 in
theorem tw_270 : Jvm.Cond.methodLink "ChalkCastle" (87 : Nat) ({ cls := "ChalkCastle$Row", name := "begin", desc := "(II)V" } : Jvm.MethodName) ∈ lw_g := g_in (in_t2 (List.mem_of_getElem? (i := 30) (by rfl))) rfl
set_option maxRecDepth 20000 in
theorem tw_271 : Jvm.Cond.instanceMethod ({ cls := "ChalkCastle$Row", name := "begin", desc := "(II)V" } : Jvm.MethodName) ∈ lw_g := g_in (in_t2 (List.mem_of_getElem? (i := 31) (by rfl))) rfl
set_option maxRecDepth 20000 in
theorem tw_273 : Jvm.Cond.code ({ cls := "ChalkCastle$Row", name := "begin", desc := "(II)V" } : Jvm.MethodName) prog_5_method_2_code (4 : Nat) (Option.none : Option Jvm.ClassFile.FieldType) ∈ lw_g := g_in (in_t2 (List.mem_of_getElem? (i := 33) (by rfl))) rfl
set_option maxRecDepth 20000 in
theorem tw_274 : Jvm.Cond.methodLink "ChalkCastle$Row" (22 : Nat) ({ cls := "java/lang/Math", name := "min", desc := "(II)I" } : Jvm.MethodName) ∈ lw_g := g_in (in_t2 (List.mem_of_getElem? (i := 34) (by rfl))) rfl
set_option maxRecDepth 20000 in
theorem tw_277 : Jvm.Cond.methodLink "ChalkCastle" (91 : Nat) ({ cls := "ChalkCastle", name := "foundNone", desc := "(I)I" } : Jvm.MethodName) ∈ lw_g := g_in (in_t2 (List.mem_of_getElem? (i := 37) (by rfl))) rfl
set_option maxRecDepth 20000 in
theorem tw_279 : Jvm.Cond.instanceMethod ({ cls := "ChalkCastle", name := "foundNone", desc := "(I)I" } : Jvm.MethodName) ∈ lw_g := g_in (in_t2 (List.mem_of_getElem? (i := 39) (by rfl))) rfl
set_option maxRecDepth 20000 in
theorem tw_280 : Jvm.Cond.code ({ cls := "ChalkCastle", name := "foundNone", desc := "(I)I" } : Jvm.MethodName) prog_1_method_41_code (2 : Nat) (Option.some Jvm.ClassFile.FieldType.int) ∈ lw_g := g_in (in_t2 (List.mem_of_getElem? (i := 40) (by rfl))) rfl
set_option maxRecDepth 20000 in
theorem tw_282 : Jvm.Cond.instanceMethod ({ cls := "ChalkCastle", name := "set", desc := "(III)I" } : Jvm.MethodName) ∈ lw_g := g_in (in_t2 (List.mem_of_getElem? (i := 42) (by rfl))) rfl
set_option maxRecDepth 20000 in
theorem tw_284 : Jvm.Cond.code ({ cls := "ChalkCastle", name := "set", desc := "(III)I" } : Jvm.MethodName) prog_1_method_3_code (6 : Nat) (Option.some Jvm.ClassFile.FieldType.int) ∈ lw_g := g_in (in_t2 (List.mem_of_getElem? (i := 44) (by rfl))) rfl
set_option maxRecDepth 20000 in
theorem tw_285 : Jvm.Cond.methodLink "ChalkCastle" (94 : Nat) ({ cls := "ChalkCastle$Row", name := "lackOf", desc := "(II)I" } : Jvm.MethodName) ∈ lw_g := g_in (in_t2 (List.mem_of_getElem? (i := 45) (by rfl))) rfl
set_option maxRecDepth 20000 in
theorem tw_286 : Jvm.Cond.instanceMethod ({ cls := "ChalkCastle$Row", name := "lackOf", desc := "(II)I" } : Jvm.MethodName) ∈ lw_g := g_in (in_t2 (List.mem_of_getElem? (i := 46) (by rfl))) rfl
set_option maxRecDepth 20000 in
theorem tw_288 : Jvm.Cond.code ({ cls := "ChalkCastle$Row", name := "lackOf", desc := "(II)I" } : Jvm.MethodName) prog_5_method_6_code (3 : Nat) (Option.some Jvm.ClassFile.FieldType.int) ∈ lw_g := g_in (in_t2 (List.mem_of_getElem? (i := 48) (by rfl))) rfl
set_option maxRecDepth 20000 in
theorem tw_289 : Jvm.Cond.methodLink "ChalkCastle$Row" (28 : Nat) ({ cls := "ChalkCastle$Row", name := "isMissing", desc := "()Z" } : Jvm.MethodName) ∈ lw_g := g_in (in_t2 (List.mem_of_getElem? (i := 49) (by rfl))) rfl
set_option maxRecDepth 20000 in
theorem tw_290 : Jvm.Cond.instanceMethod ({ cls := "ChalkCastle$Row", name := "isMissing", desc := "()Z" } : Jvm.MethodName) ∈ lw_g := g_in (in_t2 (List.mem_of_getElem? (i := 50) (by rfl))) rfl
set_option maxRecDepth 20000 in
theorem tw_292 : Jvm.Cond.code ({ cls := "ChalkCastle$Row", name := "isMissing", desc := "()Z" } : Jvm.MethodName) prog_5_method_4_code (1 : Nat) (Option.some Jvm.ClassFile.FieldType.boolean) ∈ lw_g := g_in (in_t2 (List.mem_of_getElem? (i := 52) (by rfl))) rfl
set_option maxRecDepth 20000 in
theorem tw_293 : Jvm.Cond.methodLink "ChalkCastle$Row" (32 : Nat) ({ cls := "ChalkCastle$Row", name := "hasPlaces", desc := "(II)Z" } : Jvm.MethodName) ∈ lw_g := g_in (in_t2 (List.mem_of_getElem? (i := 53) (by rfl))) rfl
set_option maxRecDepth 20000 in
theorem tw_294 : Jvm.Cond.instanceMethod ({ cls := "ChalkCastle$Row", name := "hasPlaces", desc := "(II)Z" } : Jvm.MethodName) ∈ lw_g := g_in (in_t2 (List.mem_of_getElem? (i := 54) (by rfl))) rfl
set_option maxRecDepth 20000 in
theorem tw_296 : Jvm.Cond.code ({ cls := "ChalkCastle$Row", name := "hasPlaces", desc := "(II)Z" } : Jvm.MethodName) prog_5_method_5_code (3 : Nat) (Option.some Jvm.ClassFile.FieldType.boolean) ∈ lw_g := g_in (in_t2 (List.mem_of_getElem? (i := 56) (by rfl))) rfl
set_option maxRecDepth 20000 in
theorem tw_297 : Jvm.Cond.methodLink "ChalkCastle" (102 : Nat) ({ cls := "ChalkCastle$Row", name := "lowestBits", desc := "(I)I" } : Jvm.MethodName) ∈ lw_g := g_in (in_t2 (List.mem_of_getElem? (i := 57) (by rfl))) rfl
set_option maxRecDepth 20000 in
theorem tw_298 : Jvm.Cond.instanceMethod ({ cls := "ChalkCastle$Row", name := "lowestBits", desc := "(I)I" } : Jvm.MethodName) ∈ lw_g := g_in (in_t2 (List.mem_of_getElem? (i := 58) (by rfl))) rfl
set_option maxRecDepth 20000 in
theorem tw_300 : Jvm.Cond.code ({ cls := "ChalkCastle$Row", name := "lowestBits", desc := "(I)I" } : Jvm.MethodName) prog_5_method_7_code (2 : Nat) (Option.some Jvm.ClassFile.FieldType.int) ∈ lw_g := g_in (in_t2 (List.mem_of_getElem? (i := 60) (by rfl))) rfl
set_option maxRecDepth 20000 in
theorem tw_302 : Jvm.Cond.instanceMethod ({ cls := "ChalkCastle", name := "copy", desc := "(IIIII)I" } : Jvm.MethodName) ∈ lw_g := g_in (in_t2 (List.mem_of_getElem? (i := 62) (by rfl))) rfl
set_option maxRecDepth 20000 in
theorem tw_304 : Jvm.Cond.code ({ cls := "ChalkCastle", name := "copy", desc := "(IIIII)I" } : Jvm.MethodName) prog_1_method_4_code (8 : Nat) (Option.some Jvm.ClassFile.FieldType.int) ∈ lw_g := g_in (in_t2 (List.mem_of_getElem? (i := 64) (by rfl))) rfl
set_option maxRecDepth 20000 in
theorem tw_305 : Jvm.Cond.methodLink "ChalkCastle" (105 : Nat) ({ cls := "ChalkCastle$Row", name := "isMissing", desc := "()Z" } : Jvm.MethodName) ∈ lw_g := g_in (in_t2 (List.mem_of_getElem? (i := 65) (by rfl))) rfl
set_option maxRecDepth 20000 in
theorem tw_306 : Jvm.Cond.methodLink "ChalkCastle" (112 : Nat) ({ cls := "ChalkCastle$Row", name := "hasPlaces", desc := "(II)Z" } : Jvm.MethodName) ∈ lw_g := g_in (in_t2 (List.mem_of_getElem? (i := 66) (by rfl))) rfl
set_option maxRecDepth 20000 in
theorem tw_307 : Jvm.Cond.methodLink "ChalkCastle" (115 : Nat) ({ cls := "java/lang/System", name := "arraycopy", desc := "(Ljava/lang/Object;ILjava/lang/Object;II)V" } : Jvm.MethodName) ∈ lw_g := g_in (in_t2 (List.mem_of_getElem? (i := 67) (by rfl))) rfl
set_option maxRecDepth 20000 in
theorem tw_311 : Jvm.Cond.instanceMethod ({ cls := "ChalkCastle", name := "drop", desc := "(I)I" } : Jvm.MethodName) ∈ lw_g := g_in (in_t2 (List.mem_of_getElem? (i := 71) (by rfl))) rfl
set_option maxRecDepth 20000 in
theorem tw_313 : Jvm.Cond.code ({ cls := "ChalkCastle", name := "drop", desc := "(I)I" } : Jvm.MethodName) prog_1_method_5_code (4 : Nat) (Option.some Jvm.ClassFile.FieldType.int) ∈ lw_g := g_in (in_t2 (List.mem_of_getElem? (i := 73) (by rfl))) rfl
set_option maxRecDepth 20000 in
theorem tw_314 : Jvm.Cond.methodLink "ChalkCastle" (124 : Nat) ({ cls := "ChalkCastle$Row", name := "drop", desc := "()V" } : Jvm.MethodName) ∈ lw_g := g_in (in_t2 (List.mem_of_getElem? (i := 74) (by rfl))) rfl
set_option maxRecDepth 20000 in
theorem tw_315 : Jvm.Cond.instanceMethod ({ cls := "ChalkCastle$Row", name := "drop", desc := "()V" } : Jvm.MethodName) ∈ lw_g := g_in (in_t2 (List.mem_of_getElem? (i := 75) (by rfl))) rfl
set_option maxRecDepth 20000 in
theorem tw_317 : Jvm.Cond.code ({ cls := "ChalkCastle$Row", name := "drop", desc := "()V" } : Jvm.MethodName) prog_5_method_3_code (1 : Nat) (Option.none : Option Jvm.ClassFile.FieldType) ∈ lw_g := g_in (in_t2 (List.mem_of_getElem? (i := 77) (by rfl))) rfl
set_option maxRecDepth 20000 in
theorem tw_319 : Jvm.Cond.instanceMethod ({ cls := "ChalkCastle", name := "feed", desc := "(I)I" } : Jvm.MethodName) ∈ lw_g := g_in (in_t2 (List.mem_of_getElem? (i := 79) (by rfl))) rfl
set_option maxRecDepth 20000 in
theorem tw_321 : Jvm.Cond.code ({ cls := "ChalkCastle", name := "feed", desc := "(I)I" } : Jvm.MethodName) prog_1_method_6_code (2 : Nat) (Option.some Jvm.ClassFile.FieldType.int) ∈ lw_g := g_in (in_t2 (List.mem_of_getElem? (i := 81) (by rfl))) rfl
set_option maxRecDepth 20000 in
theorem tw_322 : Jvm.Cond.methodLink "ChalkCastle" (127 : Nat) ({ cls := "ChalkCastle$Reader", name := "hasTaken", desc := "(I)Z" } : Jvm.MethodName) ∈ lw_g := g_in (in_t2 (List.mem_of_getElem? (i := 82) (by rfl))) rfl
set_option maxRecDepth 20000 in
theorem tw_323 : Jvm.Cond.instanceMethod ({ cls := "ChalkCastle$Reader", name := "hasTaken", desc := "(I)Z" } : Jvm.MethodName) ∈ lw_g := g_in (in_t2 (List.mem_of_getElem? (i := 83) (by rfl))) rfl
set_option maxRecDepth 20000 in
theorem tw_325 : Jvm.Cond.code ({ cls := "ChalkCastle$Reader", name := "hasTaken", desc := "(I)Z" } : Jvm.MethodName) prog_4_method_2_code (2 : Nat) (Option.some Jvm.ClassFile.FieldType.boolean) ∈ lw_g := g_in (in_t2 (List.mem_of_getElem? (i := 85) (by rfl))) rfl
set_option maxRecDepth 20000 in
theorem tw_326 : Jvm.Cond.constant "ChalkCastle" (134 : Nat) (-1000003 : Int32) ∈ lw_g := g_in (in_t2 (List.mem_of_getElem? (i := 86) (by rfl))) rfl
set_option maxRecDepth 20000 in
theorem tw_328 : Jvm.Cond.instanceMethod ({ cls := "ChalkCastle", name := "castle", desc := "()I" } : Jvm.MethodName) ∈ lw_g := g_in (in_t2 (List.mem_of_getElem? (i := 88) (by rfl))) rfl
set_option maxRecDepth 20000 in
theorem tw_330 : Jvm.Cond.code ({ cls := "ChalkCastle", name := "castle", desc := "()I" } : Jvm.MethodName) prog_1_method_7_code (1 : Nat) (Option.some Jvm.ClassFile.FieldType.int) ∈ lw_g := g_in (in_t2 (List.mem_of_getElem? (i := 90) (by rfl))) rfl
set_option maxRecDepth 20000 in
theorem tw_331 : Jvm.Cond.methodLink "ChalkCastle" (135 : Nat) ({ cls := "ChalkCastle$Reader", name := "readCastle", desc := "()V" } : Jvm.MethodName) ∈ lw_g := g_in (in_t2 (List.mem_of_getElem? (i := 91) (by rfl))) rfl
set_option maxRecDepth 20000 in
theorem tw_332 : Jvm.Cond.instanceMethod ({ cls := "ChalkCastle$Reader", name := "readCastle", desc := "()V" } : Jvm.MethodName) ∈ lw_g := g_in (in_t2 (List.mem_of_getElem? (i := 92) (by rfl))) rfl
set_option maxRecDepth 20000 in
theorem tw_334 : Jvm.Cond.code ({ cls := "ChalkCastle$Reader", name := "readCastle", desc := "()V" } : Jvm.MethodName) prog_4_method_3_code (2 : Nat) (Option.none : Option Jvm.ClassFile.FieldType) ∈ lw_g := g_in (in_t2 (List.mem_of_getElem? (i := 94) (by rfl))) rfl
set_option maxRecDepth 20000 in
theorem tw_335 : Jvm.Cond.methodLink "ChalkCastle$Reader" (32 : Nat) ({ cls := "ChalkCastle$Plan", name := "clear", desc := "()V" } : Jvm.MethodName) ∈ lw_g := g_in (in_t2 (List.mem_of_getElem? (i := 95) (by rfl))) rfl
set_option maxRecDepth 20000 in
theorem tw_336 : Jvm.Cond.instanceMethod ({ cls := "ChalkCastle$Plan", name := "clear", desc := "()V" } : Jvm.MethodName) ∈ lw_g := g_in (in_t2 (List.mem_of_getElem? (i := 96) (by rfl))) rfl
set_option maxRecDepth 20000 in
theorem tw_338 : Jvm.Cond.code ({ cls := "ChalkCastle$Plan", name := "clear", desc := "()V" } : Jvm.MethodName) prog_3_method_2_code (2 : Nat) (Option.none : Option Jvm.ClassFile.FieldType) ∈ lw_g := g_in (in_t2 (List.mem_of_getElem? (i := 98) (by rfl))) rfl
set_option maxRecDepth 20000 in
theorem tw_339 : Jvm.Cond.methodLink "ChalkCastle$Reader" (35 : Nat) ({ cls := "ChalkCastle$Reader", name := "readLaw", desc := "()V" } : Jvm.MethodName) ∈ lw_g := g_in (in_t2 (List.mem_of_getElem? (i := 99) (by rfl))) rfl
set_option maxRecDepth 20000 in
theorem tw_340 : Jvm.Cond.instanceMethod ({ cls := "ChalkCastle$Reader", name := "readLaw", desc := "()V" } : Jvm.MethodName) ∈ lw_g := g_in (in_t2 (List.mem_of_getElem? (i := 100) (by rfl))) rfl
set_option maxRecDepth 20000 in
theorem tw_342 : Jvm.Cond.code ({ cls := "ChalkCastle$Reader", name := "readLaw", desc := "()V" } : Jvm.MethodName) prog_4_method_4_code (1 : Nat) (Option.none : Option Jvm.ClassFile.FieldType) ∈ lw_g := g_in (in_t2 (List.mem_of_getElem? (i := 102) (by rfl))) rfl
set_option maxRecDepth 20000 in
theorem tw_343 : Jvm.Cond.methodLink "ChalkCastle$Reader" (58 : Nat) ({ cls := "ChalkCastle$Reader", name := "readSign", desc := "(I)V" } : Jvm.MethodName) ∈ lw_g := g_in (in_t2 (List.mem_of_getElem? (i := 103) (by rfl))) rfl
set_option maxRecDepth 20000 in
theorem tw_344 : Jvm.Cond.instanceMethod ({ cls := "ChalkCastle$Reader", name := "readSign", desc := "(I)V" } : Jvm.MethodName) ∈ lw_g := g_in (in_t2 (List.mem_of_getElem? (i := 104) (by rfl))) rfl
set_option maxRecDepth 20000 in
theorem tw_346 : Jvm.Cond.code ({ cls := "ChalkCastle$Reader", name := "readSign", desc := "(I)V" } : Jvm.MethodName) prog_4_method_11_code (2 : Nat) (Option.none : Option Jvm.ClassFile.FieldType) ∈ lw_g := g_in (in_t2 (List.mem_of_getElem? (i := 106) (by rfl))) rfl
set_option maxRecDepth 20000 in
theorem tw_347 : Jvm.Cond.methodLink "ChalkCastle$Reader" (41 : Nat) ({ cls := "ChalkCastle$Reader", name := "letter", desc := "()I" } : Jvm.MethodName) ∈ lw_g := g_in (in_t2 (List.mem_of_getElem? (i := 107) (by rfl))) rfl
set_option maxRecDepth 20000 in
theorem tw_348 : Jvm.Cond.instanceMethod ({ cls := "ChalkCastle$Reader", name := "letter", desc := "()I" } : Jvm.MethodName) ∈ lw_g := g_in (in_t2 (List.mem_of_getElem? (i := 108) (by rfl))) rfl
set_option maxRecDepth 20000 in
theorem tw_350 : Jvm.Cond.code ({ cls := "ChalkCastle$Reader", name := "letter", desc := "()I" } : Jvm.MethodName) prog_4_method_9_code (1 : Nat) (Option.some Jvm.ClassFile.FieldType.int) ∈ lw_g := g_in (in_t2 (List.mem_of_getElem? (i := 110) (by rfl))) rfl
set_option maxRecDepth 20000 in
theorem tw_351 : Jvm.Cond.methodLink "ChalkCastle$Reader" (62 : Nat) ({ cls := "ChalkCastle$Reader", name := "readNumber", desc := "(II)I" } : Jvm.MethodName) ∈ lw_g := g_in (in_t2 (List.mem_of_getElem? (i := 111) (by rfl))) rfl
set_option maxRecDepth 20000 in
theorem tw_352 : Jvm.Cond.instanceMethod ({ cls := "ChalkCastle$Reader", name := "readNumber", desc := "(II)I" } : Jvm.MethodName) ∈ lw_g := g_in (in_t2 (List.mem_of_getElem? (i := 112) (by rfl))) rfl
set_option maxRecDepth 20000 in
theorem tw_354 : Jvm.Cond.code ({ cls := "ChalkCastle$Reader", name := "readNumber", desc := "(II)I" } : Jvm.MethodName) prog_4_method_12_code (6 : Nat) (Option.some Jvm.ClassFile.FieldType.int) ∈ lw_g := g_in (in_t2 (List.mem_of_getElem? (i := 114) (by rfl))) rfl
set_option maxRecDepth 20000 in
theorem tw_355 : Jvm.Cond.methodLink "ChalkCastle$Reader" (38 : Nat) ({ cls := "ChalkCastle$Reader", name := "readBlock", desc := "()V" } : Jvm.MethodName) ∈ lw_g := g_in (in_t2 (List.mem_of_getElem? (i := 115) (by rfl))) rfl
set_option maxRecDepth 20000 in
theorem tw_356 : Jvm.Cond.instanceMethod ({ cls := "ChalkCastle$Reader", name := "readBlock", desc := "()V" } : Jvm.MethodName) ∈ lw_g := g_in (in_t2 (List.mem_of_getElem? (i := 116) (by rfl))) rfl
set_option maxRecDepth 20000 in
theorem tw_358 : Jvm.Cond.code ({ cls := "ChalkCastle$Reader", name := "readBlock", desc := "()V" } : Jvm.MethodName) prog_4_method_5_code (2 : Nat) (Option.none : Option Jvm.ClassFile.FieldType) ∈ lw_g := g_in (in_t2 (List.mem_of_getElem? (i := 118) (by rfl))) rfl
set_option maxRecDepth 20000 in
theorem tw_359 : Jvm.Cond.methodLink "ChalkCastle$Reader" (75 : Nat) ({ cls := "ChalkCastle$Reader", name := "lookForRoom", desc := "(III)V" } : Jvm.MethodName) ∈ lw_g := g_in (in_t2 (List.mem_of_getElem? (i := 119) (by rfl))) rfl
set_option maxRecDepth 20000 in
theorem tw_360 : Jvm.Cond.instanceMethod ({ cls := "ChalkCastle$Reader", name := "lookForRoom", desc := "(III)V" } : Jvm.MethodName) ∈ lw_g := g_in (in_t2 (List.mem_of_getElem? (i := 120) (by rfl))) rfl
set_option maxRecDepth 20000 in
theorem tw_362 : Jvm.Cond.code ({ cls := "ChalkCastle$Reader", name := "lookForRoom", desc := "(III)V" } : Jvm.MethodName) prog_4_method_10_code (4 : Nat) (Option.none : Option Jvm.ClassFile.FieldType) ∈ lw_g := g_in (in_t2 (List.mem_of_getElem? (i := 122) (by rfl))) rfl
set_option maxRecDepth 20000 in
theorem tw_363 : Jvm.Cond.methodLink "ChalkCastle$Reader" (45 : Nat) ({ cls := "ChalkCastle$Reader", name := "readRest", desc := "()V" } : Jvm.MethodName) ∈ lw_g := g_in (in_t2 (List.mem_of_getElem? (i := 123) (by rfl))) rfl
set_option maxRecDepth 20000 in
theorem tw_364 : Jvm.Cond.instanceMethod ({ cls := "ChalkCastle$Reader", name := "readRest", desc := "()V" } : Jvm.MethodName) ∈ lw_g := g_in (in_t2 (List.mem_of_getElem? (i := 124) (by rfl))) rfl
set_option maxRecDepth 20000 in
theorem tw_366 : Jvm.Cond.code ({ cls := "ChalkCastle$Reader", name := "readRest", desc := "()V" } : Jvm.MethodName) prog_4_method_6_code (4 : Nat) (Option.none : Option Jvm.ClassFile.FieldType) ∈ lw_g := g_in (in_t2 (List.mem_of_getElem? (i := 126) (by rfl))) rfl
set_option maxRecDepth 20000 in
theorem tw_367 : Jvm.Cond.methodLink "ChalkCastle$Reader" (48 : Nat) ({ cls := "ChalkCastle$Reader", name := "kindOf", desc := "(I)I" } : Jvm.MethodName) ∈ lw_g := g_in (in_t2 (List.mem_of_getElem? (i := 127) (by rfl))) rfl
set_option maxRecDepth 20000 in
theorem tw_368 : Jvm.Cond.static ({ cls := "ChalkCastle$Reader", name := "kindOf", desc := "(I)I" } : Jvm.MethodName) ∈ lw_g := g_in (in_t2 (List.mem_of_getElem? (i := 128) (by rfl))) rfl
set_option maxRecDepth 20000 in
theorem tw_369 : Jvm.Cond.code ({ cls := "ChalkCastle$Reader", name := "kindOf", desc := "(I)I" } : Jvm.MethodName) prog_4_method_8_code (1 : Nat) (Option.some Jvm.ClassFile.FieldType.int) ∈ lw_g := g_in (in_t2 (List.mem_of_getElem? (i := 129) (by rfl))) rfl
set_option maxRecDepth 20000 in
theorem tw_370 : Jvm.Cond.methodLink "ChalkCastle$Reader" (52 : Nat) ({ cls := "ChalkCastle$Reader", name := "readClerk", desc := "()V" } : Jvm.MethodName) ∈ lw_g := g_in (in_t2 (List.mem_of_getElem? (i := 130) (by rfl))) rfl
set_option maxRecDepth 20000 in
theorem tw_371 : Jvm.Cond.instanceMethod ({ cls := "ChalkCastle$Reader", name := "readClerk", desc := "()V" } : Jvm.MethodName) ∈ lw_g := g_in (in_t2 (List.mem_of_getElem? (i := 131) (by rfl))) rfl
set_option maxRecDepth 20000 in
theorem tw_373 : Jvm.Cond.code ({ cls := "ChalkCastle$Reader", name := "readClerk", desc := "()V" } : Jvm.MethodName) prog_4_method_7_code (3 : Nat) (Option.none : Option Jvm.ClassFile.FieldType) ∈ lw_g := g_in (in_t2 (List.mem_of_getElem? (i := 133) (by rfl))) rfl
set_option maxRecDepth 20000 in
theorem tw_374 : Jvm.Cond.methodLink "ChalkCastle$Reader" (55 : Nat) ({ cls := "ChalkCastle$Plan", name := "settleLayers", desc := "()V" } : Jvm.MethodName) ∈ lw_g := g_in (in_t2 (List.mem_of_getElem? (i := 134) (by rfl))) rfl
set_option maxRecDepth 20000 in
theorem tw_375 : Jvm.Cond.instanceMethod ({ cls := "ChalkCastle$Plan", name := "settleLayers", desc := "()V" } : Jvm.MethodName) ∈ lw_g := g_in (in_t2 (List.mem_of_getElem? (i := 135) (by rfl))) rfl
set_option maxRecDepth 20000 in
theorem tw_377 : Jvm.Cond.code ({ cls := "ChalkCastle$Plan", name := "settleLayers", desc := "()V" } : Jvm.MethodName) prog_3_method_9_code (3 : Nat) (Option.none : Option Jvm.ClassFile.FieldType) ∈ lw_g := g_in (in_t2 (List.mem_of_getElem? (i := 137) (by rfl))) rfl
set_option maxRecDepth 20000 in
theorem tw_378 : Jvm.Cond.methodLink "ChalkCastle$Plan" (53 : Nat) ({ cls := "java/lang/Math", name := "max", desc := "(II)I" } : Jvm.MethodName) ∈ lw_g := g_in (in_t2 (List.mem_of_getElem? (i := 138) (by rfl))) rfl
set_option maxRecDepth 20000 in
theorem tw_381 : Jvm.Cond.constant "ChalkCastle" (141 : Nat) (-1000100 : Int32) ∈ lw_g := g_in (in_t2 (List.mem_of_getElem? (i := 141) (by rfl))) rfl
set_option maxRecDepth 20000 in
theorem tw_382 : Jvm.Cond.methodLink "ChalkCastle" (146 : Nat) ({ cls := "ChalkCastle$Plan", name := "become", desc := "(LChalkCastle$Plan;)V" } : Jvm.MethodName) ∈ lw_g := g_in (in_t2 (List.mem_of_getElem? (i := 142) (by rfl))) rfl
set_option maxRecDepth 20000 in
theorem tw_383 : Jvm.Cond.instanceMethod ({ cls := "ChalkCastle$Plan", name := "become", desc := "(LChalkCastle$Plan;)V" } : Jvm.MethodName) ∈ lw_g := g_in (in_t2 (List.mem_of_getElem? (i := 143) (by rfl))) rfl
set_option maxRecDepth 20000 in
theorem tw_385 : Jvm.Cond.code ({ cls := "ChalkCastle$Plan", name := "become", desc := "(LChalkCastle$Plan;)V" } : Jvm.MethodName) prog_3_method_3_code (2 : Nat) (Option.none : Option Jvm.ClassFile.FieldType) ∈ lw_g := g_in (in_t2 (List.mem_of_getElem? (i := 145) (by rfl))) rfl
set_option maxRecDepth 20000 in
theorem tw_386 : Jvm.Cond.methodLink "ChalkCastle$Plan" (43 : Nat) ({ cls := "java/lang/System", name := "arraycopy", desc := "(Ljava/lang/Object;ILjava/lang/Object;II)V" } : Jvm.MethodName) ∈ lw_g := g_in (in_t2 (List.mem_of_getElem? (i := 146) (by rfl))) rfl
set_option maxRecDepth 20000 in
theorem tw_387 : Jvm.Cond.methodLink "ChalkCastle" (150 : Nat) ({ cls := "ChalkCastle$State", name := "begin", desc := "(LChalkCastle$Plan;)V" } : Jvm.MethodName) ∈ lw_g := g_in (in_t2 (List.mem_of_getElem? (i := 147) (by rfl))) rfl
set_option maxRecDepth 20000 in
theorem tw_388 : Jvm.Cond.instanceMethod ({ cls := "ChalkCastle$State", name := "begin", desc := "(LChalkCastle$Plan;)V" } : Jvm.MethodName) ∈ lw_g := g_in (in_t2 (List.mem_of_getElem? (i := 148) (by rfl))) rfl
set_option maxRecDepth 20000 in
theorem tw_390 : Jvm.Cond.code ({ cls := "ChalkCastle$State", name := "begin", desc := "(LChalkCastle$Plan;)V" } : Jvm.MethodName) prog_7_method_2_code (3 : Nat) (Option.none : Option Jvm.ClassFile.FieldType) ∈ lw_g := g_in (in_t2 (List.mem_of_getElem? (i := 150) (by rfl))) rfl
set_option maxRecDepth 20000 in
theorem tw_391 : Jvm.Cond.methodLink "ChalkCastle$State" (28 : Nat) ({ cls := "java/lang/System", name := "arraycopy", desc := "(Ljava/lang/Object;ILjava/lang/Object;II)V" } : Jvm.MethodName) ∈ lw_g := g_in (in_t2 (List.mem_of_getElem? (i := 151) (by rfl))) rfl
set_option maxRecDepth 20000 in
theorem tw_393 : Jvm.Cond.instanceMethod ({ cls := "ChalkCastle", name := "fault", desc := "()I" } : Jvm.MethodName) ∈ lw_g := g_in (in_t2 (List.mem_of_getElem? (i := 153) (by rfl))) rfl
set_option maxRecDepth 20000 in
theorem tw_395 : Jvm.Cond.code ({ cls := "ChalkCastle", name := "fault", desc := "()I" } : Jvm.MethodName) prog_1_method_8_code (1 : Nat) (Option.some Jvm.ClassFile.FieldType.int) ∈ lw_g := g_in (in_t2 (List.mem_of_getElem? (i := 155) (by rfl))) rfl
set_option maxRecDepth 20000 in
theorem tw_397 : Jvm.Cond.instanceMethod ({ cls := "ChalkCastle", name := "undo", desc := "()I" } : Jvm.MethodName) ∈ lw_g := g_in (in_t2 (List.mem_of_getElem? (i := 157) (by rfl))) rfl
set_option maxRecDepth 20000 in
theorem tw_399 : Jvm.Cond.code ({ cls := "ChalkCastle", name := "undo", desc := "()I" } : Jvm.MethodName) prog_1_method_9_code (1 : Nat) (Option.some Jvm.ClassFile.FieldType.int) ∈ lw_g := g_in (in_t2 (List.mem_of_getElem? (i := 159) (by rfl))) rfl
set_option maxRecDepth 20000 in
theorem tw_400 : Jvm.Cond.constant "ChalkCastle" (155 : Nat) (-1000002 : Int32) ∈ lw_g := g_in (in_t2 (List.mem_of_getElem? (i := 160) (by rfl))) rfl
set_option maxRecDepth 20000 in
theorem tw_401 : Jvm.Cond.methodLink "ChalkCastle" (156 : Nat) ({ cls := "ChalkCastle$State", name := "become", desc := "(LChalkCastle$State;)V" } : Jvm.MethodName) ∈ lw_g := g_in (in_t2 (List.mem_of_getElem? (i := 161) (by rfl))) rfl
set_option maxRecDepth 20000 in
theorem tw_402 : Jvm.Cond.instanceMethod ({ cls := "ChalkCastle$State", name := "become", desc := "(LChalkCastle$State;)V" } : Jvm.MethodName) ∈ lw_g := g_in (in_t2 (List.mem_of_getElem? (i := 162) (by rfl))) rfl
set_option maxRecDepth 20000 in
theorem tw_404 : Jvm.Cond.code ({ cls := "ChalkCastle$State", name := "become", desc := "(LChalkCastle$State;)V" } : Jvm.MethodName) prog_7_method_3_code (2 : Nat) (Option.none : Option Jvm.ClassFile.FieldType) ∈ lw_g := g_in (in_t2 (List.mem_of_getElem? (i := 164) (by rfl))) rfl
set_option maxRecDepth 20000 in
theorem tw_406 : Jvm.Cond.instanceMethod ({ cls := "ChalkCastle", name := "write", desc := "(III)I" } : Jvm.MethodName) ∈ lw_g := g_in (in_t2 (List.mem_of_getElem? (i := 166) (by rfl))) rfl
set_option maxRecDepth 20000 in
theorem tw_408 : Jvm.Cond.code ({ cls := "ChalkCastle", name := "write", desc := "(III)I" } : Jvm.MethodName) prog_1_method_10_code (5 : Nat) (Option.some Jvm.ClassFile.FieldType.int) ∈ lw_g := g_in (in_t2 (List.mem_of_getElem? (i := 168) (by rfl))) rfl
set_option maxRecDepth 20000 in
theorem tw_409 : Jvm.Cond.methodLink "ChalkCastle" (159 : Nat) ({ cls := "ChalkCastle$Plan", name := "hasClerk", desc := "(I)Z" } : Jvm.MethodName) ∈ lw_g := g_in (in_t2 (List.mem_of_getElem? (i := 169) (by rfl))) rfl
set_option maxRecDepth 20000 in
theorem tw_410 : Jvm.Cond.instanceMethod ({ cls := "ChalkCastle$Plan", name := "hasClerk", desc := "(I)Z" } : Jvm.MethodName) ∈ lw_g := g_in (in_t2 (List.mem_of_getElem? (i := 170) (by rfl))) rfl
set_option maxRecDepth 20000 in
theorem tw_412 : Jvm.Cond.code ({ cls := "ChalkCastle$Plan", name := "hasClerk", desc := "(I)Z" } : Jvm.MethodName) prog_3_method_5_code (2 : Nat) (Option.some Jvm.ClassFile.FieldType.boolean) ∈ lw_g := g_in (in_t2 (List.mem_of_getElem? (i := 172) (by rfl))) rfl
set_option maxRecDepth 20000 in
theorem tw_414 : Jvm.Cond.methodLink "ChalkCastle" (162 : Nat) ({ cls := "ChalkCastle", name := "isLines", desc := "(I)Z" } : Jvm.MethodName) ∈ lw_g := g_in (in_t2 (List.mem_of_getElem? (i := 174) (by rfl))) rfl
set_option maxRecDepth 20000 in
theorem tw_415 : Jvm.Cond.static ({ cls := "ChalkCastle", name := "isLines", desc := "(I)Z" } : Jvm.MethodName) ∈ lw_g := g_in (in_t2 (List.mem_of_getElem? (i := 175) (by rfl))) rfl
set_option maxRecDepth 20000 in
theorem tw_416 : Jvm.Cond.code ({ cls := "ChalkCastle", name := "isLines", desc := "(I)Z" } : Jvm.MethodName) prog_1_method_39_code (1 : Nat) (Option.some Jvm.ClassFile.FieldType.boolean) ∈ lw_g := g_in (in_t2 (List.mem_of_getElem? (i := 176) (by rfl))) rfl
set_option maxRecDepth 20000 in
theorem tw_417 : Jvm.Cond.methodLink "ChalkCastle" (165 : Nat) ({ cls := "ChalkCastle$Plan", name := "hasBlock", desc := "(I)Z" } : Jvm.MethodName) ∈ lw_g := g_in (in_t2 (List.mem_of_getElem? (i := 177) (by rfl))) rfl
set_option maxRecDepth 20000 in
theorem tw_418 : Jvm.Cond.instanceMethod ({ cls := "ChalkCastle$Plan", name := "hasBlock", desc := "(I)Z" } : Jvm.MethodName) ∈ lw_g := g_in (in_t2 (List.mem_of_getElem? (i := 178) (by rfl))) rfl
set_option maxRecDepth 20000 in
theorem tw_420 : Jvm.Cond.code ({ cls := "ChalkCastle$Plan", name := "hasBlock", desc := "(I)Z" } : Jvm.MethodName) prog_3_method_4_code (2 : Nat) (Option.some Jvm.ClassFile.FieldType.boolean) ∈ lw_g := g_in (in_t2 (List.mem_of_getElem? (i := 180) (by rfl))) rfl
set_option maxRecDepth 20000 in
theorem tw_421 : Jvm.Cond.methodLink "ChalkCastle" (171 : Nat) ({ cls := "ChalkCastle$Plan", name := "chalkFor", desc := "(III)I" } : Jvm.MethodName) ∈ lw_g := g_in (in_t2 (List.mem_of_getElem? (i := 181) (by rfl))) rfl
set_option maxRecDepth 20000 in
theorem tw_422 : Jvm.Cond.instanceMethod ({ cls := "ChalkCastle$Plan", name := "chalkFor", desc := "(III)I" } : Jvm.MethodName) ∈ lw_g := g_in (in_t2 (List.mem_of_getElem? (i := 182) (by rfl))) rfl
set_option maxRecDepth 20000 in
theorem tw_424 : Jvm.Cond.code ({ cls := "ChalkCastle$Plan", name := "chalkFor", desc := "(III)I" } : Jvm.MethodName) prog_3_method_10_code (4 : Nat) (Option.some Jvm.ClassFile.FieldType.int) ∈ lw_g := g_in (in_t2 (List.mem_of_getElem? (i := 184) (by rfl))) rfl
set_option maxRecDepth 20000 in
theorem tw_426 : Jvm.Cond.static ({ cls := "ChalkCastle", name := "chalkByKind", desc := "(IIII)I" } : Jvm.MethodName) ∈ lw_g := g_in (in_t2 (List.mem_of_getElem? (i := 186) (by rfl))) rfl
set_option maxRecDepth 20000 in
theorem tw_427 : Jvm.Cond.code ({ cls := "ChalkCastle", name := "chalkByKind", desc := "(IIII)I" } : Jvm.MethodName) prog_1_method_55_code (4 : Nat) (Option.some Jvm.ClassFile.FieldType.int) ∈ lw_g := g_in (in_t2 (List.mem_of_getElem? (i := 187) (by rfl))) rfl
set_option maxRecDepth 20000 in
theorem tw_428 : Jvm.Cond.methodLink "ChalkCastle" (193 : Nat) ({ cls := "java/lang/Math", name := "min", desc := "(II)I" } : Jvm.MethodName) ∈ lw_g := g_in (in_t2 (List.mem_of_getElem? (i := 188) (by rfl))) rfl
set_option maxRecDepth 20000 in
theorem tw_429 : Jvm.Cond.methodLink "ChalkCastle" (178 : Nat) ({ cls := "ChalkCastle", name := "beginAct", desc := "()V" } : Jvm.MethodName) ∈ lw_g := g_in (in_t2 (List.mem_of_getElem? (i := 189) (by rfl))) rfl
set_option maxRecDepth 20000 in
theorem tw_431 : Jvm.Cond.instanceMethod ({ cls := "ChalkCastle", name := "beginAct", desc := "()V" } : Jvm.MethodName) ∈ lw_g := g_in (in_t2 (List.mem_of_getElem? (i := 191) (by rfl))) rfl
set_option maxRecDepth 20000 in
theorem tw_432 : Jvm.Cond.code ({ cls := "ChalkCastle", name := "beginAct", desc := "()V" } : Jvm.MethodName) prog_1_method_44_code (1 : Nat) (Option.none : Option Jvm.ClassFile.FieldType) ∈ lw_g := g_in (in_t2 (List.mem_of_getElem? (i := 192) (by rfl))) rfl
set_option maxRecDepth 20000 in
theorem tw_433 : Jvm.Cond.methodLink "ChalkCastle" (181 : Nat) ({ cls := "ChalkCastle$State", name := "useUp", desc := "(II)V" } : Jvm.MethodName) ∈ lw_g := g_in (in_t2 (List.mem_of_getElem? (i := 193) (by rfl))) rfl
set_option maxRecDepth 20000 in
theorem tw_434 : Jvm.Cond.instanceMethod ({ cls := "ChalkCastle$State", name := "useUp", desc := "(II)V" } : Jvm.MethodName) ∈ lw_g := g_in (in_t2 (List.mem_of_getElem? (i := 194) (by rfl))) rfl
set_option maxRecDepth 20000 in
theorem tw_436 : Jvm.Cond.code ({ cls := "ChalkCastle$State", name := "useUp", desc := "(II)V" } : Jvm.MethodName) prog_7_method_4_code (3 : Nat) (Option.none : Option Jvm.ClassFile.FieldType) ∈ lw_g := g_in (in_t2 (List.mem_of_getElem? (i := 196) (by rfl))) rfl
set_option maxRecDepth 20000 in
theorem tw_438 : Jvm.Cond.instanceMethod ({ cls := "ChalkCastle", name := "rub", desc := "(II)I" } : Jvm.MethodName) ∈ lw_g := g_in (in_t2 (List.mem_of_getElem? (i := 198) (by rfl))) rfl
set_option maxRecDepth 20000 in
theorem tw_440 : Jvm.Cond.code ({ cls := "ChalkCastle", name := "rub", desc := "(II)I" } : Jvm.MethodName) prog_1_method_11_code (3 : Nat) (Option.some Jvm.ClassFile.FieldType.int) ∈ lw_g := g_in (in_t2 (List.mem_of_getElem? (i := 200) (by rfl))) rfl
set_option maxRecDepth 20000 in
theorem tw_442 : Jvm.Cond.instanceMethod ({ cls := "ChalkCastle", name := "rain", desc := "()I" } : Jvm.MethodName) ∈ lw_g := g_in (in_t2 (List.mem_of_getElem? (i := 202) (by rfl))) rfl
set_option maxRecDepth 20000 in
theorem tw_444 : Jvm.Cond.code ({ cls := "ChalkCastle", name := "rain", desc := "()I" } : Jvm.MethodName) prog_1_method_12_code (1 : Nat) (Option.some Jvm.ClassFile.FieldType.int) ∈ lw_g := g_in (in_t2 (List.mem_of_getElem? (i := 204) (by rfl))) rfl
set_option maxRecDepth 20000 in
theorem tw_445 : Jvm.Cond.methodLink "ChalkCastle" (198 : Nat) ({ cls := "ChalkCastle", name := "hasCastle", desc := "()Z" } : Jvm.MethodName) ∈ lw_g := g_in (in_t2 (List.mem_of_getElem? (i := 205) (by rfl))) rfl
set_option maxRecDepth 20000 in
theorem tw_447 : Jvm.Cond.instanceMethod ({ cls := "ChalkCastle", name := "hasCastle", desc := "()Z" } : Jvm.MethodName) ∈ lw_g := g_in (in_t2 (List.mem_of_getElem? (i := 207) (by rfl))) rfl
set_option maxRecDepth 20000 in
theorem tw_448 : Jvm.Cond.code ({ cls := "ChalkCastle", name := "hasCastle", desc := "()Z" } : Jvm.MethodName) prog_1_method_42_code (1 : Nat) (Option.some Jvm.ClassFile.FieldType.boolean) ∈ lw_g := g_in (in_t2 (List.mem_of_getElem? (i := 208) (by rfl))) rfl
set_option maxRecDepth 20000 in
theorem tw_449 : Jvm.Cond.methodLink "ChalkCastle" (201 : Nat) ({ cls := "ChalkCastle$Plan", name := "letRain", desc := "(LChalkCastle$State;)V" } : Jvm.MethodName) ∈ lw_g := g_in (in_t2 (List.mem_of_getElem? (i := 209) (by rfl))) rfl
set_option maxRecDepth 20000 in
theorem tw_450 : Jvm.Cond.instanceMethod ({ cls := "ChalkCastle$Plan", name := "letRain", desc := "(LChalkCastle$State;)V" } : Jvm.MethodName) ∈ lw_g := g_in (in_t2 (List.mem_of_getElem? (i := 210) (by rfl))) rfl
set_option maxRecDepth 20000 in
theorem tw_452 : Jvm.Cond.code ({ cls := "ChalkCastle$Plan", name := "letRain", desc := "(LChalkCastle$State;)V" } : Jvm.MethodName) prog_3_method_11_code (4 : Nat) (Option.none : Option Jvm.ClassFile.FieldType) ∈ lw_g := g_in (in_t2 (List.mem_of_getElem? (i := 212) (by rfl))) rfl
set_option maxRecDepth 20000 in
theorem tw_453 : Jvm.Cond.methodLink "ChalkCastle$Plan" (63 : Nat) ({ cls := "ChalkCastle$State", name := "withChalk", desc := "()I" } : Jvm.MethodName) ∈ lw_g := g_in (in_t2 (List.mem_of_getElem? (i := 213) (by rfl))) rfl
set_option maxRecDepth 20000 in
theorem tw_454 : Jvm.Cond.instanceMethod ({ cls := "ChalkCastle$State", name := "withChalk", desc := "()I" } : Jvm.MethodName) ∈ lw_g := g_in (in_t2 (List.mem_of_getElem? (i := 214) (by rfl))) rfl
set_option maxRecDepth 20000 in
theorem tw_456 : Jvm.Cond.code ({ cls := "ChalkCastle$State", name := "withChalk", desc := "()I" } : Jvm.MethodName) prog_7_method_5_code (3 : Nat) (Option.some Jvm.ClassFile.FieldType.int) ∈ lw_g := g_in (in_t2 (List.mem_of_getElem? (i := 216) (by rfl))) rfl
set_option maxRecDepth 20000 in
theorem tw_457 : Jvm.Cond.methodLink "ChalkCastle$Plan" (69 : Nat) ({ cls := "ChalkCastle$Plan", name := "standing", desc := "(I)I" } : Jvm.MethodName) ∈ lw_g := g_in (in_t2 (List.mem_of_getElem? (i := 217) (by rfl))) rfl
set_option maxRecDepth 20000 in
theorem tw_458 : Jvm.Cond.instanceMethod ({ cls := "ChalkCastle$Plan", name := "standing", desc := "(I)I" } : Jvm.MethodName) ∈ lw_g := g_in (in_t2 (List.mem_of_getElem? (i := 218) (by rfl))) rfl
set_option maxRecDepth 20000 in
theorem tw_460 : Jvm.Cond.code ({ cls := "ChalkCastle$Plan", name := "standing", desc := "(I)I" } : Jvm.MethodName) prog_3_method_8_code (5 : Nat) (Option.some Jvm.ClassFile.FieldType.int) ∈ lw_g := g_in (in_t2 (List.mem_of_getElem? (i := 220) (by rfl))) rfl
set_option maxRecDepth 20000 in
theorem tw_461 : Jvm.Cond.methodLink "ChalkCastle$Plan" (73 : Nat) ({ cls := "ChalkCastle$Plan", name := "above", desc := "(I)I" } : Jvm.MethodName) ∈ lw_g := g_in (in_t2 (List.mem_of_getElem? (i := 221) (by rfl))) rfl
set_option maxRecDepth 20000 in
theorem tw_462 : Jvm.Cond.instanceMethod ({ cls := "ChalkCastle$Plan", name := "above", desc := "(I)I" } : Jvm.MethodName) ∈ lw_g := g_in (in_t2 (List.mem_of_getElem? (i := 222) (by rfl))) rfl
set_option maxRecDepth 20000 in
theorem tw_464 : Jvm.Cond.code ({ cls := "ChalkCastle$Plan", name := "above", desc := "(I)I" } : Jvm.MethodName) prog_3_method_7_code (4 : Nat) (Option.some Jvm.ClassFile.FieldType.int) ∈ lw_g := g_in (in_t2 (List.mem_of_getElem? (i := 224) (by rfl))) rfl
set_option maxRecDepth 20000 in
theorem tw_465 : Jvm.Cond.methodLink "ChalkCastle" (204 : Nat) ({ cls := "ChalkCastle", name := "standingNow", desc := "()I" } : Jvm.MethodName) ∈ lw_g := g_in (in_t2 (List.mem_of_getElem? (i := 225) (by rfl))) rfl
set_option maxRecDepth 20000 in
theorem tw_467 : Jvm.Cond.instanceMethod ({ cls := "ChalkCastle", name := "standingNow", desc := "()I" } : Jvm.MethodName) ∈ lw_g := g_in (in_t2 (List.mem_of_getElem? (i := 227) (by rfl))) rfl
set_option maxRecDepth 20000 in
theorem tw_468 : Jvm.Cond.code ({ cls := "ChalkCastle", name := "standingNow", desc := "()I" } : Jvm.MethodName) prog_1_method_45_code (1 : Nat) (Option.some Jvm.ClassFile.FieldType.int) ∈ lw_g := g_in (in_t2 (List.mem_of_getElem? (i := 228) (by rfl))) rfl
set_option maxRecDepth 20000 in
theorem tw_469 : Jvm.Cond.methodLink "ChalkCastle" (217 : Nat) ({ cls := "ChalkCastle$State", name := "withChalk", desc := "()I" } : Jvm.MethodName) ∈ lw_g := g_in (in_t2 (List.mem_of_getElem? (i := 229) (by rfl))) rfl
set_option maxRecDepth 20000 in
theorem tw_470 : Jvm.Cond.methodLink "ChalkCastle" (232 : Nat) ({ cls := "ChalkCastle$Plan", name := "standing", desc := "(I)I" } : Jvm.MethodName) ∈ lw_g := g_in (in_t2 (List.mem_of_getElem? (i := 230) (by rfl))) rfl
set_option maxRecDepth 20000 in
theorem tw_472 : Jvm.Cond.instanceMethod ({ cls := "ChalkCastle", name := "days", desc := "(I)I" } : Jvm.MethodName) ∈ lw_g := g_in (in_t2 (List.mem_of_getElem? (i := 232) (by rfl))) rfl
set_option maxRecDepth 20000 in
theorem tw_474 : Jvm.Cond.code ({ cls := "ChalkCastle", name := "days", desc := "(I)I" } : Jvm.MethodName) prog_1_method_13_code (3 : Nat) (Option.some Jvm.ClassFile.FieldType.int) ∈ lw_g := g_in (in_t2 (List.mem_of_getElem? (i := 234) (by rfl))) rfl
set_option maxRecDepth 20000 in
theorem tw_476 : Jvm.Cond.instanceMethod ({ cls := "ChalkCastle", name := "block", desc := "(II)I" } : Jvm.MethodName) ∈ lw_g := g_in (in_t2 (List.mem_of_getElem? (i := 236) (by rfl))) rfl
set_option maxRecDepth 20000 in
theorem tw_478 : Jvm.Cond.code ({ cls := "ChalkCastle", name := "block", desc := "(II)I" } : Jvm.MethodName) prog_1_method_14_code (3 : Nat) (Option.some Jvm.ClassFile.FieldType.int) ∈ lw_g := g_in (in_t2 (List.mem_of_getElem? (i := 238) (by rfl))) rfl
set_option maxRecDepth 20000 in
theorem tw_479 : Jvm.Cond.methodLink "ChalkCastle" (211 : Nat) ({ cls := "ChalkCastle$Plan", name := "above", desc := "(I)I" } : Jvm.MethodName) ∈ lw_g := g_in (in_t2 (List.mem_of_getElem? (i := 239) (by rfl))) rfl
set_option maxRecDepth 20000 in
theorem tw_481 : Jvm.Cond.instanceMethod ({ cls := "ChalkCastle", name := "clerk", desc := "(II)I" } : Jvm.MethodName) ∈ lw_g := g_in (in_t3 (List.mem_of_getElem? (i := 1) (by rfl))) rfl
set_option maxRecDepth 20000 in
theorem tw_483 : Jvm.Cond.code ({ cls := "ChalkCastle", name := "clerk", desc := "(II)I" } : Jvm.MethodName) prog_1_method_15_code (3 : Nat) (Option.some Jvm.ClassFile.FieldType.int) ∈ lw_g := g_in (in_t3 (List.mem_of_getElem? (i := 3) (by rfl))) rfl
set_option maxRecDepth 20000 in
theorem tw_485 : Jvm.Cond.instanceMethod ({ cls := "ChalkCastle", name := "takes", desc := "(II)I" } : Jvm.MethodName) ∈ lw_g := g_in (in_t3 (List.mem_of_getElem? (i := 5) (by rfl))) rfl
set_option maxRecDepth 20000 in
theorem tw_487 : Jvm.Cond.code ({ cls := "ChalkCastle", name := "takes", desc := "(II)I" } : Jvm.MethodName) prog_1_method_16_code (3 : Nat) (Option.some Jvm.ClassFile.FieldType.int) ∈ lw_g := g_in (in_t3 (List.mem_of_getElem? (i := 7) (by rfl))) rfl
set_option maxRecDepth 20000 in
theorem tw_489 : Jvm.Cond.instanceMethod ({ cls := "ChalkCastle", name := "stand", desc := "(I)I" } : Jvm.MethodName) ∈ lw_g := g_in (in_t3 (List.mem_of_getElem? (i := 9) (by rfl))) rfl
set_option maxRecDepth 20000 in
theorem tw_491 : Jvm.Cond.code ({ cls := "ChalkCastle", name := "stand", desc := "(I)I" } : Jvm.MethodName) prog_1_method_17_code (2 : Nat) (Option.some Jvm.ClassFile.FieldType.int) ∈ lw_g := g_in (in_t3 (List.mem_of_getElem? (i := 11) (by rfl))) rfl
set_option maxRecDepth 20000 in
theorem tw_492 : Jvm.Cond.methodLink "ChalkCastle" (220 : Nat) ({ cls := "ChalkCastle$State", name := "allChalk", desc := "()I" } : Jvm.MethodName) ∈ lw_g := g_in (in_t3 (List.mem_of_getElem? (i := 12) (by rfl))) rfl
set_option maxRecDepth 20000 in
theorem tw_493 : Jvm.Cond.instanceMethod ({ cls := "ChalkCastle$State", name := "allChalk", desc := "()I" } : Jvm.MethodName) ∈ lw_g := g_in (in_t3 (List.mem_of_getElem? (i := 13) (by rfl))) rfl
set_option maxRecDepth 20000 in
theorem tw_495 : Jvm.Cond.code ({ cls := "ChalkCastle$State", name := "allChalk", desc := "()I" } : Jvm.MethodName) prog_7_method_6_code (3 : Nat) (Option.some Jvm.ClassFile.FieldType.int) ∈ lw_g := g_in (in_t3 (List.mem_of_getElem? (i := 15) (by rfl))) rfl
set_option maxRecDepth 20000 in
theorem tw_496 : Jvm.Cond.methodLink "ChalkCastle" (223 : Nat) ({ cls := "ChalkCastle$State", name := "allLines", desc := "()I" } : Jvm.MethodName) ∈ lw_g := g_in (in_t3 (List.mem_of_getElem? (i := 16) (by rfl))) rfl
set_option maxRecDepth 20000 in
theorem tw_497 : Jvm.Cond.instanceMethod ({ cls := "ChalkCastle$State", name := "allLines", desc := "()I" } : Jvm.MethodName) ∈ lw_g := g_in (in_t3 (List.mem_of_getElem? (i := 17) (by rfl))) rfl
set_option maxRecDepth 20000 in
theorem tw_499 : Jvm.Cond.code ({ cls := "ChalkCastle$State", name := "allLines", desc := "()I" } : Jvm.MethodName) prog_7_method_7_code (3 : Nat) (Option.some Jvm.ClassFile.FieldType.int) ∈ lw_g := g_in (in_t3 (List.mem_of_getElem? (i := 19) (by rfl))) rfl
set_option maxRecDepth 20000 in
theorem tw_501 : Jvm.Cond.instanceMethod ({ cls := "ChalkCastle", name := "wouldFall", desc := "(I)I" } : Jvm.MethodName) ∈ lw_g := g_in (in_t3 (List.mem_of_getElem? (i := 21) (by rfl))) rfl
set_option maxRecDepth 20000 in
theorem tw_503 : Jvm.Cond.code ({ cls := "ChalkCastle", name := "wouldFall", desc := "(I)I" } : Jvm.MethodName) prog_1_method_18_code (2 : Nat) (Option.some Jvm.ClassFile.FieldType.int) ∈ lw_g := g_in (in_t3 (List.mem_of_getElem? (i := 23) (by rfl))) rfl
set_option maxRecDepth 20000 in
theorem tw_504 : Jvm.Cond.methodLink "ChalkCastle" (226 : Nat) ({ cls := "ChalkCastle$Plan", name := "areBlocks", desc := "(I)Z" } : Jvm.MethodName) ∈ lw_g := g_in (in_t3 (List.mem_of_getElem? (i := 24) (by rfl))) rfl
set_option maxRecDepth 20000 in
theorem tw_505 : Jvm.Cond.instanceMethod ({ cls := "ChalkCastle$Plan", name := "areBlocks", desc := "(I)Z" } : Jvm.MethodName) ∈ lw_g := g_in (in_t3 (List.mem_of_getElem? (i := 25) (by rfl))) rfl
set_option maxRecDepth 20000 in
theorem tw_507 : Jvm.Cond.code ({ cls := "ChalkCastle$Plan", name := "areBlocks", desc := "(I)Z" } : Jvm.MethodName) prog_3_method_6_code (2 : Nat) (Option.some Jvm.ClassFile.FieldType.boolean) ∈ lw_g := g_in (in_t3 (List.mem_of_getElem? (i := 27) (by rfl))) rfl
set_option maxRecDepth 20000 in
theorem tw_508 : Jvm.Cond.methodLink "ChalkCastle" (229 : Nat) ({ cls := "ChalkCastle", name := "fallingWithout", desc := "(I)I" } : Jvm.MethodName) ∈ lw_g := g_in (in_t3 (List.mem_of_getElem? (i := 28) (by rfl))) rfl
set_option maxRecDepth 20000 in
theorem tw_510 : Jvm.Cond.instanceMethod ({ cls := "ChalkCastle", name := "fallingWithout", desc := "(I)I" } : Jvm.MethodName) ∈ lw_g := g_in (in_t3 (List.mem_of_getElem? (i := 30) (by rfl))) rfl
set_option maxRecDepth 20000 in
theorem tw_511 : Jvm.Cond.code ({ cls := "ChalkCastle", name := "fallingWithout", desc := "(I)I" } : Jvm.MethodName) prog_1_method_46_code (3 : Nat) (Option.some Jvm.ClassFile.FieldType.int) ∈ lw_g := g_in (in_t3 (List.mem_of_getElem? (i := 31) (by rfl))) rfl
set_option maxRecDepth 20000 in
theorem tw_513 : Jvm.Cond.instanceMethod ({ cls := "ChalkCastle", name := "left", desc := "(I)I" } : Jvm.MethodName) ∈ lw_g := g_in (in_t3 (List.mem_of_getElem? (i := 33) (by rfl))) rfl
set_option maxRecDepth 20000 in
theorem tw_515 : Jvm.Cond.code ({ cls := "ChalkCastle", name := "left", desc := "(I)I" } : Jvm.MethodName) prog_1_method_19_code (5 : Nat) (Option.some Jvm.ClassFile.FieldType.int) ∈ lw_g := g_in (in_t3 (List.mem_of_getElem? (i := 35) (by rfl))) rfl
set_option maxRecDepth 20000 in
theorem tw_517 : Jvm.Cond.instanceMethod ({ cls := "ChalkCastle", name := "leastFallen", desc := "(III)I" } : Jvm.MethodName) ∈ lw_g := g_in (in_t3 (List.mem_of_getElem? (i := 37) (by rfl))) rfl
set_option maxRecDepth 20000 in
theorem tw_519 : Jvm.Cond.code ({ cls := "ChalkCastle", name := "leastFallen", desc := "(III)I" } : Jvm.MethodName) prog_1_method_20_code (13 : Nat) (Option.some Jvm.ClassFile.FieldType.int) ∈ lw_g := g_in (in_t3 (List.mem_of_getElem? (i := 39) (by rfl))) rfl
set_option maxRecDepth 20000 in
theorem tw_520 : Jvm.Cond.constant "ChalkCastle" (235 : Nat) (-1000000 : Int32) ∈ lw_g := g_in (in_t3 (List.mem_of_getElem? (i := 40) (by rfl))) rfl
set_option maxRecDepth 20000 in
theorem tw_521 : Jvm.Cond.methodLink "ChalkCastle" (236 : Nat) ({ cls := "java/lang/Integer", name := "bitCount", desc := "(I)I" } : Jvm.MethodName) ∈ lw_g := g_in (in_t3 (List.mem_of_getElem? (i := 41) (by rfl))) rfl
set_option maxRecDepth 20000 in
theorem tw_522 : Jvm.Cond.static ({ cls := "java/lang/Integer", name := "bitCount", desc := "(I)I" } : Jvm.MethodName) ∈ lw_g := g_in (in_t3 (List.mem_of_getElem? (i := 42) (by rfl))) rfl
set_option maxRecDepth 20000 in
theorem tw_523 : Jvm.Cond.code ({ cls := "java/lang/Integer", name := "bitCount", desc := "(I)I" } : Jvm.MethodName) prog_10_method_49_code (1 : Nat) (Option.some Jvm.ClassFile.FieldType.int) ∈ lw_g := g_in (in_t3 (List.mem_of_getElem? (i := 43) (by rfl))) rfl
set_option maxRecDepth 20000 in
theorem tw_524 : Jvm.Cond.constant "java/lang/Integer" (265 : Nat) (1431655765 : Int32) ∈ lw_g := g_in (in_t3 (List.mem_of_getElem? (i := 44) (by rfl))) rfl
set_option maxRecDepth 20000 in
theorem tw_525 : Jvm.Cond.constant "java/lang/Integer" (266 : Nat) (858993459 : Int32) ∈ lw_g := g_in (in_t3 (List.mem_of_getElem? (i := 45) (by rfl))) rfl
set_option maxRecDepth 20000 in
theorem tw_526 : Jvm.Cond.constant "java/lang/Integer" (267 : Nat) (252645135 : Int32) ∈ lw_g := g_in (in_t3 (List.mem_of_getElem? (i := 46) (by rfl))) rfl
set_option maxRecDepth 20000 in
theorem tw_528 : Jvm.Cond.instanceMethod ({ cls := "ChalkCastle", name := "must", desc := "()I" } : Jvm.MethodName) ∈ lw_g := g_in (in_t3 (List.mem_of_getElem? (i := 48) (by rfl))) rfl
set_option maxRecDepth 20000 in
theorem tw_530 : Jvm.Cond.code ({ cls := "ChalkCastle", name := "must", desc := "()I" } : Jvm.MethodName) prog_1_method_21_code (5 : Nat) (Option.some Jvm.ClassFile.FieldType.int) ∈ lw_g := g_in (in_t3 (List.mem_of_getElem? (i := 50) (by rfl))) rfl
set_option maxRecDepth 20000 in
theorem tw_532 : Jvm.Cond.instanceMethod ({ cls := "ChalkCastle", name := "writings", desc := "(IIII)I" } : Jvm.MethodName) ∈ lw_g := g_in (in_t3 (List.mem_of_getElem? (i := 52) (by rfl))) rfl
set_option maxRecDepth 20000 in
theorem tw_534 : Jvm.Cond.code ({ cls := "ChalkCastle", name := "writings", desc := "(IIII)I" } : Jvm.MethodName) prog_1_method_22_code (8 : Nat) (Option.some Jvm.ClassFile.FieldType.int) ∈ lw_g := g_in (in_t3 (List.mem_of_getElem? (i := 54) (by rfl))) rfl
set_option maxRecDepth 20000 in
theorem tw_535 : Jvm.Cond.methodLink "ChalkCastle" (241 : Nat) ({ cls := "ChalkCastle", name := "tellsWritings", desc := "([III)Z" } : Jvm.MethodName) ∈ lw_g := g_in (in_t3 (List.mem_of_getElem? (i := 55) (by rfl))) rfl
set_option maxRecDepth 20000 in
theorem tw_537 : Jvm.Cond.instanceMethod ({ cls := "ChalkCastle", name := "tellsWritings", desc := "([III)Z" } : Jvm.MethodName) ∈ lw_g := g_in (in_t3 (List.mem_of_getElem? (i := 57) (by rfl))) rfl
set_option maxRecDepth 20000 in
theorem tw_538 : Jvm.Cond.code ({ cls := "ChalkCastle", name := "tellsWritings", desc := "([III)Z" } : Jvm.MethodName) prog_1_method_47_code (5 : Nat) (Option.some Jvm.ClassFile.FieldType.boolean) ∈ lw_g := g_in (in_t3 (List.mem_of_getElem? (i := 58) (by rfl))) rfl
set_option maxRecDepth 20000 in
theorem tw_539 : Jvm.Cond.methodLink "ChalkCastle" (245 : Nat) ({ cls := "ChalkCastle$Search", name := "begin", desc := "(LChalkCastle$State;I)V" } : Jvm.MethodName) ∈ lw_g := g_in (in_t3 (List.mem_of_getElem? (i := 59) (by rfl))) rfl
set_option maxRecDepth 20000 in
theorem tw_540 : Jvm.Cond.instanceMethod ({ cls := "ChalkCastle$Search", name := "begin", desc := "(LChalkCastle$State;I)V" } : Jvm.MethodName) ∈ lw_g := g_in (in_t3 (List.mem_of_getElem? (i := 60) (by rfl))) rfl
set_option maxRecDepth 20000 in
theorem tw_542 : Jvm.Cond.code ({ cls := "ChalkCastle$Search", name := "begin", desc := "(LChalkCastle$State;I)V" } : Jvm.MethodName) prog_6_method_2_code (3 : Nat) (Option.none : Option Jvm.ClassFile.FieldType) ∈ lw_g := g_in (in_t3 (List.mem_of_getElem? (i := 62) (by rfl))) rfl
set_option maxRecDepth 20000 in
theorem tw_543 : Jvm.Cond.methodLink "ChalkCastle$Search" (35 : Nat) ({ cls := "java/lang/Math", name := "min", desc := "(II)I" } : Jvm.MethodName) ∈ lw_g := g_in (in_t3 (List.mem_of_getElem? (i := 63) (by rfl))) rfl
set_option maxRecDepth 20000 in
theorem tw_544 : Jvm.Cond.methodLink "ChalkCastle$Search" (41 : Nat) ({ cls := "ChalkCastle$State", name := "become", desc := "(LChalkCastle$State;)V" } : Jvm.MethodName) ∈ lw_g := g_in (in_t3 (List.mem_of_getElem? (i := 64) (by rfl))) rfl
set_option maxRecDepth 20000 in
theorem tw_545 : Jvm.Cond.methodLink "ChalkCastle" (251 : Nat) ({ cls := "ChalkCastle", name := "tryBlocks", desc := "(LChalkCastle$Plan;LChalkCastle$Search;I)V" } : Jvm.MethodName) ∈ lw_g := g_in (in_t3 (List.mem_of_getElem? (i := 65) (by rfl))) rfl
set_option maxRecDepth 20000 in
theorem tw_546 : Jvm.Cond.static ({ cls := "ChalkCastle", name := "tryBlocks", desc := "(LChalkCastle$Plan;LChalkCastle$Search;I)V" } : Jvm.MethodName) ∈ lw_g := g_in (in_t3 (List.mem_of_getElem? (i := 66) (by rfl))) rfl
set_option maxRecDepth 20000 in
theorem tw_547 : Jvm.Cond.code ({ cls := "ChalkCastle", name := "tryBlocks", desc := "(LChalkCastle$Plan;LChalkCastle$Search;I)V" } : Jvm.MethodName) prog_1_method_48_code (7 : Nat) (Option.none : Option Jvm.ClassFile.FieldType) ∈ lw_g := g_in (in_t3 (List.mem_of_getElem? (i := 67) (by rfl))) rfl
set_option maxRecDepth 20000 in
theorem tw_548 : Jvm.Cond.methodLink "ChalkCastle" (331 : Nat) ({ cls := "ChalkCastle$Search", name := "keepWay", desc := "(I)V" } : Jvm.MethodName) ∈ lw_g := g_in (in_t3 (List.mem_of_getElem? (i := 68) (by rfl))) rfl
set_option maxRecDepth 20000 in
theorem tw_549 : Jvm.Cond.instanceMethod ({ cls := "ChalkCastle$Search", name := "keepWay", desc := "(I)V" } : Jvm.MethodName) ∈ lw_g := g_in (in_t3 (List.mem_of_getElem? (i := 69) (by rfl))) rfl
set_option maxRecDepth 20000 in
theorem tw_551 : Jvm.Cond.code ({ cls := "ChalkCastle$Search", name := "keepWay", desc := "(I)V" } : Jvm.MethodName) prog_6_method_3_code (2 : Nat) (Option.none : Option Jvm.ClassFile.FieldType) ∈ lw_g := g_in (in_t3 (List.mem_of_getElem? (i := 71) (by rfl))) rfl
set_option maxRecDepth 20000 in
theorem tw_552 : Jvm.Cond.methodLink "ChalkCastle$Search" (45 : Nat) ({ cls := "java/lang/System", name := "arraycopy", desc := "(Ljava/lang/Object;ILjava/lang/Object;II)V" } : Jvm.MethodName) ∈ lw_g := g_in (in_t3 (List.mem_of_getElem? (i := 72) (by rfl))) rfl
set_option maxRecDepth 20000 in
theorem tw_554 : Jvm.Cond.instanceMethod ({ cls := "ChalkCastle", name := "from", desc := "(III)I" } : Jvm.MethodName) ∈ lw_g := g_in (in_t3 (List.mem_of_getElem? (i := 74) (by rfl))) rfl
set_option maxRecDepth 20000 in
theorem tw_556 : Jvm.Cond.code ({ cls := "ChalkCastle", name := "from", desc := "(III)I" } : Jvm.MethodName) prog_1_method_23_code (12 : Nat) (Option.some Jvm.ClassFile.FieldType.int) ∈ lw_g := g_in (in_t3 (List.mem_of_getElem? (i := 76) (by rfl))) rfl
set_option maxRecDepth 20000 in
theorem tw_557 : Jvm.Cond.methodLink "ChalkCastle" (261 : Nat) ({ cls := "ChalkCastle", name := "onlyLessened", desc := "([II)I" } : Jvm.MethodName) ∈ lw_g := g_in (in_t3 (List.mem_of_getElem? (i := 77) (by rfl))) rfl
set_option maxRecDepth 20000 in
theorem tw_559 : Jvm.Cond.instanceMethod ({ cls := "ChalkCastle", name := "onlyLessened", desc := "([II)I" } : Jvm.MethodName) ∈ lw_g := g_in (in_t3 (List.mem_of_getElem? (i := 79) (by rfl))) rfl
set_option maxRecDepth 20000 in
theorem tw_560 : Jvm.Cond.code ({ cls := "ChalkCastle", name := "onlyLessened", desc := "([II)I" } : Jvm.MethodName) prog_1_method_49_code (6 : Nat) (Option.some Jvm.ClassFile.FieldType.int) ∈ lw_g := g_in (in_t3 (List.mem_of_getElem? (i := 80) (by rfl))) rfl
set_option maxRecDepth 20000 in
theorem tw_562 : Jvm.Cond.instanceMethod ({ cls := "ChalkCastle", name := "who", desc := "(IIII)I" } : Jvm.MethodName) ∈ lw_g := g_in (in_t3 (List.mem_of_getElem? (i := 82) (by rfl))) rfl
set_option maxRecDepth 20000 in
theorem tw_564 : Jvm.Cond.code ({ cls := "ChalkCastle", name := "who", desc := "(IIII)I" } : Jvm.MethodName) prog_1_method_24_code (9 : Nat) (Option.some Jvm.ClassFile.FieldType.int) ∈ lw_g := g_in (in_t3 (List.mem_of_getElem? (i := 84) (by rfl))) rfl
set_option maxRecDepth 20000 in
theorem tw_565 : Jvm.Cond.methodLink "ChalkCastle" (268 : Nat) ({ cls := "ChalkCastle", name := "fitsKind", desc := "(II[III)Z" } : Jvm.MethodName) ∈ lw_g := g_in (in_t3 (List.mem_of_getElem? (i := 85) (by rfl))) rfl
set_option maxRecDepth 20000 in
theorem tw_567 : Jvm.Cond.instanceMethod ({ cls := "ChalkCastle", name := "fitsKind", desc := "(II[III)Z" } : Jvm.MethodName) ∈ lw_g := g_in (in_t3 (List.mem_of_getElem? (i := 87) (by rfl))) rfl
set_option maxRecDepth 20000 in
theorem tw_568 : Jvm.Cond.code ({ cls := "ChalkCastle", name := "fitsKind", desc := "(II[III)Z" } : Jvm.MethodName) prog_1_method_50_code (7 : Nat) (Option.some Jvm.ClassFile.FieldType.boolean) ∈ lw_g := g_in (in_t3 (List.mem_of_getElem? (i := 88) (by rfl))) rfl
set_option maxRecDepth 20000 in
theorem tw_569 : Jvm.Cond.methodLink "ChalkCastle" (338 : Nat) ({ cls := "ChalkCastle", name := "chalkByKind", desc := "(IIII)I" } : Jvm.MethodName) ∈ lw_g := g_in (in_t3 (List.mem_of_getElem? (i := 89) (by rfl))) rfl
set_option maxRecDepth 20000 in
theorem tw_571 : Jvm.Cond.instanceMethod ({ cls := "ChalkCastle", name := "layer", desc := "(I)I" } : Jvm.MethodName) ∈ lw_g := g_in (in_t3 (List.mem_of_getElem? (i := 91) (by rfl))) rfl
set_option maxRecDepth 20000 in
theorem tw_573 : Jvm.Cond.code ({ cls := "ChalkCastle", name := "layer", desc := "(I)I" } : Jvm.MethodName) prog_1_method_25_code (2 : Nat) (Option.some Jvm.ClassFile.FieldType.int) ∈ lw_g := g_in (in_t3 (List.mem_of_getElem? (i := 93) (by rfl))) rfl
set_option maxRecDepth 20000 in
theorem tw_575 : Jvm.Cond.instanceMethod ({ cls := "ChalkCastle", name := "longest", desc := "(II)I" } : Jvm.MethodName) ∈ lw_g := g_in (in_t3 (List.mem_of_getElem? (i := 95) (by rfl))) rfl
set_option maxRecDepth 20000 in
theorem tw_577 : Jvm.Cond.code ({ cls := "ChalkCastle", name := "longest", desc := "(II)I" } : Jvm.MethodName) prog_1_method_26_code (7 : Nat) (Option.some Jvm.ClassFile.FieldType.int) ∈ lw_g := g_in (in_t3 (List.mem_of_getElem? (i := 97) (by rfl))) rfl
set_option maxRecDepth 20000 in
theorem tw_578 : Jvm.Cond.methodLink "ChalkCastle" (275 : Nat) ({ cls := "ChalkCastle", name := "linesAtOnce", desc := "(II)I" } : Jvm.MethodName) ∈ lw_g := g_in (in_t3 (List.mem_of_getElem? (i := 98) (by rfl))) rfl
set_option maxRecDepth 20000 in
theorem tw_580 : Jvm.Cond.instanceMethod ({ cls := "ChalkCastle", name := "linesAtOnce", desc := "(II)I" } : Jvm.MethodName) ∈ lw_g := g_in (in_t3 (List.mem_of_getElem? (i := 100) (by rfl))) rfl
set_option maxRecDepth 20000 in
theorem tw_581 : Jvm.Cond.code ({ cls := "ChalkCastle", name := "linesAtOnce", desc := "(II)I" } : Jvm.MethodName) prog_1_method_51_code (5 : Nat) (Option.some Jvm.ClassFile.FieldType.int) ∈ lw_g := g_in (in_t3 (List.mem_of_getElem? (i := 101) (by rfl))) rfl
set_option maxRecDepth 20000 in
theorem tw_583 : Jvm.Cond.instanceMethod ({ cls := "ChalkCastle", name := "rains", desc := "(III)J" } : Jvm.MethodName) ∈ lw_g := g_in (in_t3 (List.mem_of_getElem? (i := 103) (by rfl))) rfl
set_option maxRecDepth 20000 in
theorem tw_585 : Jvm.Cond.code ({ cls := "ChalkCastle", name := "rains", desc := "(III)J" } : Jvm.MethodName) prog_1_method_27_code (9 : Nat) (Option.some Jvm.ClassFile.FieldType.long) ∈ lw_g := g_in (in_t3 (List.mem_of_getElem? (i := 105) (by rfl))) rfl
set_option maxRecDepth 20000 in
theorem tw_586 : Jvm.Cond.constantLong "ChalkCastle" (278 : Nat) (-1000001 : Int64) ∈ lw_g := g_in (in_t3 (List.mem_of_getElem? (i := 106) (by rfl))) rfl
set_option maxRecDepth 20000 in
theorem tw_587 : Jvm.Cond.methodLink "ChalkCastle" (280 : Nat) ({ cls := "ChalkCastle", name := "power", desc := "(JI)J" } : Jvm.MethodName) ∈ lw_g := g_in (in_t3 (List.mem_of_getElem? (i := 107) (by rfl))) rfl
set_option maxRecDepth 20000 in
theorem tw_588 : Jvm.Cond.static ({ cls := "ChalkCastle", name := "power", desc := "(JI)J" } : Jvm.MethodName) ∈ lw_g := g_in (in_t3 (List.mem_of_getElem? (i := 108) (by rfl))) rfl
set_option maxRecDepth 20000 in
theorem tw_589 : Jvm.Cond.code ({ cls := "ChalkCastle", name := "power", desc := "(JI)J" } : Jvm.MethodName) prog_1_method_56_code (6 : Nat) (Option.some Jvm.ClassFile.FieldType.long) ∈ lw_g := g_in (in_t3 (List.mem_of_getElem? (i := 109) (by rfl))) rfl
set_option maxRecDepth 20000 in
theorem tw_590 : Jvm.Cond.constantLong "ChalkCastle" (284 : Nat) (10 : Int64) ∈ lw_g := g_in (in_t3 (List.mem_of_getElem? (i := 110) (by rfl))) rfl
set_option maxRecDepth 20000 in
theorem tw_591 : Jvm.Cond.methodLink "ChalkCastle" (286 : Nat) ({ cls := "ChalkCastle", name := "lowestTerms", desc := "(JJI)J" } : Jvm.MethodName) ∈ lw_g := g_in (in_t3 (List.mem_of_getElem? (i := 111) (by rfl))) rfl
set_option maxRecDepth 20000 in
theorem tw_592 : Jvm.Cond.static ({ cls := "ChalkCastle", name := "lowestTerms", desc := "(JJI)J" } : Jvm.MethodName) ∈ lw_g := g_in (in_t3 (List.mem_of_getElem? (i := 112) (by rfl))) rfl
set_option maxRecDepth 20000 in
theorem tw_593 : Jvm.Cond.code ({ cls := "ChalkCastle", name := "lowestTerms", desc := "(JJI)J" } : Jvm.MethodName) prog_1_method_57_code (12 : Nat) (Option.some Jvm.ClassFile.FieldType.long) ∈ lw_g := g_in (in_t3 (List.mem_of_getElem? (i := 113) (by rfl))) rfl
set_option maxRecDepth 20000 in
theorem tw_595 : Jvm.Cond.instanceMethod ({ cls := "ChalkCastle", name := "share", desc := "(II)I" } : Jvm.MethodName) ∈ lw_g := g_in (in_t3 (List.mem_of_getElem? (i := 115) (by rfl))) rfl
set_option maxRecDepth 20000 in
theorem tw_597 : Jvm.Cond.code ({ cls := "ChalkCastle", name := "share", desc := "(II)I" } : Jvm.MethodName) prog_1_method_28_code (3 : Nat) (Option.some Jvm.ClassFile.FieldType.int) ∈ lw_g := g_in (in_t3 (List.mem_of_getElem? (i := 117) (by rfl))) rfl
set_option maxRecDepth 20000 in
theorem tw_599 : Jvm.Cond.instanceMethod ({ cls := "ChalkCastle", name := "drawn", desc := "(III)I" } : Jvm.MethodName) ∈ lw_g := g_in (in_t3 (List.mem_of_getElem? (i := 119) (by rfl))) rfl
set_option maxRecDepth 20000 in
theorem tw_601 : Jvm.Cond.code ({ cls := "ChalkCastle", name := "drawn", desc := "(III)I" } : Jvm.MethodName) prog_1_method_29_code (7 : Nat) (Option.some Jvm.ClassFile.FieldType.int) ∈ lw_g := g_in (in_t3 (List.mem_of_getElem? (i := 121) (by rfl))) rfl
set_option maxRecDepth 20000 in
theorem tw_602 : Jvm.Cond.constant "ChalkCastle" (290 : Nat) (999999 : Int32) ∈ lw_g := g_in (in_t3 (List.mem_of_getElem? (i := 122) (by rfl))) rfl
set_option maxRecDepth 20000 in
theorem tw_603 : Jvm.Cond.constantLong "ChalkCastle" (291 : Nat) (16807 : Int64) ∈ lw_g := g_in (in_t3 (List.mem_of_getElem? (i := 123) (by rfl))) rfl
set_option maxRecDepth 20000 in
theorem tw_604 : Jvm.Cond.constantLong "ChalkCastle" (293 : Nat) (2147483647 : Int64) ∈ lw_g := g_in (in_t3 (List.mem_of_getElem? (i := 124) (by rfl))) rfl
set_option maxRecDepth 20000 in
theorem tw_605 : Jvm.Cond.methodLink "ChalkCastle" (295 : Nat) ({ cls := "ChalkCastle", name := "drawWriting", desc := "(J)V" } : Jvm.MethodName) ∈ lw_g := g_in (in_t3 (List.mem_of_getElem? (i := 125) (by rfl))) rfl
set_option maxRecDepth 20000 in
theorem tw_607 : Jvm.Cond.instanceMethod ({ cls := "ChalkCastle", name := "drawWriting", desc := "(J)V" } : Jvm.MethodName) ∈ lw_g := g_in (in_t3 (List.mem_of_getElem? (i := 127) (by rfl))) rfl
set_option maxRecDepth 20000 in
theorem tw_608 : Jvm.Cond.code ({ cls := "ChalkCastle", name := "drawWriting", desc := "(J)V" } : Jvm.MethodName) prog_1_method_52_code (6 : Nat) (Option.none : Option Jvm.ClassFile.FieldType) ∈ lw_g := g_in (in_t3 (List.mem_of_getElem? (i := 128) (by rfl))) rfl
set_option maxRecDepth 20000 in
theorem tw_609 : Jvm.Cond.constantLong "ChalkCastle" (342 : Nat) (5 : Int64) ∈ lw_g := g_in (in_t3 (List.mem_of_getElem? (i := 129) (by rfl))) rfl
set_option maxRecDepth 20000 in
theorem tw_610 : Jvm.Cond.constantLong "ChalkCastle" (299 : Nat) (4 : Int64) ∈ lw_g := g_in (in_t3 (List.mem_of_getElem? (i := 130) (by rfl))) rfl
set_option maxRecDepth 20000 in
theorem tw_612 : Jvm.Cond.instanceMethod ({ cls := "ChalkCastle", name := "image", desc := "(I)I" } : Jvm.MethodName) ∈ lw_g := g_in (in_t3 (List.mem_of_getElem? (i := 132) (by rfl))) rfl
set_option maxRecDepth 20000 in
theorem tw_614 : Jvm.Cond.code ({ cls := "ChalkCastle", name := "image", desc := "(I)I" } : Jvm.MethodName) prog_1_method_30_code (2 : Nat) (Option.some Jvm.ClassFile.FieldType.int) ∈ lw_g := g_in (in_t3 (List.mem_of_getElem? (i := 134) (by rfl))) rfl
set_option maxRecDepth 20000 in
theorem tw_616 : Jvm.Cond.instanceMethod ({ cls := "ChalkCastle", name := "restore", desc := "(I)I" } : Jvm.MethodName) ∈ lw_g := g_in (in_t3 (List.mem_of_getElem? (i := 136) (by rfl))) rfl
set_option maxRecDepth 20000 in
theorem tw_618 : Jvm.Cond.code ({ cls := "ChalkCastle", name := "restore", desc := "(I)I" } : Jvm.MethodName) prog_1_method_31_code (2 : Nat) (Option.some Jvm.ClassFile.FieldType.int) ∈ lw_g := g_in (in_t3 (List.mem_of_getElem? (i := 138) (by rfl))) rfl
set_option maxRecDepth 20000 in
theorem tw_620 : Jvm.Cond.instanceMethod ({ cls := "ChalkCastle", name := "kind", desc := "(I)I" } : Jvm.MethodName) ∈ lw_g := g_in (in_t3 (List.mem_of_getElem? (i := 140) (by rfl))) rfl
set_option maxRecDepth 20000 in
theorem tw_622 : Jvm.Cond.code ({ cls := "ChalkCastle", name := "kind", desc := "(I)I" } : Jvm.MethodName) prog_1_method_32_code (2 : Nat) (Option.some Jvm.ClassFile.FieldType.int) ∈ lw_g := g_in (in_t3 (List.mem_of_getElem? (i := 142) (by rfl))) rfl
set_option maxRecDepth 20000 in
theorem tw_624 : Jvm.Cond.instanceMethod ({ cls := "ChalkCastle", name := "as", desc := "(II)I" } : Jvm.MethodName) ∈ lw_g := g_in (in_t3 (List.mem_of_getElem? (i := 144) (by rfl))) rfl
set_option maxRecDepth 20000 in
theorem tw_626 : Jvm.Cond.code ({ cls := "ChalkCastle", name := "as", desc := "(II)I" } : Jvm.MethodName) prog_1_method_33_code (3 : Nat) (Option.some Jvm.ClassFile.FieldType.int) ∈ lw_g := g_in (in_t3 (List.mem_of_getElem? (i := 146) (by rfl))) rfl
set_option maxRecDepth 20000 in
theorem tw_627 : Jvm.Cond.fieldLink "ChalkCastle" (304 : Nat) "ChalkCastle" "IS_TOO" "[I" ∈ lw_g := g_in (in_t3 (List.mem_of_getElem? (i := 147) (by rfl))) rfl
set_option maxRecDepth 20000 in
theorem tw_630 : Jvm.Cond.instanceMethod ({ cls := "ChalkCastle", name := "ask", desc := "(II)I" } : Jvm.MethodName) ∈ lw_g := g_in (in_t3 (List.mem_of_getElem? (i := 150) (by rfl))) rfl
set_option maxRecDepth 20000 in
theorem tw_632 : Jvm.Cond.code ({ cls := "ChalkCastle", name := "ask", desc := "(II)I" } : Jvm.MethodName) prog_1_method_34_code (3 : Nat) (Option.some Jvm.ClassFile.FieldType.int) ∈ lw_g := g_in (in_t3 (List.mem_of_getElem? (i := 152) (by rfl))) rfl
set_option maxRecDepth 20000 in
theorem tw_633 : Jvm.Cond.methodLink "ChalkCastle" (307 : Nat) ({ cls := "ChalkCastle$Asking", name := "begin", desc := "(IIII)V" } : Jvm.MethodName) ∈ lw_g := g_in (in_t3 (List.mem_of_getElem? (i := 153) (by rfl))) rfl
set_option maxRecDepth 20000 in
theorem tw_634 : Jvm.Cond.instanceMethod ({ cls := "ChalkCastle$Asking", name := "begin", desc := "(IIII)V" } : Jvm.MethodName) ∈ lw_g := g_in (in_t3 (List.mem_of_getElem? (i := 154) (by rfl))) rfl
set_option maxRecDepth 20000 in
theorem tw_636 : Jvm.Cond.code ({ cls := "ChalkCastle$Asking", name := "begin", desc := "(IIII)V" } : Jvm.MethodName) prog_2_method_2_code (5 : Nat) (Option.none : Option Jvm.ClassFile.FieldType) ∈ lw_g := g_in (in_t3 (List.mem_of_getElem? (i := 156) (by rfl))) rfl
set_option maxRecDepth 20000 in
theorem tw_637 : Jvm.Cond.methodLink "ChalkCastle" (310 : Nat) ({ cls := "ChalkCastle", name := "answerOf", desc := "(LChalkCastle$Asking;II)I" } : Jvm.MethodName) ∈ lw_g := g_in (in_t3 (List.mem_of_getElem? (i := 157) (by rfl))) rfl
set_option maxRecDepth 20000 in
theorem tw_638 : Jvm.Cond.static ({ cls := "ChalkCastle", name := "answerOf", desc := "(LChalkCastle$Asking;II)I" } : Jvm.MethodName) ∈ lw_g := g_in (in_t3 (List.mem_of_getElem? (i := 158) (by rfl))) rfl
set_option maxRecDepth 20000 in
theorem tw_639 : Jvm.Cond.code ({ cls := "ChalkCastle", name := "answerOf", desc := "(LChalkCastle$Asking;II)I" } : Jvm.MethodName) prog_1_method_53_code (4 : Nat) (Option.some Jvm.ClassFile.FieldType.int) ∈ lw_g := g_in (in_t3 (List.mem_of_getElem? (i := 159) (by rfl))) rfl
set_option maxRecDepth 20000 in
theorem tw_640 : Jvm.Cond.fieldLink "ChalkCastle" (344 : Nat) "ChalkCastle" "SIZE_BODIES" "[I" ∈ lw_g := g_in (in_t3 (List.mem_of_getElem? (i := 160) (by rfl))) rfl
set_option maxRecDepth 20000 in
theorem tw_642 : Jvm.Cond.fieldLink "ChalkCastle" (347 : Nat) "ChalkCastle" "MARK_BODIES" "[I" ∈ lw_g := g_in (in_t3 (List.mem_of_getElem? (i := 162) (by rfl))) rfl
set_option maxRecDepth 20000 in
theorem tw_644 : Jvm.Cond.methodLink "ChalkCastle" (353 : Nat) ({ cls := "ChalkCastle", name := "runBody", desc := "(LChalkCastle$Asking;II)I" } : Jvm.MethodName) ∈ lw_g := g_in (in_t3 (List.mem_of_getElem? (i := 164) (by rfl))) rfl
set_option maxRecDepth 20000 in
theorem tw_645 : Jvm.Cond.static ({ cls := "ChalkCastle", name := "runBody", desc := "(LChalkCastle$Asking;II)I" } : Jvm.MethodName) ∈ lw_g := g_in (in_t3 (List.mem_of_getElem? (i := 165) (by rfl))) rfl
set_option maxRecDepth 20000 in
theorem tw_646 : Jvm.Cond.code ({ cls := "ChalkCastle", name := "runBody", desc := "(LChalkCastle$Asking;II)I" } : Jvm.MethodName) prog_1_method_54_code (4 : Nat) (Option.some Jvm.ClassFile.FieldType.int) ∈ lw_g := g_in (in_t3 (List.mem_of_getElem? (i := 166) (by rfl))) rfl
set_option maxRecDepth 20000 in
theorem tw_647 : Jvm.Cond.methodLink "ChalkCastle" (356 : Nat) ({ cls := "ChalkCastle$Asking", name := "leave", desc := "(I)V" } : Jvm.MethodName) ∈ lw_g := g_in (in_t3 (List.mem_of_getElem? (i := 167) (by rfl))) rfl
set_option maxRecDepth 20000 in
theorem tw_648 : Jvm.Cond.instanceMethod ({ cls := "ChalkCastle$Asking", name := "leave", desc := "(I)V" } : Jvm.MethodName) ∈ lw_g := g_in (in_t3 (List.mem_of_getElem? (i := 168) (by rfl))) rfl
set_option maxRecDepth 20000 in
theorem tw_650 : Jvm.Cond.code ({ cls := "ChalkCastle$Asking", name := "leave", desc := "(I)V" } : Jvm.MethodName) prog_2_method_3_code (2 : Nat) (Option.none : Option Jvm.ClassFile.FieldType) ∈ lw_g := g_in (in_t3 (List.mem_of_getElem? (i := 170) (by rfl))) rfl
set_option maxRecDepth 20000 in
theorem tw_652 : Jvm.Cond.instanceMethod ({ cls := "ChalkCastle", name := "trace", desc := "(I)I" } : Jvm.MethodName) ∈ lw_g := g_in (in_t3 (List.mem_of_getElem? (i := 172) (by rfl))) rfl
set_option maxRecDepth 20000 in
theorem tw_654 : Jvm.Cond.code ({ cls := "ChalkCastle", name := "trace", desc := "(I)I" } : Jvm.MethodName) prog_1_method_35_code (2 : Nat) (Option.some Jvm.ClassFile.FieldType.int) ∈ lw_g := g_in (in_t3 (List.mem_of_getElem? (i := 174) (by rfl))) rfl
set_option maxRecDepth 20000 in
theorem tw_656 : Jvm.Cond.instanceMethod ({ cls := "ChalkCastle", name := "count", desc := "(I)I" } : Jvm.MethodName) ∈ lw_g := g_in (in_t3 (List.mem_of_getElem? (i := 176) (by rfl))) rfl
set_option maxRecDepth 20000 in
theorem tw_658 : Jvm.Cond.code ({ cls := "ChalkCastle", name := "count", desc := "(I)I" } : Jvm.MethodName) prog_1_method_36_code (2 : Nat) (Option.some Jvm.ClassFile.FieldType.int) ∈ lw_g := g_in (in_t3 (List.mem_of_getElem? (i := 178) (by rfl))) rfl
set_option maxRecDepth 20000 in
theorem tw_659 : Jvm.Cond.methodLink "ChalkCastle" (318 : Nat) ({ cls := "ChalkCastle", name := "rowsThere", desc := "()I" } : Jvm.MethodName) ∈ lw_g := g_in (in_t3 (List.mem_of_getElem? (i := 179) (by rfl))) rfl
set_option maxRecDepth 20000 in
theorem tw_661 : Jvm.Cond.instanceMethod ({ cls := "ChalkCastle", name := "rowsThere", desc := "()I" } : Jvm.MethodName) ∈ lw_g := g_in (in_t3 (List.mem_of_getElem? (i := 181) (by rfl))) rfl
set_option maxRecDepth 20000 in
theorem tw_662 : Jvm.Cond.code ({ cls := "ChalkCastle", name := "rowsThere", desc := "()I" } : Jvm.MethodName) prog_1_method_43_code (3 : Nat) (Option.some Jvm.ClassFile.FieldType.int) ∈ lw_g := g_in (in_t3 (List.mem_of_getElem? (i := 182) (by rfl))) rfl
set_option maxRecDepth 20000 in
theorem tw_664 : Jvm.Cond.instanceMethod ({ cls := "ChalkCastle", name := "status", desc := "()I" } : Jvm.MethodName) ∈ lw_g := g_in (in_t3 (List.mem_of_getElem? (i := 184) (by rfl))) rfl
set_option maxRecDepth 20000 in
theorem tw_666 : Jvm.Cond.code ({ cls := "ChalkCastle", name := "status", desc := "()I" } : Jvm.MethodName) prog_1_method_37_code (1 : Nat) (Option.some Jvm.ClassFile.FieldType.int) ∈ lw_g := g_in (in_t3 (List.mem_of_getElem? (i := 186) (by rfl))) rfl
set_option maxRecDepth 20000 in
theorem tw_670 : Jvm.Cond.instanceMethod ({ cls := "ChalkCastleModel", name := "<init>", desc := "()V" } : Jvm.MethodName) ∈ lw_g := g_in (in_t3 (List.mem_of_getElem? (i := 190) (by rfl))) rfl
set_option maxRecDepth 20000 in
theorem tw_671 : Jvm.Cond.code ({ cls := "ChalkCastleModel", name := "<init>", desc := "()V" } : Jvm.MethodName) prog_9_method_1_code (2 : Nat) (Option.none : Option Jvm.ClassFile.FieldType) ∈ lw_g := g_in (in_t3 (List.mem_of_getElem? (i := 191) (by rfl))) rfl
set_option maxRecDepth 20000 in
theorem tw_672 : Jvm.Cond.methodLink "ChalkCastleModel" (1 : Nat) ({ cls := "java/lang/Object", name := "<init>", desc := "()V" } : Jvm.MethodName) ∈ lw_g := g_in (in_t3 (List.mem_of_getElem? (i := 192) (by rfl))) rfl
set_option maxRecDepth 20000 in
theorem tw_673 : Jvm.Cond.fieldLink "ChalkCastleModel" (80 : Nat) "ChalkCastleModel" "latest" "I" ∈ lw_g := g_in (in_t3 (List.mem_of_getElem? (i := 193) (by rfl))) rfl
set_option maxRecDepth 20000 in
theorem tw_674 : Jvm.Cond.fieldLink "ChalkCastleModel" (7 : Nat) "ChalkCastleModel" "sizes" "[I" ∈ lw_g := g_in (in_t3 (List.mem_of_getElem? (i := 194) (by rfl))) rfl
set_option maxRecDepth 20000 in
theorem tw_675 : Jvm.Cond.fieldLink "ChalkCastleModel" (13 : Nat) "ChalkCastleModel" "lanes" "[I" ∈ lw_g := g_in (in_t3 (List.mem_of_getElem? (i := 195) (by rfl))) rfl
set_option maxRecDepth 20000 in
theorem tw_676 : Jvm.Cond.fieldLink "ChalkCastleModel" (16 : Nat) "ChalkCastleModel" "items" "[I" ∈ lw_g := g_in (in_t3 (List.mem_of_getElem? (i := 196) (by rfl))) rfl
set_option maxRecDepth 20000 in
theorem tw_677 : Jvm.Cond.fieldLink "ChalkCastleModel" (108 : Nat) "ChalkCastleModel" "byteMany" "I" ∈ lw_g := g_in (in_t3 (List.mem_of_getElem? (i := 197) (by rfl))) rfl
set_option maxRecDepth 20000 in
theorem tw_678 : Jvm.Cond.fieldLink "ChalkCastleModel" (19 : Nat) "ChalkCastleModel" "tape" "[I" ∈ lw_g := g_in (in_t3 (List.mem_of_getElem? (i := 198) (by rfl))) rfl
set_option maxRecDepth 20000 in
theorem tw_679 : Jvm.Cond.fieldLink "ChalkCastleModel" (112 : Nat) "ChalkCastleModel" "faultNumber" "I" ∈ lw_g := g_in (in_t3 (List.mem_of_getElem? (i := 199) (by rfl))) rfl
set_option maxRecDepth 20000 in
theorem tw_680 : Jvm.Cond.fieldLink "ChalkCastleModel" (177 : Nat) "ChalkCastleModel" "n" "I" ∈ lw_g := g_in (in_t3 (List.mem_of_getElem? (i := 200) (by rfl))) rfl
set_option maxRecDepth 20000 in
theorem tw_681 : Jvm.Cond.fieldLink "ChalkCastleModel" (180 : Nat) "ChalkCastleModel" "restMany" "I" ∈ lw_g := g_in (in_t3 (List.mem_of_getElem? (i := 201) (by rfl))) rfl
set_option maxRecDepth 20000 in
theorem tw_682 : Jvm.Cond.fieldLink "ChalkCastleModel" (183 : Nat) "ChalkCastleModel" "clerkMany" "I" ∈ lw_g := g_in (in_t3 (List.mem_of_getElem? (i := 202) (by rfl))) rfl
set_option maxRecDepth 20000 in
theorem tw_683 : Jvm.Cond.fieldLink "ChalkCastleModel" (186 : Nat) "ChalkCastleModel" "rain" "I" ∈ lw_g := g_in (in_t3 (List.mem_of_getElem? (i := 203) (by rfl))) rfl
set_option maxRecDepth 20000 in
theorem tw_684 : Jvm.Cond.fieldLink "ChalkCastleModel" (189 : Nat) "ChalkCastleModel" "rubs" "I" ∈ lw_g := g_in (in_t3 (List.mem_of_getElem? (i := 204) (by rfl))) rfl
set_option maxRecDepth 20000 in
theorem tw_685 : Jvm.Cond.fieldLink "ChalkCastleModel" (22 : Nat) "ChalkCastleModel" "on" "[I" ∈ lw_g := g_in (in_t3 (List.mem_of_getElem? (i := 205) (by rfl))) rfl
set_option maxRecDepth 20000 in
theorem tw_686 : Jvm.Cond.fieldLink "ChalkCastleModel" (25 : Nat) "ChalkCastleModel" "hands" "[I" ∈ lw_g := g_in (in_t3 (List.mem_of_getElem? (i := 206) (by rfl))) rfl
set_option maxRecDepth 20000 in
theorem tw_687 : Jvm.Cond.fieldLink "ChalkCastleModel" (28 : Nat) "ChalkCastleModel" "kinds" "[I" ∈ lw_g := g_in (in_t3 (List.mem_of_getElem? (i := 207) (by rfl))) rfl
set_option maxRecDepth 20000 in
theorem tw_688 : Jvm.Cond.fieldLink "ChalkCastleModel" (31 : Nat) "ChalkCastleModel" "now" "[I" ∈ lw_g := g_in (in_t3 (List.mem_of_getElem? (i := 208) (by rfl))) rfl
set_option maxRecDepth 20000 in
theorem tw_689 : Jvm.Cond.fieldLink "ChalkCastleModel" (34 : Nat) "ChalkCastleModel" "tried" "[I" ∈ lw_g := g_in (in_t3 (List.mem_of_getElem? (i := 209) (by rfl))) rfl
set_option maxRecDepth 20000 in
theorem tw_690 : Jvm.Cond.fieldLink "ChalkCastleModel" (115 : Nat) "ChalkCastleModel" "readAt" "I" ∈ lw_g := g_in (in_t3 (List.mem_of_getElem? (i := 210) (by rfl))) rfl
set_option maxRecDepth 20000 in
theorem tw_691 : Jvm.Cond.fieldLink "ChalkCastleModel" (121 : Nat) "ChalkCastleModel" "readFault" "I" ∈ lw_g := g_in (in_t3 (List.mem_of_getElem? (i := 211) (by rfl))) rfl
set_option maxRecDepth 20000 in
theorem tw_692 : Jvm.Cond.fieldLink "ChalkCastleModel" (140 : Nat) "ChalkCastleModel" "readBlocks" "I" ∈ lw_g := g_in (in_t3 (List.mem_of_getElem? (i := 212) (by rfl))) rfl
set_option maxRecDepth 20000 in
theorem tw_693 : Jvm.Cond.fieldLink "ChalkCastleModel" (143 : Nat) "ChalkCastleModel" "readRests" "I" ∈ lw_g := g_in (in_t3 (List.mem_of_getElem? (i := 213) (by rfl))) rfl
set_option maxRecDepth 20000 in
theorem tw_694 : Jvm.Cond.fieldLink "ChalkCastleModel" (154 : Nat) "ChalkCastleModel" "readClerks" "I" ∈ lw_g := g_in (in_t3 (List.mem_of_getElem? (i := 214) (by rfl))) rfl
set_option maxRecDepth 20000 in
theorem tw_695 : Jvm.Cond.fieldLink "ChalkCastleModel" (37 : Nat) "ChalkCastleModel" "readLaw" "[I" ∈ lw_g := g_in (in_t3 (List.mem_of_getElem? (i := 215) (by rfl))) rfl
set_option maxRecDepth 20000 in
theorem tw_696 : Jvm.Cond.fieldLink "ChalkCastleModel" (40 : Nat) "ChalkCastleModel" "readChalk" "[I" ∈ lw_g := g_in (in_t3 (List.mem_of_getElem? (i := 216) (by rfl))) rfl
set_option maxRecDepth 20000 in
theorem tw_697 : Jvm.Cond.fieldLink "ChalkCastleModel" (43 : Nat) "ChalkCastleModel" "readOn" "[I" ∈ lw_g := g_in (in_t3 (List.mem_of_getElem? (i := 217) (by rfl))) rfl
set_option maxRecDepth 20000 in
theorem tw_698 : Jvm.Cond.fieldLink "ChalkCastleModel" (46 : Nat) "ChalkCastleModel" "readHands" "[I" ∈ lw_g := g_in (in_t3 (List.mem_of_getElem? (i := 218) (by rfl))) rfl
set_option maxRecDepth 20000 in
theorem tw_699 : Jvm.Cond.fieldLink "ChalkCastleModel" (49 : Nat) "ChalkCastleModel" "readKinds" "[I" ∈ lw_g := g_in (in_t3 (List.mem_of_getElem? (i := 219) (by rfl))) rfl
set_option maxRecDepth 20000 in
theorem tw_700 : Jvm.Cond.fieldLink "ChalkCastleModel" (192 : Nat) "ChalkCastleModel" "actMany" "I" ∈ lw_g := g_in (in_t3 (List.mem_of_getElem? (i := 220) (by rfl))) rfl
set_option maxRecDepth 20000 in
theorem tw_701 : Jvm.Cond.fieldLink "ChalkCastleModel" (195 : Nat) "ChalkCastleModel" "actAt" "I" ∈ lw_g := g_in (in_t3 (List.mem_of_getElem? (i := 221) (by rfl))) rfl
set_option maxRecDepth 20000 in
theorem tw_702 : Jvm.Cond.fieldLink "ChalkCastleModel" (52 : Nat) "ChalkCastleModel" "acts" "[I" ∈ lw_g := g_in (in_t3 (List.mem_of_getElem? (i := 222) (by rfl))) rfl
set_option maxRecDepth 20000 in
theorem tw_703 : Jvm.Cond.fieldLink "ChalkCastleModel" (55 : Nat) "ChalkCastleModel" "layers" "[I" ∈ lw_g := g_in (in_t3 (List.mem_of_getElem? (i := 223) (by rfl))) rfl
set_option maxRecDepth 20000 in
theorem tw_704 : Jvm.Cond.fieldLink "ChalkCastleModel" (58 : Nat) "ChalkCastleModel" "isKept" "[Z" ∈ lw_g := g_in (in_t3 (List.mem_of_getElem? (i := 224) (by rfl))) rfl
set_option maxRecDepth 20000 in
theorem tw_705 : Jvm.Cond.fieldLink "ChalkCastleModel" (62 : Nat) "ChalkCastleModel" "keptLaw" "[I" ∈ lw_g := g_in (in_t3 (List.mem_of_getElem? (i := 225) (by rfl))) rfl
set_option maxRecDepth 20000 in
theorem tw_706 : Jvm.Cond.fieldLink "ChalkCastleModel" (65 : Nat) "ChalkCastleModel" "keptOn" "[I" ∈ lw_g := g_in (in_t3 (List.mem_of_getElem? (i := 226) (by rfl))) rfl
set_option maxRecDepth 20000 in
theorem tw_707 : Jvm.Cond.fieldLink "ChalkCastleModel" (68 : Nat) "ChalkCastleModel" "keptHands" "[I" ∈ lw_g := g_in (in_t3 (List.mem_of_getElem? (i := 227) (by rfl))) rfl
set_option maxRecDepth 20000 in
theorem tw_708 : Jvm.Cond.fieldLink "ChalkCastleModel" (71 : Nat) "ChalkCastleModel" "keptKinds" "[I" ∈ lw_g := g_in (in_t3 (List.mem_of_getElem? (i := 228) (by rfl))) rfl
set_option maxRecDepth 20000 in
theorem tw_709 : Jvm.Cond.fieldLink "ChalkCastleModel" (74 : Nat) "ChalkCastleModel" "keptNow" "[I" ∈ lw_g := g_in (in_t3 (List.mem_of_getElem? (i := 229) (by rfl))) rfl
set_option maxRecDepth 20000 in
theorem tw_710 : Jvm.Cond.fieldLink "ChalkCastleModel" (288 : Nat) "ChalkCastleModel" "traceMany" "I" ∈ lw_g := g_in (in_t3 (List.mem_of_getElem? (i := 230) (by rfl))) rfl
set_option maxRecDepth 20000 in
theorem tw_711 : Jvm.Cond.fieldLink "ChalkCastleModel" (77 : Nat) "ChalkCastleModel" "traced" "[I" ∈ lw_g := g_in (in_t3 (List.mem_of_getElem? (i := 231) (by rfl))) rfl
set_option maxRecDepth 20000 in
theorem tw_793 : Jvm.Cond.instanceMethod ({ cls := "ChalkCastleModel", name := "status", desc := "()I" } : Jvm.MethodName) ∈ lw_g := g_in (in_t4 (List.mem_of_getElem? (i := 73) (by rfl))) rfl
set_option maxRecDepth 20000 in
theorem tw_795 : Jvm.Cond.code ({ cls := "ChalkCastleModel", name := "status", desc := "()I" } : Jvm.MethodName) prog_9_method_8_code (1 : Nat) (Option.some Jvm.ClassFile.FieldType.int) ∈ lw_g := g_in (in_t4 (List.mem_of_getElem? (i := 75) (by rfl))) rfl
set_option maxRecDepth 20000 in
theorem tw_797 : Jvm.Cond.instanceMethod ({ cls := "ChalkCastleModel", name := "row", desc := "(III)I" } : Jvm.MethodName) ∈ lw_g := g_in (in_t4 (List.mem_of_getElem? (i := 77) (by rfl))) rfl
set_option maxRecDepth 20000 in
theorem tw_799 : Jvm.Cond.code ({ cls := "ChalkCastleModel", name := "row", desc := "(III)I" } : Jvm.MethodName) prog_9_method_11_code (5 : Nat) (Option.some Jvm.ClassFile.FieldType.int) ∈ lw_g := g_in (in_t4 (List.mem_of_getElem? (i := 79) (by rfl))) rfl
set_option maxRecDepth 20000 in
theorem tw_800 : Jvm.Cond.methodLink "ChalkCastleModel" (89 : Nat) ({ cls := "ChalkCastleModel", name := "isRow", desc := "(I)Z" } : Jvm.MethodName) ∈ lw_g := g_in (in_t4 (List.mem_of_getElem? (i := 80) (by rfl))) rfl
set_option maxRecDepth 20000 in
theorem tw_801 : Jvm.Cond.static ({ cls := "ChalkCastleModel", name := "isRow", desc := "(I)Z" } : Jvm.MethodName) ∈ lw_g := g_in (in_t4 (List.mem_of_getElem? (i := 81) (by rfl))) rfl
set_option maxRecDepth 20000 in
theorem tw_802 : Jvm.Cond.code ({ cls := "ChalkCastleModel", name := "isRow", desc := "(I)Z" } : Jvm.MethodName) prog_9_method_9_code (1 : Nat) (Option.some Jvm.ClassFile.FieldType.boolean) ∈ lw_g := g_in (in_t4 (List.mem_of_getElem? (i := 82) (by rfl))) rfl
set_option maxRecDepth 20000 in
theorem tw_803 : Jvm.Cond.methodLink "ChalkCastleModel" (85 : Nat) ({ cls := "ChalkCastleModel", name := "in", desc := "(III)Z" } : Jvm.MethodName) ∈ lw_g := g_in (in_t4 (List.mem_of_getElem? (i := 83) (by rfl))) rfl
set_option maxRecDepth 20000 in
theorem tw_804 : Jvm.Cond.static ({ cls := "ChalkCastleModel", name := "in", desc := "(III)Z" } : Jvm.MethodName) ∈ lw_g := g_in (in_t4 (List.mem_of_getElem? (i := 84) (by rfl))) rfl
set_option maxRecDepth 20000 in
theorem tw_805 : Jvm.Cond.code ({ cls := "ChalkCastleModel", name := "in", desc := "(III)Z" } : Jvm.MethodName) prog_9_method_2_code (3 : Nat) (Option.some Jvm.ClassFile.FieldType.boolean) ∈ lw_g := g_in (in_t4 (List.mem_of_getElem? (i := 85) (by rfl))) rfl
set_option maxRecDepth 20000 in
theorem tw_806 : Jvm.Cond.constant "ChalkCastleModel" (93 : Nat) (-1000001 : Int32) ∈ lw_g := g_in (in_t4 (List.mem_of_getElem? (i := 86) (by rfl))) rfl
set_option maxRecDepth 20000 in
theorem tw_807 : Jvm.Cond.methodLink "ChalkCastleModel" (94 : Nat) ({ cls := "ChalkCastleModel", name := "meets", desc := "(I)I" } : Jvm.MethodName) ∈ lw_g := g_in (in_t4 (List.mem_of_getElem? (i := 87) (by rfl))) rfl
set_option maxRecDepth 20000 in
theorem tw_809 : Jvm.Cond.instanceMethod ({ cls := "ChalkCastleModel", name := "meets", desc := "(I)I" } : Jvm.MethodName) ∈ lw_g := g_in (in_t4 (List.mem_of_getElem? (i := 89) (by rfl))) rfl
set_option maxRecDepth 20000 in
theorem tw_810 : Jvm.Cond.code ({ cls := "ChalkCastleModel", name := "meets", desc := "(I)I" } : Jvm.MethodName) prog_9_method_6_code (2 : Nat) (Option.some Jvm.ClassFile.FieldType.int) ∈ lw_g := g_in (in_t4 (List.mem_of_getElem? (i := 90) (by rfl))) rfl
set_option maxRecDepth 20000 in
theorem tw_811 : Jvm.Cond.constant "ChalkCastleModel" (84 : Nat) (-1000010 : Int32) ∈ lw_g := g_in (in_t4 (List.mem_of_getElem? (i := 91) (by rfl))) rfl
set_option maxRecDepth 20000 in
theorem tw_812 : Jvm.Cond.methodLink "ChalkCastleModel" (98 : Nat) ({ cls := "ChalkCastleModel", name := "well", desc := "(I)I" } : Jvm.MethodName) ∈ lw_g := g_in (in_t4 (List.mem_of_getElem? (i := 92) (by rfl))) rfl
set_option maxRecDepth 20000 in
theorem tw_814 : Jvm.Cond.instanceMethod ({ cls := "ChalkCastleModel", name := "well", desc := "(I)I" } : Jvm.MethodName) ∈ lw_g := g_in (in_t4 (List.mem_of_getElem? (i := 94) (by rfl))) rfl
set_option maxRecDepth 20000 in
theorem tw_815 : Jvm.Cond.code ({ cls := "ChalkCastleModel", name := "well", desc := "(I)I" } : Jvm.MethodName) prog_9_method_7_code (2 : Nat) (Option.some Jvm.ClassFile.FieldType.int) ∈ lw_g := g_in (in_t4 (List.mem_of_getElem? (i := 95) (by rfl))) rfl
set_option maxRecDepth 20000 in
theorem tw_817 : Jvm.Cond.instanceMethod ({ cls := "ChalkCastleModel", name := "set", desc := "(III)I" } : Jvm.MethodName) ∈ lw_g := g_in (in_t4 (List.mem_of_getElem? (i := 97) (by rfl))) rfl
set_option maxRecDepth 20000 in
theorem tw_819 : Jvm.Cond.code ({ cls := "ChalkCastleModel", name := "set", desc := "(III)I" } : Jvm.MethodName) prog_9_method_12_code (4 : Nat) (Option.some Jvm.ClassFile.FieldType.int) ∈ lw_g := g_in (in_t4 (List.mem_of_getElem? (i := 99) (by rfl))) rfl
set_option maxRecDepth 20000 in
theorem tw_820 : Jvm.Cond.methodLink "ChalkCastleModel" (101 : Nat) ({ cls := "ChalkCastleModel", name := "cut", desc := "(II)I" } : Jvm.MethodName) ∈ lw_g := g_in (in_t4 (List.mem_of_getElem? (i := 100) (by rfl))) rfl
set_option maxRecDepth 20000 in
theorem tw_821 : Jvm.Cond.static ({ cls := "ChalkCastleModel", name := "cut", desc := "(II)I" } : Jvm.MethodName) ∈ lw_g := g_in (in_t4 (List.mem_of_getElem? (i := 101) (by rfl))) rfl
set_option maxRecDepth 20000 in
theorem tw_822 : Jvm.Cond.code ({ cls := "ChalkCastleModel", name := "cut", desc := "(II)I" } : Jvm.MethodName) prog_9_method_10_code (2 : Nat) (Option.some Jvm.ClassFile.FieldType.int) ∈ lw_g := g_in (in_t4 (List.mem_of_getElem? (i := 102) (by rfl))) rfl
set_option maxRecDepth 20000 in
theorem tw_824 : Jvm.Cond.instanceMethod ({ cls := "ChalkCastleModel", name := "copy", desc := "(IIIII)I" } : Jvm.MethodName) ∈ lw_g := g_in (in_t4 (List.mem_of_getElem? (i := 104) (by rfl))) rfl
set_option maxRecDepth 20000 in
theorem tw_826 : Jvm.Cond.code ({ cls := "ChalkCastleModel", name := "copy", desc := "(IIIII)I" } : Jvm.MethodName) prog_9_method_14_code (9 : Nat) (Option.some Jvm.ClassFile.FieldType.int) ∈ lw_g := g_in (in_t4 (List.mem_of_getElem? (i := 106) (by rfl))) rfl
set_option maxRecDepth 20000 in
theorem tw_827 : Jvm.Cond.methodLink "ChalkCastleModel" (105 : Nat) ({ cls := "ChalkCastleModel", name := "isPart", desc := "(III)Z" } : Jvm.MethodName) ∈ lw_g := g_in (in_t4 (List.mem_of_getElem? (i := 107) (by rfl))) rfl
set_option maxRecDepth 20000 in
theorem tw_829 : Jvm.Cond.instanceMethod ({ cls := "ChalkCastleModel", name := "isPart", desc := "(III)Z" } : Jvm.MethodName) ∈ lw_g := g_in (in_t4 (List.mem_of_getElem? (i := 109) (by rfl))) rfl
set_option maxRecDepth 20000 in
theorem tw_830 : Jvm.Cond.code ({ cls := "ChalkCastleModel", name := "isPart", desc := "(III)Z" } : Jvm.MethodName) prog_9_method_13_code (4 : Nat) (Option.some Jvm.ClassFile.FieldType.boolean) ∈ lw_g := g_in (in_t4 (List.mem_of_getElem? (i := 110) (by rfl))) rfl
set_option maxRecDepth 20000 in
theorem tw_832 : Jvm.Cond.instanceMethod ({ cls := "ChalkCastleModel", name := "drop", desc := "(I)I" } : Jvm.MethodName) ∈ lw_g := g_in (in_t4 (List.mem_of_getElem? (i := 112) (by rfl))) rfl
set_option maxRecDepth 20000 in
theorem tw_834 : Jvm.Cond.code ({ cls := "ChalkCastleModel", name := "drop", desc := "(I)I" } : Jvm.MethodName) prog_9_method_15_code (3 : Nat) (Option.some Jvm.ClassFile.FieldType.int) ∈ lw_g := g_in (in_t4 (List.mem_of_getElem? (i := 114) (by rfl))) rfl
set_option maxRecDepth 20000 in
theorem tw_836 : Jvm.Cond.instanceMethod ({ cls := "ChalkCastleModel", name := "feed", desc := "(I)I" } : Jvm.MethodName) ∈ lw_g := g_in (in_t4 (List.mem_of_getElem? (i := 116) (by rfl))) rfl
set_option maxRecDepth 20000 in
theorem tw_838 : Jvm.Cond.code ({ cls := "ChalkCastleModel", name := "feed", desc := "(I)I" } : Jvm.MethodName) prog_9_method_17_code (2 : Nat) (Option.some Jvm.ClassFile.FieldType.int) ∈ lw_g := g_in (in_t4 (List.mem_of_getElem? (i := 118) (by rfl))) rfl
set_option maxRecDepth 20000 in
theorem tw_839 : Jvm.Cond.constant "ChalkCastleModel" (111 : Nat) (-1000003 : Int32) ∈ lw_g := g_in (in_t4 (List.mem_of_getElem? (i := 119) (by rfl))) rfl
set_option maxRecDepth 20000 in
theorem tw_841 : Jvm.Cond.instanceMethod ({ cls := "ChalkCastleModel", name := "fault", desc := "()I" } : Jvm.MethodName) ∈ lw_g := g_in (in_t4 (List.mem_of_getElem? (i := 121) (by rfl))) rfl
set_option maxRecDepth 20000 in
theorem tw_843 : Jvm.Cond.code ({ cls := "ChalkCastleModel", name := "fault", desc := "()I" } : Jvm.MethodName) prog_9_method_18_code (1 : Nat) (Option.some Jvm.ClassFile.FieldType.int) ∈ lw_g := g_in (in_t4 (List.mem_of_getElem? (i := 123) (by rfl))) rfl
set_option maxRecDepth 20000 in
theorem tw_845 : Jvm.Cond.instanceMethod ({ cls := "ChalkCastleModel", name := "castle", desc := "()I" } : Jvm.MethodName) ∈ lw_g := g_in (in_t4 (List.mem_of_getElem? (i := 125) (by rfl))) rfl
set_option maxRecDepth 20000 in
theorem tw_847 : Jvm.Cond.code ({ cls := "ChalkCastleModel", name := "castle", desc := "()I" } : Jvm.MethodName) prog_9_method_32_code (3 : Nat) (Option.some Jvm.ClassFile.FieldType.int) ∈ lw_g := g_in (in_t4 (List.mem_of_getElem? (i := 127) (by rfl))) rfl
set_option maxRecDepth 20000 in
theorem tw_848 : Jvm.Cond.methodLink "ChalkCastleModel" (173 : Nat) ({ cls := "ChalkCastleModel", name := "reads", desc := "()Z" } : Jvm.MethodName) ∈ lw_g := g_in (in_t4 (List.mem_of_getElem? (i := 128) (by rfl))) rfl
set_option maxRecDepth 20000 in
theorem tw_850 : Jvm.Cond.instanceMethod ({ cls := "ChalkCastleModel", name := "reads", desc := "()Z" } : Jvm.MethodName) ∈ lw_g := g_in (in_t4 (List.mem_of_getElem? (i := 130) (by rfl))) rfl
set_option maxRecDepth 20000 in
theorem tw_851 : Jvm.Cond.code ({ cls := "ChalkCastleModel", name := "reads", desc := "()Z" } : Jvm.MethodName) prog_9_method_31_code (2 : Nat) (Option.some Jvm.ClassFile.FieldType.boolean) ∈ lw_g := g_in (in_t4 (List.mem_of_getElem? (i := 131) (by rfl))) rfl
set_option maxRecDepth 20000 in
theorem tw_852 : Jvm.Cond.methodLink "ChalkCastleModel" (167 : Nat) ({ cls := "ChalkCastleModel", name := "readsLaw", desc := "()Z" } : Jvm.MethodName) ∈ lw_g := g_in (in_t4 (List.mem_of_getElem? (i := 132) (by rfl))) rfl
set_option maxRecDepth 20000 in
theorem tw_854 : Jvm.Cond.instanceMethod ({ cls := "ChalkCastleModel", name := "readsLaw", desc := "()Z" } : Jvm.MethodName) ∈ lw_g := g_in (in_t4 (List.mem_of_getElem? (i := 134) (by rfl))) rfl
set_option maxRecDepth 20000 in
theorem tw_855 : Jvm.Cond.code ({ cls := "ChalkCastleModel", name := "readsLaw", desc := "()Z" } : Jvm.MethodName) prog_9_method_25_code (1 : Nat) (Option.some Jvm.ClassFile.FieldType.boolean) ∈ lw_g := g_in (in_t4 (List.mem_of_getElem? (i := 135) (by rfl))) rfl
set_option maxRecDepth 20000 in
theorem tw_856 : Jvm.Cond.methodLink "ChalkCastleModel" (134 : Nat) ({ cls := "ChalkCastleModel", name := "readsSign", desc := "(I)Z" } : Jvm.MethodName) ∈ lw_g := g_in (in_t4 (List.mem_of_getElem? (i := 136) (by rfl))) rfl
set_option maxRecDepth 20000 in
theorem tw_858 : Jvm.Cond.instanceMethod ({ cls := "ChalkCastleModel", name := "readsSign", desc := "(I)Z" } : Jvm.MethodName) ∈ lw_g := g_in (in_t4 (List.mem_of_getElem? (i := 138) (by rfl))) rfl
set_option maxRecDepth 20000 in
theorem tw_859 : Jvm.Cond.code ({ cls := "ChalkCastleModel", name := "readsSign", desc := "(I)Z" } : Jvm.MethodName) prog_9_method_23_code (2 : Nat) (Option.some Jvm.ClassFile.FieldType.boolean) ∈ lw_g := g_in (in_t4 (List.mem_of_getElem? (i := 139) (by rfl))) rfl
set_option maxRecDepth 20000 in
theorem tw_860 : Jvm.Cond.methodLink "ChalkCastleModel" (124 : Nat) ({ cls := "ChalkCastleModel", name := "here", desc := "()I" } : Jvm.MethodName) ∈ lw_g := g_in (in_t4 (List.mem_of_getElem? (i := 140) (by rfl))) rfl
set_option maxRecDepth 20000 in
theorem tw_862 : Jvm.Cond.instanceMethod ({ cls := "ChalkCastleModel", name := "here", desc := "()I" } : Jvm.MethodName) ∈ lw_g := g_in (in_t4 (List.mem_of_getElem? (i := 142) (by rfl))) rfl
set_option maxRecDepth 20000 in
theorem tw_863 : Jvm.Cond.code ({ cls := "ChalkCastleModel", name := "here", desc := "()I" } : Jvm.MethodName) prog_9_method_19_code (1 : Nat) (Option.some Jvm.ClassFile.FieldType.int) ∈ lw_g := g_in (in_t4 (List.mem_of_getElem? (i := 143) (by rfl))) rfl
set_option maxRecDepth 20000 in
theorem tw_864 : Jvm.Cond.methodLink "ChalkCastleModel" (128 : Nat) ({ cls := "ChalkCastleModel", name := "fails", desc := "(I)Z" } : Jvm.MethodName) ∈ lw_g := g_in (in_t4 (List.mem_of_getElem? (i := 144) (by rfl))) rfl
set_option maxRecDepth 20000 in
theorem tw_866 : Jvm.Cond.instanceMethod ({ cls := "ChalkCastleModel", name := "fails", desc := "(I)Z" } : Jvm.MethodName) ∈ lw_g := g_in (in_t4 (List.mem_of_getElem? (i := 146) (by rfl))) rfl
set_option maxRecDepth 20000 in
theorem tw_867 : Jvm.Cond.code ({ cls := "ChalkCastleModel", name := "fails", desc := "(I)Z" } : Jvm.MethodName) prog_9_method_22_code (2 : Nat) (Option.some Jvm.ClassFile.FieldType.boolean) ∈ lw_g := g_in (in_t4 (List.mem_of_getElem? (i := 147) (by rfl))) rfl
set_option maxRecDepth 20000 in
theorem tw_868 : Jvm.Cond.methodLink "ChalkCastleModel" (137 : Nat) ({ cls := "ChalkCastleModel", name := "number", desc := "(II)I" } : Jvm.MethodName) ∈ lw_g := g_in (in_t4 (List.mem_of_getElem? (i := 148) (by rfl))) rfl
set_option maxRecDepth 20000 in
theorem tw_870 : Jvm.Cond.instanceMethod ({ cls := "ChalkCastleModel", name := "number", desc := "(II)I" } : Jvm.MethodName) ∈ lw_g := g_in (in_t4 (List.mem_of_getElem? (i := 150) (by rfl))) rfl
set_option maxRecDepth 20000 in
theorem tw_871 : Jvm.Cond.code ({ cls := "ChalkCastleModel", name := "number", desc := "(II)I" } : Jvm.MethodName) prog_9_method_24_code (5 : Nat) (Option.some Jvm.ClassFile.FieldType.int) ∈ lw_g := g_in (in_t4 (List.mem_of_getElem? (i := 151) (by rfl))) rfl
set_option maxRecDepth 20000 in
theorem tw_872 : Jvm.Cond.methodLink "ChalkCastleModel" (131 : Nat) ({ cls := "ChalkCastleModel", name := "run", desc := "()I" } : Jvm.MethodName) ∈ lw_g := g_in (in_t4 (List.mem_of_getElem? (i := 152) (by rfl))) rfl
set_option maxRecDepth 20000 in
theorem tw_874 : Jvm.Cond.instanceMethod ({ cls := "ChalkCastleModel", name := "run", desc := "()I" } : Jvm.MethodName) ∈ lw_g := g_in (in_t4 (List.mem_of_getElem? (i := 154) (by rfl))) rfl
set_option maxRecDepth 20000 in
theorem tw_875 : Jvm.Cond.code ({ cls := "ChalkCastleModel", name := "run", desc := "()I" } : Jvm.MethodName) prog_9_method_21_code (2 : Nat) (Option.some Jvm.ClassFile.FieldType.int) ∈ lw_g := g_in (in_t4 (List.mem_of_getElem? (i := 155) (by rfl))) rfl
set_option maxRecDepth 20000 in
theorem tw_876 : Jvm.Cond.methodLink "ChalkCastleModel" (118 : Nat) ({ cls := "ChalkCastleModel", name := "isFigure", desc := "(I)Z" } : Jvm.MethodName) ∈ lw_g := g_in (in_t4 (List.mem_of_getElem? (i := 156) (by rfl))) rfl
set_option maxRecDepth 20000 in
theorem tw_878 : Jvm.Cond.instanceMethod ({ cls := "ChalkCastleModel", name := "isFigure", desc := "(I)Z" } : Jvm.MethodName) ∈ lw_g := g_in (in_t4 (List.mem_of_getElem? (i := 158) (by rfl))) rfl
set_option maxRecDepth 20000 in
theorem tw_879 : Jvm.Cond.code ({ cls := "ChalkCastleModel", name := "isFigure", desc := "(I)Z" } : Jvm.MethodName) prog_9_method_20_code (2 : Nat) (Option.some Jvm.ClassFile.FieldType.boolean) ∈ lw_g := g_in (in_t4 (List.mem_of_getElem? (i := 159) (by rfl))) rfl
set_option maxRecDepth 20000 in
theorem tw_880 : Jvm.Cond.methodLink "ChalkCastleModel" (170 : Nat) ({ cls := "ChalkCastleModel", name := "readsItem", desc := "()Z" } : Jvm.MethodName) ∈ lw_g := g_in (in_t4 (List.mem_of_getElem? (i := 160) (by rfl))) rfl
set_option maxRecDepth 20000 in
theorem tw_882 : Jvm.Cond.instanceMethod ({ cls := "ChalkCastleModel", name := "readsItem", desc := "()Z" } : Jvm.MethodName) ∈ lw_g := g_in (in_t4 (List.mem_of_getElem? (i := 162) (by rfl))) rfl
set_option maxRecDepth 20000 in
theorem tw_883 : Jvm.Cond.code ({ cls := "ChalkCastleModel", name := "readsItem", desc := "()Z" } : Jvm.MethodName) prog_9_method_30_code (2 : Nat) (Option.some Jvm.ClassFile.FieldType.boolean) ∈ lw_g := g_in (in_t4 (List.mem_of_getElem? (i := 163) (by rfl))) rfl
set_option maxRecDepth 20000 in
theorem tw_884 : Jvm.Cond.methodLink "ChalkCastleModel" (157 : Nat) ({ cls := "ChalkCastleModel", name := "readsBlock", desc := "()Z" } : Jvm.MethodName) ∈ lw_g := g_in (in_t4 (List.mem_of_getElem? (i := 164) (by rfl))) rfl
set_option maxRecDepth 20000 in
theorem tw_886 : Jvm.Cond.instanceMethod ({ cls := "ChalkCastleModel", name := "readsBlock", desc := "()Z" } : Jvm.MethodName) ∈ lw_g := g_in (in_t4 (List.mem_of_getElem? (i := 166) (by rfl))) rfl
set_option maxRecDepth 20000 in
theorem tw_887 : Jvm.Cond.code ({ cls := "ChalkCastleModel", name := "readsBlock", desc := "()Z" } : Jvm.MethodName) prog_9_method_26_code (2 : Nat) (Option.some Jvm.ClassFile.FieldType.boolean) ∈ lw_g := g_in (in_t4 (List.mem_of_getElem? (i := 167) (by rfl))) rfl
set_option maxRecDepth 20000 in
theorem tw_888 : Jvm.Cond.methodLink "ChalkCastleModel" (161 : Nat) ({ cls := "ChalkCastleModel", name := "readsRest", desc := "()Z" } : Jvm.MethodName) ∈ lw_g := g_in (in_t4 (List.mem_of_getElem? (i := 168) (by rfl))) rfl
set_option maxRecDepth 20000 in
theorem tw_890 : Jvm.Cond.instanceMethod ({ cls := "ChalkCastleModel", name := "readsRest", desc := "()Z" } : Jvm.MethodName) ∈ lw_g := g_in (in_t4 (List.mem_of_getElem? (i := 170) (by rfl))) rfl
set_option maxRecDepth 20000 in
theorem tw_891 : Jvm.Cond.code ({ cls := "ChalkCastleModel", name := "readsRest", desc := "()Z" } : Jvm.MethodName) prog_9_method_27_code (4 : Nat) (Option.some Jvm.ClassFile.FieldType.boolean) ∈ lw_g := g_in (in_t4 (List.mem_of_getElem? (i := 171) (by rfl))) rfl
set_option maxRecDepth 20000 in
theorem tw_892 : Jvm.Cond.methodLink "ChalkCastleModel" (146 : Nat) ({ cls := "ChalkCastleModel", name := "has", desc := "(II)Z" } : Jvm.MethodName) ∈ lw_g := g_in (in_t4 (List.mem_of_getElem? (i := 172) (by rfl))) rfl
set_option maxRecDepth 20000 in
theorem tw_893 : Jvm.Cond.static ({ cls := "ChalkCastleModel", name := "has", desc := "(II)Z" } : Jvm.MethodName) ∈ lw_g := g_in (in_t4 (List.mem_of_getElem? (i := 173) (by rfl))) rfl
set_option maxRecDepth 20000 in
theorem tw_894 : Jvm.Cond.code ({ cls := "ChalkCastleModel", name := "has", desc := "(II)Z" } : Jvm.MethodName) prog_9_method_3_code (2 : Nat) (Option.some Jvm.ClassFile.FieldType.boolean) ∈ lw_g := g_in (in_t4 (List.mem_of_getElem? (i := 174) (by rfl))) rfl
set_option maxRecDepth 20000 in
theorem tw_895 : Jvm.Cond.methodLink "ChalkCastleModel" (164 : Nat) ({ cls := "ChalkCastleModel", name := "readsClerk", desc := "()Z" } : Jvm.MethodName) ∈ lw_g := g_in (in_t4 (List.mem_of_getElem? (i := 175) (by rfl))) rfl
set_option maxRecDepth 20000 in
theorem tw_897 : Jvm.Cond.instanceMethod ({ cls := "ChalkCastleModel", name := "readsClerk", desc := "()Z" } : Jvm.MethodName) ∈ lw_g := g_in (in_t4 (List.mem_of_getElem? (i := 177) (by rfl))) rfl
set_option maxRecDepth 20000 in
theorem tw_898 : Jvm.Cond.code ({ cls := "ChalkCastleModel", name := "readsClerk", desc := "()Z" } : Jvm.MethodName) prog_9_method_29_code (3 : Nat) (Option.some Jvm.ClassFile.FieldType.boolean) ∈ lw_g := g_in (in_t4 (List.mem_of_getElem? (i := 178) (by rfl))) rfl
set_option maxRecDepth 20000 in
theorem tw_899 : Jvm.Cond.methodLink "ChalkCastleModel" (151 : Nat) ({ cls := "ChalkCastleModel", name := "kindOf", desc := "(I)I" } : Jvm.MethodName) ∈ lw_g := g_in (in_t4 (List.mem_of_getElem? (i := 179) (by rfl))) rfl
set_option maxRecDepth 20000 in
theorem tw_900 : Jvm.Cond.static ({ cls := "ChalkCastleModel", name := "kindOf", desc := "(I)I" } : Jvm.MethodName) ∈ lw_g := g_in (in_t4 (List.mem_of_getElem? (i := 180) (by rfl))) rfl
set_option maxRecDepth 20000 in
theorem tw_901 : Jvm.Cond.code ({ cls := "ChalkCastleModel", name := "kindOf", desc := "(I)I" } : Jvm.MethodName) prog_9_method_28_code (1 : Nat) (Option.some Jvm.ClassFile.FieldType.int) ∈ lw_g := g_in (in_t4 (List.mem_of_getElem? (i := 181) (by rfl))) rfl
set_option maxRecDepth 20000 in
theorem tw_902 : Jvm.Cond.constant "ChalkCastleModel" (150 : Nat) (-1000000 : Int32) ∈ lw_g := g_in (in_t4 (List.mem_of_getElem? (i := 182) (by rfl))) rfl
set_option maxRecDepth 20000 in
theorem tw_903 : Jvm.Cond.constant "ChalkCastleModel" (176 : Nat) (-1000100 : Int32) ∈ lw_g := g_in (in_t4 (List.mem_of_getElem? (i := 183) (by rfl))) rfl
set_option maxRecDepth 20000 in
theorem tw_905 : Jvm.Cond.instanceMethod ({ cls := "ChalkCastleModel", name := "undo", desc := "()I" } : Jvm.MethodName) ∈ lw_g := g_in (in_t4 (List.mem_of_getElem? (i := 185) (by rfl))) rfl
set_option maxRecDepth 20000 in
theorem tw_907 : Jvm.Cond.code ({ cls := "ChalkCastleModel", name := "undo", desc := "()I" } : Jvm.MethodName) prog_9_method_37_code (2 : Nat) (Option.some Jvm.ClassFile.FieldType.int) ∈ lw_g := g_in (in_t4 (List.mem_of_getElem? (i := 187) (by rfl))) rfl
set_option maxRecDepth 20000 in
theorem tw_908 : Jvm.Cond.constant "ChalkCastleModel" (201 : Nat) (-1000002 : Int32) ∈ lw_g := g_in (in_t4 (List.mem_of_getElem? (i := 188) (by rfl))) rfl
set_option maxRecDepth 20000 in
theorem tw_910 : Jvm.Cond.instanceMethod ({ cls := "ChalkCastleModel", name := "write", desc := "(III)I" } : Jvm.MethodName) ∈ lw_g := g_in (in_t4 (List.mem_of_getElem? (i := 190) (by rfl))) rfl
set_option maxRecDepth 20000 in
theorem tw_912 : Jvm.Cond.code ({ cls := "ChalkCastleModel", name := "write", desc := "(III)I" } : Jvm.MethodName) prog_9_method_45_code (5 : Nat) (Option.some Jvm.ClassFile.FieldType.int) ∈ lw_g := g_in (in_t4 (List.mem_of_getElem? (i := 192) (by rfl))) rfl
set_option maxRecDepth 20000 in
theorem tw_913 : Jvm.Cond.methodLink "ChalkCastleModel" (217 : Nat) ({ cls := "ChalkCastleModel", name := "isClerk", desc := "(I)Z" } : Jvm.MethodName) ∈ lw_g := g_in (in_t4 (List.mem_of_getElem? (i := 193) (by rfl))) rfl
set_option maxRecDepth 20000 in
theorem tw_915 : Jvm.Cond.instanceMethod ({ cls := "ChalkCastleModel", name := "isClerk", desc := "(I)Z" } : Jvm.MethodName) ∈ lw_g := g_in (in_t4 (List.mem_of_getElem? (i := 195) (by rfl))) rfl
set_option maxRecDepth 20000 in
theorem tw_916 : Jvm.Cond.code ({ cls := "ChalkCastleModel", name := "isClerk", desc := "(I)Z" } : Jvm.MethodName) prog_9_method_34_code (2 : Nat) (Option.some Jvm.ClassFile.FieldType.boolean) ∈ lw_g := g_in (in_t4 (List.mem_of_getElem? (i := 196) (by rfl))) rfl
set_option maxRecDepth 20000 in
theorem tw_917 : Jvm.Cond.methodLink "ChalkCastleModel" (220 : Nat) ({ cls := "ChalkCastleModel", name := "isBlock", desc := "(I)Z" } : Jvm.MethodName) ∈ lw_g := g_in (in_t4 (List.mem_of_getElem? (i := 197) (by rfl))) rfl
set_option maxRecDepth 20000 in
theorem tw_919 : Jvm.Cond.instanceMethod ({ cls := "ChalkCastleModel", name := "isBlock", desc := "(I)Z" } : Jvm.MethodName) ∈ lw_g := g_in (in_t4 (List.mem_of_getElem? (i := 199) (by rfl))) rfl
set_option maxRecDepth 20000 in
theorem tw_920 : Jvm.Cond.code ({ cls := "ChalkCastleModel", name := "isBlock", desc := "(I)Z" } : Jvm.MethodName) prog_9_method_33_code (2 : Nat) (Option.some Jvm.ClassFile.FieldType.boolean) ∈ lw_g := g_in (in_t4 (List.mem_of_getElem? (i := 200) (by rfl))) rfl
set_option maxRecDepth 20000 in
theorem tw_921 : Jvm.Cond.methodLink "ChalkCastleModel" (210 : Nat) ({ cls := "ChalkCastleModel", name := "takesOf", desc := "([III)I" } : Jvm.MethodName) ∈ lw_g := g_in (in_t4 (List.mem_of_getElem? (i := 201) (by rfl))) rfl
set_option maxRecDepth 20000 in
theorem tw_923 : Jvm.Cond.instanceMethod ({ cls := "ChalkCastleModel", name := "takesOf", desc := "([III)I" } : Jvm.MethodName) ∈ lw_g := g_in (in_t4 (List.mem_of_getElem? (i := 203) (by rfl))) rfl
set_option maxRecDepth 20000 in
theorem tw_924 : Jvm.Cond.code ({ cls := "ChalkCastleModel", name := "takesOf", desc := "([III)I" } : Jvm.MethodName) prog_9_method_41_code (4 : Nat) (Option.some Jvm.ClassFile.FieldType.int) ∈ lw_g := g_in (in_t4 (List.mem_of_getElem? (i := 204) (by rfl))) rfl
set_option maxRecDepth 20000 in
theorem tw_925 : Jvm.Cond.methodLink "ChalkCastleModel" (206 : Nat) ({ cls := "ChalkCastleModel", name := "takesBy", desc := "(IIII)I" } : Jvm.MethodName) ∈ lw_g := g_in (in_t4 (List.mem_of_getElem? (i := 205) (by rfl))) rfl
set_option maxRecDepth 20000 in
theorem tw_927 : Jvm.Cond.instanceMethod ({ cls := "ChalkCastleModel", name := "takesBy", desc := "(IIII)I" } : Jvm.MethodName) ∈ lw_g := g_in (in_t4 (List.mem_of_getElem? (i := 207) (by rfl))) rfl
set_option maxRecDepth 20000 in
theorem tw_928 : Jvm.Cond.code ({ cls := "ChalkCastleModel", name := "takesBy", desc := "(IIII)I" } : Jvm.MethodName) prog_9_method_40_code (5 : Nat) (Option.some Jvm.ClassFile.FieldType.int) ∈ lw_g := g_in (in_t4 (List.mem_of_getElem? (i := 208) (by rfl))) rfl
set_option maxRecDepth 20000 in
theorem tw_929 : Jvm.Cond.methodLink "ChalkCastleModel" (198 : Nat) ({ cls := "ChalkCastleModel", name := "least", desc := "(II)I" } : Jvm.MethodName) ∈ lw_g := g_in (in_t4 (List.mem_of_getElem? (i := 209) (by rfl))) rfl
set_option maxRecDepth 20000 in
theorem tw_930 : Jvm.Cond.static ({ cls := "ChalkCastleModel", name := "least", desc := "(II)I" } : Jvm.MethodName) ∈ lw_g := g_in (in_t4 (List.mem_of_getElem? (i := 210) (by rfl))) rfl
set_option maxRecDepth 20000 in
theorem tw_931 : Jvm.Cond.code ({ cls := "ChalkCastleModel", name := "least", desc := "(II)I" } : Jvm.MethodName) prog_9_method_5_code (2 : Nat) (Option.some Jvm.ClassFile.FieldType.int) ∈ lw_g := g_in (in_t4 (List.mem_of_getElem? (i := 211) (by rfl))) rfl
set_option maxRecDepth 20000 in
theorem tw_932 : Jvm.Cond.methodLink "ChalkCastleModel" (223 : Nat) ({ cls := "ChalkCastleModel", name := "remember", desc := "()V" } : Jvm.MethodName) ∈ lw_g := g_in (in_t4 (List.mem_of_getElem? (i := 212) (by rfl))) rfl
set_option maxRecDepth 20000 in
theorem tw_934 : Jvm.Cond.instanceMethod ({ cls := "ChalkCastleModel", name := "remember", desc := "()V" } : Jvm.MethodName) ∈ lw_g := g_in (in_t4 (List.mem_of_getElem? (i := 214) (by rfl))) rfl
set_option maxRecDepth 20000 in
theorem tw_935 : Jvm.Cond.code ({ cls := "ChalkCastleModel", name := "remember", desc := "()V" } : Jvm.MethodName) prog_9_method_36_code (2 : Nat) (Option.none : Option Jvm.ClassFile.FieldType) ∈ lw_g := g_in (in_t4 (List.mem_of_getElem? (i := 215) (by rfl))) rfl
set_option maxRecDepth 20000 in
theorem tw_936 : Jvm.Cond.methodLink "ChalkCastleModel" (226 : Nat) ({ cls := "ChalkCastleModel", name := "writes", desc := "([IIII)Z" } : Jvm.MethodName) ∈ lw_g := g_in (in_t4 (List.mem_of_getElem? (i := 216) (by rfl))) rfl
set_option maxRecDepth 20000 in
theorem tw_938 : Jvm.Cond.instanceMethod ({ cls := "ChalkCastleModel", name := "writes", desc := "([IIII)Z" } : Jvm.MethodName) ∈ lw_g := g_in (in_t4 (List.mem_of_getElem? (i := 218) (by rfl))) rfl
set_option maxRecDepth 20000 in
theorem tw_939 : Jvm.Cond.code ({ cls := "ChalkCastleModel", name := "writes", desc := "([IIII)Z" } : Jvm.MethodName) prog_9_method_42_code (6 : Nat) (Option.some Jvm.ClassFile.FieldType.boolean) ∈ lw_g := g_in (in_t4 (List.mem_of_getElem? (i := 219) (by rfl))) rfl
set_option maxRecDepth 20000 in
theorem tw_941 : Jvm.Cond.instanceMethod ({ cls := "ChalkCastleModel", name := "rub", desc := "(II)I" } : Jvm.MethodName) ∈ lw_g := g_in (in_t4 (List.mem_of_getElem? (i := 221) (by rfl))) rfl
set_option maxRecDepth 20000 in
theorem tw_943 : Jvm.Cond.code ({ cls := "ChalkCastleModel", name := "rub", desc := "(II)I" } : Jvm.MethodName) prog_9_method_46_code (3 : Nat) (Option.some Jvm.ClassFile.FieldType.int) ∈ lw_g := g_in (in_t4 (List.mem_of_getElem? (i := 223) (by rfl))) rfl
set_option maxRecDepth 20000 in
theorem tw_945 : Jvm.Cond.instanceMethod ({ cls := "ChalkCastleModel", name := "rain", desc := "()I" } : Jvm.MethodName) ∈ lw_g := g_in (in_t4 (List.mem_of_getElem? (i := 225) (by rfl))) rfl
set_option maxRecDepth 20000 in
theorem tw_947 : Jvm.Cond.code ({ cls := "ChalkCastleModel", name := "rain", desc := "()I" } : Jvm.MethodName) prog_9_method_47_code (1 : Nat) (Option.some Jvm.ClassFile.FieldType.int) ∈ lw_g := g_in (in_t4 (List.mem_of_getElem? (i := 227) (by rfl))) rfl
set_option maxRecDepth 20000 in
theorem tw_948 : Jvm.Cond.methodLink "ChalkCastleModel" (230 : Nat) ({ cls := "ChalkCastleModel", name := "rainsOn", desc := "([I)V" } : Jvm.MethodName) ∈ lw_g := g_in (in_t4 (List.mem_of_getElem? (i := 228) (by rfl))) rfl
set_option maxRecDepth 20000 in
theorem tw_950 : Jvm.Cond.instanceMethod ({ cls := "ChalkCastleModel", name := "rainsOn", desc := "([I)V" } : Jvm.MethodName) ∈ lw_g := g_in (in_t4 (List.mem_of_getElem? (i := 230) (by rfl))) rfl
set_option maxRecDepth 20000 in
theorem tw_951 : Jvm.Cond.code ({ cls := "ChalkCastleModel", name := "rainsOn", desc := "([I)V" } : Jvm.MethodName) prog_9_method_44_code (5 : Nat) (Option.none : Option Jvm.ClassFile.FieldType) ∈ lw_g := g_in (in_t4 (List.mem_of_getElem? (i := 231) (by rfl))) rfl
set_option maxRecDepth 20000 in
theorem tw_952 : Jvm.Cond.methodLink "ChalkCastleModel" (202 : Nat) ({ cls := "ChalkCastleModel", name := "standing", desc := "([I)I" } : Jvm.MethodName) ∈ lw_g := g_in (in_t4 (List.mem_of_getElem? (i := 232) (by rfl))) rfl
set_option maxRecDepth 20000 in
theorem tw_954 : Jvm.Cond.instanceMethod ({ cls := "ChalkCastleModel", name := "standing", desc := "([I)I" } : Jvm.MethodName) ∈ lw_g := g_in (in_t4 (List.mem_of_getElem? (i := 234) (by rfl))) rfl
set_option maxRecDepth 20000 in
theorem tw_955 : Jvm.Cond.code ({ cls := "ChalkCastleModel", name := "standing", desc := "([I)I" } : Jvm.MethodName) prog_9_method_38_code (4 : Nat) (Option.some Jvm.ClassFile.FieldType.int) ∈ lw_g := g_in (in_t4 (List.mem_of_getElem? (i := 235) (by rfl))) rfl
set_option maxRecDepth 20000 in
theorem tw_956 : Jvm.Cond.methodLink "ChalkCastleModel" (214 : Nat) ({ cls := "ChalkCastleModel", name := "restingOn", desc := "(I)I" } : Jvm.MethodName) ∈ lw_g := g_in (in_t4 (List.mem_of_getElem? (i := 236) (by rfl))) rfl
set_option maxRecDepth 20000 in
theorem tw_958 : Jvm.Cond.instanceMethod ({ cls := "ChalkCastleModel", name := "restingOn", desc := "(I)I" } : Jvm.MethodName) ∈ lw_g := g_in (in_t4 (List.mem_of_getElem? (i := 238) (by rfl))) rfl
set_option maxRecDepth 20000 in
theorem tw_959 : Jvm.Cond.code ({ cls := "ChalkCastleModel", name := "restingOn", desc := "(I)I" } : Jvm.MethodName) prog_9_method_43_code (4 : Nat) (Option.some Jvm.ClassFile.FieldType.int) ∈ lw_g := g_in (in_t4 (List.mem_of_getElem? (i := 239) (by rfl))) rfl
set_option maxRecDepth 20000 in
theorem tw_961 : Jvm.Cond.instanceMethod ({ cls := "ChalkCastleModel", name := "days", desc := "(I)I" } : Jvm.MethodName) ∈ lw_g := g_in (in_t5 (List.mem_of_getElem? (i := 1) (by rfl))) rfl
set_option maxRecDepth 20000 in
theorem tw_963 : Jvm.Cond.code ({ cls := "ChalkCastleModel", name := "days", desc := "(I)I" } : Jvm.MethodName) prog_9_method_48_code (3 : Nat) (Option.some Jvm.ClassFile.FieldType.int) ∈ lw_g := g_in (in_t5 (List.mem_of_getElem? (i := 3) (by rfl))) rfl
set_option maxRecDepth 20000 in
theorem tw_965 : Jvm.Cond.instanceMethod ({ cls := "ChalkCastleModel", name := "block", desc := "(II)I" } : Jvm.MethodName) ∈ lw_g := g_in (in_t5 (List.mem_of_getElem? (i := 5) (by rfl))) rfl
set_option maxRecDepth 20000 in
theorem tw_967 : Jvm.Cond.code ({ cls := "ChalkCastleModel", name := "block", desc := "(II)I" } : Jvm.MethodName) prog_9_method_49_code (3 : Nat) (Option.some Jvm.ClassFile.FieldType.int) ∈ lw_g := g_in (in_t5 (List.mem_of_getElem? (i := 7) (by rfl))) rfl
set_option maxRecDepth 20000 in
theorem tw_969 : Jvm.Cond.instanceMethod ({ cls := "ChalkCastleModel", name := "clerk", desc := "(II)I" } : Jvm.MethodName) ∈ lw_g := g_in (in_t5 (List.mem_of_getElem? (i := 9) (by rfl))) rfl
set_option maxRecDepth 20000 in
theorem tw_971 : Jvm.Cond.code ({ cls := "ChalkCastleModel", name := "clerk", desc := "(II)I" } : Jvm.MethodName) prog_9_method_50_code (3 : Nat) (Option.some Jvm.ClassFile.FieldType.int) ∈ lw_g := g_in (in_t5 (List.mem_of_getElem? (i := 11) (by rfl))) rfl
set_option maxRecDepth 20000 in
theorem tw_973 : Jvm.Cond.instanceMethod ({ cls := "ChalkCastleModel", name := "takes", desc := "(II)I" } : Jvm.MethodName) ∈ lw_g := g_in (in_t5 (List.mem_of_getElem? (i := 13) (by rfl))) rfl
set_option maxRecDepth 20000 in
theorem tw_975 : Jvm.Cond.code ({ cls := "ChalkCastleModel", name := "takes", desc := "(II)I" } : Jvm.MethodName) prog_9_method_51_code (3 : Nat) (Option.some Jvm.ClassFile.FieldType.int) ∈ lw_g := g_in (in_t5 (List.mem_of_getElem? (i := 15) (by rfl))) rfl
set_option maxRecDepth 20000 in
theorem tw_977 : Jvm.Cond.instanceMethod ({ cls := "ChalkCastleModel", name := "stand", desc := "(I)I" } : Jvm.MethodName) ∈ lw_g := g_in (in_t5 (List.mem_of_getElem? (i := 17) (by rfl))) rfl
set_option maxRecDepth 20000 in
theorem tw_979 : Jvm.Cond.code ({ cls := "ChalkCastleModel", name := "stand", desc := "(I)I" } : Jvm.MethodName) prog_9_method_54_code (2 : Nat) (Option.some Jvm.ClassFile.FieldType.int) ∈ lw_g := g_in (in_t5 (List.mem_of_getElem? (i := 19) (by rfl))) rfl
set_option maxRecDepth 20000 in
theorem tw_980 : Jvm.Cond.methodLink "ChalkCastleModel" (234 : Nat) ({ cls := "ChalkCastleModel", name := "fallen", desc := "([I)I" } : Jvm.MethodName) ∈ lw_g := g_in (in_t5 (List.mem_of_getElem? (i := 20) (by rfl))) rfl
set_option maxRecDepth 20000 in
theorem tw_982 : Jvm.Cond.instanceMethod ({ cls := "ChalkCastleModel", name := "fallen", desc := "([I)I" } : Jvm.MethodName) ∈ lw_g := g_in (in_t5 (List.mem_of_getElem? (i := 22) (by rfl))) rfl
set_option maxRecDepth 20000 in
theorem tw_983 : Jvm.Cond.code ({ cls := "ChalkCastleModel", name := "fallen", desc := "([I)I" } : Jvm.MethodName) prog_9_method_39_code (5 : Nat) (Option.some Jvm.ClassFile.FieldType.int) ∈ lw_g := g_in (in_t5 (List.mem_of_getElem? (i := 23) (by rfl))) rfl
set_option maxRecDepth 20000 in
theorem tw_984 : Jvm.Cond.methodLink "ChalkCastleModel" (237 : Nat) ({ cls := "ChalkCastleModel", name := "allChalk", desc := "()I" } : Jvm.MethodName) ∈ lw_g := g_in (in_t5 (List.mem_of_getElem? (i := 24) (by rfl))) rfl
set_option maxRecDepth 20000 in
theorem tw_986 : Jvm.Cond.instanceMethod ({ cls := "ChalkCastleModel", name := "allChalk", desc := "()I" } : Jvm.MethodName) ∈ lw_g := g_in (in_t5 (List.mem_of_getElem? (i := 26) (by rfl))) rfl
set_option maxRecDepth 20000 in
theorem tw_987 : Jvm.Cond.code ({ cls := "ChalkCastleModel", name := "allChalk", desc := "()I" } : Jvm.MethodName) prog_9_method_53_code (3 : Nat) (Option.some Jvm.ClassFile.FieldType.int) ∈ lw_g := g_in (in_t5 (List.mem_of_getElem? (i := 27) (by rfl))) rfl
set_option maxRecDepth 20000 in
theorem tw_988 : Jvm.Cond.methodLink "ChalkCastleModel" (240 : Nat) ({ cls := "ChalkCastleModel", name := "allLines", desc := "()I" } : Jvm.MethodName) ∈ lw_g := g_in (in_t5 (List.mem_of_getElem? (i := 28) (by rfl))) rfl
set_option maxRecDepth 20000 in
theorem tw_990 : Jvm.Cond.instanceMethod ({ cls := "ChalkCastleModel", name := "allLines", desc := "()I" } : Jvm.MethodName) ∈ lw_g := g_in (in_t5 (List.mem_of_getElem? (i := 30) (by rfl))) rfl
set_option maxRecDepth 20000 in
theorem tw_991 : Jvm.Cond.code ({ cls := "ChalkCastleModel", name := "allLines", desc := "()I" } : Jvm.MethodName) prog_9_method_52_code (3 : Nat) (Option.some Jvm.ClassFile.FieldType.int) ∈ lw_g := g_in (in_t5 (List.mem_of_getElem? (i := 31) (by rfl))) rfl
set_option maxRecDepth 20000 in
theorem tw_993 : Jvm.Cond.instanceMethod ({ cls := "ChalkCastleModel", name := "wouldFall", desc := "(I)I" } : Jvm.MethodName) ∈ lw_g := g_in (in_t5 (List.mem_of_getElem? (i := 33) (by rfl))) rfl
set_option maxRecDepth 20000 in
theorem tw_995 : Jvm.Cond.code ({ cls := "ChalkCastleModel", name := "wouldFall", desc := "(I)I" } : Jvm.MethodName) prog_9_method_57_code (2 : Nat) (Option.some Jvm.ClassFile.FieldType.int) ∈ lw_g := g_in (in_t5 (List.mem_of_getElem? (i := 35) (by rfl))) rfl
set_option maxRecDepth 20000 in
theorem tw_996 : Jvm.Cond.methodLink "ChalkCastleModel" (246 : Nat) ({ cls := "ChalkCastleModel", name := "isBlocks", desc := "(I)Z" } : Jvm.MethodName) ∈ lw_g := g_in (in_t5 (List.mem_of_getElem? (i := 36) (by rfl))) rfl
set_option maxRecDepth 20000 in
theorem tw_998 : Jvm.Cond.instanceMethod ({ cls := "ChalkCastleModel", name := "isBlocks", desc := "(I)Z" } : Jvm.MethodName) ∈ lw_g := g_in (in_t5 (List.mem_of_getElem? (i := 38) (by rfl))) rfl
set_option maxRecDepth 20000 in
theorem tw_999 : Jvm.Cond.code ({ cls := "ChalkCastleModel", name := "isBlocks", desc := "(I)Z" } : Jvm.MethodName) prog_9_method_35_code (2 : Nat) (Option.some Jvm.ClassFile.FieldType.boolean) ∈ lw_g := g_in (in_t5 (List.mem_of_getElem? (i := 39) (by rfl))) rfl
set_option maxRecDepth 20000 in
theorem tw_1000 : Jvm.Cond.methodLink "ChalkCastleModel" (249 : Nat) ({ cls := "ChalkCastleModel", name := "standingWithout", desc := "(I)I" } : Jvm.MethodName) ∈ lw_g := g_in (in_t5 (List.mem_of_getElem? (i := 40) (by rfl))) rfl
set_option maxRecDepth 20000 in
theorem tw_1002 : Jvm.Cond.instanceMethod ({ cls := "ChalkCastleModel", name := "standingWithout", desc := "(I)I" } : Jvm.MethodName) ∈ lw_g := g_in (in_t5 (List.mem_of_getElem? (i := 42) (by rfl))) rfl
set_option maxRecDepth 20000 in
theorem tw_1003 : Jvm.Cond.code ({ cls := "ChalkCastleModel", name := "standingWithout", desc := "(I)I" } : Jvm.MethodName) prog_9_method_56_code (3 : Nat) (Option.some Jvm.ClassFile.FieldType.int) ∈ lw_g := g_in (in_t5 (List.mem_of_getElem? (i := 43) (by rfl))) rfl
set_option maxRecDepth 20000 in
theorem tw_1004 : Jvm.Cond.methodLink "ChalkCastleModel" (243 : Nat) ({ cls := "ChalkCastleModel", name := "copyNow", desc := "()V" } : Jvm.MethodName) ∈ lw_g := g_in (in_t5 (List.mem_of_getElem? (i := 44) (by rfl))) rfl
set_option maxRecDepth 20000 in
theorem tw_1006 : Jvm.Cond.instanceMethod ({ cls := "ChalkCastleModel", name := "copyNow", desc := "()V" } : Jvm.MethodName) ∈ lw_g := g_in (in_t5 (List.mem_of_getElem? (i := 46) (by rfl))) rfl
set_option maxRecDepth 20000 in
theorem tw_1007 : Jvm.Cond.code ({ cls := "ChalkCastleModel", name := "copyNow", desc := "()V" } : Jvm.MethodName) prog_9_method_55_code (2 : Nat) (Option.none : Option Jvm.ClassFile.FieldType) ∈ lw_g := g_in (in_t5 (List.mem_of_getElem? (i := 47) (by rfl))) rfl
set_option maxRecDepth 20000 in
theorem tw_1009 : Jvm.Cond.instanceMethod ({ cls := "ChalkCastleModel", name := "left", desc := "(I)I" } : Jvm.MethodName) ∈ lw_g := g_in (in_t5 (List.mem_of_getElem? (i := 49) (by rfl))) rfl
set_option maxRecDepth 20000 in
theorem tw_1011 : Jvm.Cond.code ({ cls := "ChalkCastleModel", name := "left", desc := "(I)I" } : Jvm.MethodName) prog_9_method_58_code (5 : Nat) (Option.some Jvm.ClassFile.FieldType.int) ∈ lw_g := g_in (in_t5 (List.mem_of_getElem? (i := 51) (by rfl))) rfl
set_option maxRecDepth 20000 in
theorem tw_1013 : Jvm.Cond.instanceMethod ({ cls := "ChalkCastleModel", name := "leastFallen", desc := "(III)I" } : Jvm.MethodName) ∈ lw_g := g_in (in_t5 (List.mem_of_getElem? (i := 53) (by rfl))) rfl
set_option maxRecDepth 20000 in
theorem tw_1015 : Jvm.Cond.code ({ cls := "ChalkCastleModel", name := "leastFallen", desc := "(III)I" } : Jvm.MethodName) prog_9_method_60_code (10 : Nat) (Option.some Jvm.ClassFile.FieldType.int) ∈ lw_g := g_in (in_t5 (List.mem_of_getElem? (i := 55) (by rfl))) rfl
set_option maxRecDepth 20000 in
theorem tw_1016 : Jvm.Cond.methodLink "ChalkCastleModel" (252 : Nat) ({ cls := "ChalkCastleModel", name := "bits", desc := "(I)I" } : Jvm.MethodName) ∈ lw_g := g_in (in_t5 (List.mem_of_getElem? (i := 56) (by rfl))) rfl
set_option maxRecDepth 20000 in
theorem tw_1017 : Jvm.Cond.static ({ cls := "ChalkCastleModel", name := "bits", desc := "(I)I" } : Jvm.MethodName) ∈ lw_g := g_in (in_t5 (List.mem_of_getElem? (i := 57) (by rfl))) rfl
set_option maxRecDepth 20000 in
theorem tw_1018 : Jvm.Cond.code ({ cls := "ChalkCastleModel", name := "bits", desc := "(I)I" } : Jvm.MethodName) prog_9_method_4_code (3 : Nat) (Option.some Jvm.ClassFile.FieldType.int) ∈ lw_g := g_in (in_t5 (List.mem_of_getElem? (i := 58) (by rfl))) rfl
set_option maxRecDepth 20000 in
theorem tw_1019 : Jvm.Cond.methodLink "ChalkCastleModel" (255 : Nat) ({ cls := "ChalkCastleModel", name := "chalkBut", desc := "(I)I" } : Jvm.MethodName) ∈ lw_g := g_in (in_t5 (List.mem_of_getElem? (i := 59) (by rfl))) rfl
set_option maxRecDepth 20000 in
theorem tw_1021 : Jvm.Cond.instanceMethod ({ cls := "ChalkCastleModel", name := "chalkBut", desc := "(I)I" } : Jvm.MethodName) ∈ lw_g := g_in (in_t5 (List.mem_of_getElem? (i := 61) (by rfl))) rfl
set_option maxRecDepth 20000 in
theorem tw_1022 : Jvm.Cond.code ({ cls := "ChalkCastleModel", name := "chalkBut", desc := "(I)I" } : Jvm.MethodName) prog_9_method_59_code (4 : Nat) (Option.some Jvm.ClassFile.FieldType.int) ∈ lw_g := g_in (in_t5 (List.mem_of_getElem? (i := 62) (by rfl))) rfl
set_option maxRecDepth 20000 in
theorem tw_1024 : Jvm.Cond.instanceMethod ({ cls := "ChalkCastleModel", name := "must", desc := "()I" } : Jvm.MethodName) ∈ lw_g := g_in (in_t5 (List.mem_of_getElem? (i := 64) (by rfl))) rfl
set_option maxRecDepth 20000 in
theorem tw_1026 : Jvm.Cond.code ({ cls := "ChalkCastleModel", name := "must", desc := "()I" } : Jvm.MethodName) prog_9_method_61_code (5 : Nat) (Option.some Jvm.ClassFile.FieldType.int) ∈ lw_g := g_in (in_t5 (List.mem_of_getElem? (i := 66) (by rfl))) rfl
set_option maxRecDepth 20000 in
theorem tw_1028 : Jvm.Cond.instanceMethod ({ cls := "ChalkCastleModel", name := "writings", desc := "(IIII)I" } : Jvm.MethodName) ∈ lw_g := g_in (in_t5 (List.mem_of_getElem? (i := 68) (by rfl))) rfl
set_option maxRecDepth 20000 in
theorem tw_1030 : Jvm.Cond.code ({ cls := "ChalkCastleModel", name := "writings", desc := "(IIII)I" } : Jvm.MethodName) prog_9_method_63_code (10 : Nat) (Option.some Jvm.ClassFile.FieldType.int) ∈ lw_g := g_in (in_t5 (List.mem_of_getElem? (i := 70) (by rfl))) rfl
set_option maxRecDepth 20000 in
theorem tw_1031 : Jvm.Cond.methodLink "ChalkCastleModel" (258 : Nat) ({ cls := "ChalkCastleModel", name := "itemAt", desc := "(II)I" } : Jvm.MethodName) ∈ lw_g := g_in (in_t5 (List.mem_of_getElem? (i := 71) (by rfl))) rfl
set_option maxRecDepth 20000 in
theorem tw_1033 : Jvm.Cond.instanceMethod ({ cls := "ChalkCastleModel", name := "itemAt", desc := "(II)I" } : Jvm.MethodName) ∈ lw_g := g_in (in_t5 (List.mem_of_getElem? (i := 73) (by rfl))) rfl
set_option maxRecDepth 20000 in
theorem tw_1034 : Jvm.Cond.code ({ cls := "ChalkCastleModel", name := "itemAt", desc := "(II)I" } : Jvm.MethodName) prog_9_method_16_code (3 : Nat) (Option.some Jvm.ClassFile.FieldType.int) ∈ lw_g := g_in (in_t5 (List.mem_of_getElem? (i := 74) (by rfl))) rfl
set_option maxRecDepth 20000 in
theorem tw_1035 : Jvm.Cond.methodLink "ChalkCastleModel" (261 : Nat) ({ cls := "ChalkCastleModel", name := "standingBy", desc := "(IIII)I" } : Jvm.MethodName) ∈ lw_g := g_in (in_t5 (List.mem_of_getElem? (i := 75) (by rfl))) rfl
set_option maxRecDepth 20000 in
theorem tw_1037 : Jvm.Cond.instanceMethod ({ cls := "ChalkCastleModel", name := "standingBy", desc := "(IIII)I" } : Jvm.MethodName) ∈ lw_g := g_in (in_t5 (List.mem_of_getElem? (i := 77) (by rfl))) rfl
set_option maxRecDepth 20000 in
theorem tw_1038 : Jvm.Cond.code ({ cls := "ChalkCastleModel", name := "standingBy", desc := "(IIII)I" } : Jvm.MethodName) prog_9_method_62_code (7 : Nat) (Option.some Jvm.ClassFile.FieldType.int) ∈ lw_g := g_in (in_t5 (List.mem_of_getElem? (i := 78) (by rfl))) rfl
set_option maxRecDepth 20000 in
theorem tw_1040 : Jvm.Cond.instanceMethod ({ cls := "ChalkCastleModel", name := "from", desc := "(III)I" } : Jvm.MethodName) ∈ lw_g := g_in (in_t5 (List.mem_of_getElem? (i := 80) (by rfl))) rfl
set_option maxRecDepth 20000 in
theorem tw_1042 : Jvm.Cond.code ({ cls := "ChalkCastleModel", name := "from", desc := "(III)I" } : Jvm.MethodName) prog_9_method_65_code (9 : Nat) (Option.some Jvm.ClassFile.FieldType.int) ∈ lw_g := g_in (in_t5 (List.mem_of_getElem? (i := 82) (by rfl))) rfl
set_option maxRecDepth 20000 in
theorem tw_1043 : Jvm.Cond.methodLink "ChalkCastleModel" (264 : Nat) ({ cls := "ChalkCastleModel", name := "isLeft", desc := "(IIII)Z" } : Jvm.MethodName) ∈ lw_g := g_in (in_t5 (List.mem_of_getElem? (i := 83) (by rfl))) rfl
set_option maxRecDepth 20000 in
theorem tw_1045 : Jvm.Cond.instanceMethod ({ cls := "ChalkCastleModel", name := "isLeft", desc := "(IIII)Z" } : Jvm.MethodName) ∈ lw_g := g_in (in_t5 (List.mem_of_getElem? (i := 85) (by rfl))) rfl
set_option maxRecDepth 20000 in
theorem tw_1046 : Jvm.Cond.code ({ cls := "ChalkCastleModel", name := "isLeft", desc := "(IIII)Z" } : Jvm.MethodName) prog_9_method_64_code (7 : Nat) (Option.some Jvm.ClassFile.FieldType.boolean) ∈ lw_g := g_in (in_t5 (List.mem_of_getElem? (i := 86) (by rfl))) rfl
set_option maxRecDepth 20000 in
theorem tw_1048 : Jvm.Cond.instanceMethod ({ cls := "ChalkCastleModel", name := "who", desc := "(IIII)I" } : Jvm.MethodName) ∈ lw_g := g_in (in_t5 (List.mem_of_getElem? (i := 88) (by rfl))) rfl
set_option maxRecDepth 20000 in
theorem tw_1050 : Jvm.Cond.code ({ cls := "ChalkCastleModel", name := "who", desc := "(IIII)I" } : Jvm.MethodName) prog_9_method_66_code (9 : Nat) (Option.some Jvm.ClassFile.FieldType.int) ∈ lw_g := g_in (in_t5 (List.mem_of_getElem? (i := 90) (by rfl))) rfl
set_option maxRecDepth 20000 in
theorem tw_1052 : Jvm.Cond.instanceMethod ({ cls := "ChalkCastleModel", name := "layer", desc := "(I)I" } : Jvm.MethodName) ∈ lw_g := g_in (in_t5 (List.mem_of_getElem? (i := 92) (by rfl))) rfl
set_option maxRecDepth 20000 in
theorem tw_1054 : Jvm.Cond.code ({ cls := "ChalkCastleModel", name := "layer", desc := "(I)I" } : Jvm.MethodName) prog_9_method_67_code (5 : Nat) (Option.some Jvm.ClassFile.FieldType.int) ∈ lw_g := g_in (in_t5 (List.mem_of_getElem? (i := 94) (by rfl))) rfl
set_option maxRecDepth 20000 in
theorem tw_1056 : Jvm.Cond.instanceMethod ({ cls := "ChalkCastleModel", name := "longest", desc := "(II)I" } : Jvm.MethodName) ∈ lw_g := g_in (in_t5 (List.mem_of_getElem? (i := 96) (by rfl))) rfl
set_option maxRecDepth 20000 in
theorem tw_1058 : Jvm.Cond.code ({ cls := "ChalkCastleModel", name := "longest", desc := "(II)I" } : Jvm.MethodName) prog_9_method_68_code (7 : Nat) (Option.some Jvm.ClassFile.FieldType.int) ∈ lw_g := g_in (in_t5 (List.mem_of_getElem? (i := 98) (by rfl))) rfl
set_option maxRecDepth 20000 in
theorem tw_1060 : Jvm.Cond.instanceMethod ({ cls := "ChalkCastleModel", name := "rains", desc := "(III)J" } : Jvm.MethodName) ∈ lw_g := g_in (in_t5 (List.mem_of_getElem? (i := 100) (by rfl))) rfl
set_option maxRecDepth 20000 in
theorem tw_1062 : Jvm.Cond.code ({ cls := "ChalkCastleModel", name := "rains", desc := "(III)J" } : Jvm.MethodName) prog_9_method_70_code (12 : Nat) (Option.some Jvm.ClassFile.FieldType.long) ∈ lw_g := g_in (in_t5 (List.mem_of_getElem? (i := 102) (by rfl))) rfl
set_option maxRecDepth 20000 in
theorem tw_1063 : Jvm.Cond.constantLong "ChalkCastleModel" (268 : Nat) (-1000001 : Int64) ∈ lw_g := g_in (in_t5 (List.mem_of_getElem? (i := 103) (by rfl))) rfl
set_option maxRecDepth 20000 in
theorem tw_1064 : Jvm.Cond.constantLong "ChalkCastleModel" (270 : Nat) (10 : Int64) ∈ lw_g := g_in (in_t5 (List.mem_of_getElem? (i := 104) (by rfl))) rfl
set_option maxRecDepth 20000 in
theorem tw_1065 : Jvm.Cond.methodLink "ChalkCastleModel" (272 : Nat) ({ cls := "ChalkCastleModel", name := "common", desc := "(JJ)J" } : Jvm.MethodName) ∈ lw_g := g_in (in_t5 (List.mem_of_getElem? (i := 105) (by rfl))) rfl
set_option maxRecDepth 20000 in
theorem tw_1066 : Jvm.Cond.static ({ cls := "ChalkCastleModel", name := "common", desc := "(JJ)J" } : Jvm.MethodName) ∈ lw_g := g_in (in_t5 (List.mem_of_getElem? (i := 106) (by rfl))) rfl
set_option maxRecDepth 20000 in
theorem tw_1067 : Jvm.Cond.code ({ cls := "ChalkCastleModel", name := "common", desc := "(JJ)J" } : Jvm.MethodName) prog_9_method_69_code (10 : Nat) (Option.some Jvm.ClassFile.FieldType.long) ∈ lw_g := g_in (in_t5 (List.mem_of_getElem? (i := 107) (by rfl))) rfl
set_option maxRecDepth 20000 in
theorem tw_1069 : Jvm.Cond.instanceMethod ({ cls := "ChalkCastleModel", name := "share", desc := "(II)I" } : Jvm.MethodName) ∈ lw_g := g_in (in_t5 (List.mem_of_getElem? (i := 109) (by rfl))) rfl
set_option maxRecDepth 20000 in
theorem tw_1071 : Jvm.Cond.code ({ cls := "ChalkCastleModel", name := "share", desc := "(II)I" } : Jvm.MethodName) prog_9_method_71_code (6 : Nat) (Option.some Jvm.ClassFile.FieldType.int) ∈ lw_g := g_in (in_t5 (List.mem_of_getElem? (i := 111) (by rfl))) rfl
set_option maxRecDepth 20000 in
theorem tw_1073 : Jvm.Cond.instanceMethod ({ cls := "ChalkCastleModel", name := "drawn", desc := "(III)I" } : Jvm.MethodName) ∈ lw_g := g_in (in_t5 (List.mem_of_getElem? (i := 113) (by rfl))) rfl
set_option maxRecDepth 20000 in
theorem tw_1075 : Jvm.Cond.code ({ cls := "ChalkCastleModel", name := "drawn", desc := "(III)I" } : Jvm.MethodName) prog_9_method_72_code (7 : Nat) (Option.some Jvm.ClassFile.FieldType.int) ∈ lw_g := g_in (in_t5 (List.mem_of_getElem? (i := 115) (by rfl))) rfl
set_option maxRecDepth 20000 in
theorem tw_1076 : Jvm.Cond.constant "ChalkCastleModel" (276 : Nat) (999999 : Int32) ∈ lw_g := g_in (in_t5 (List.mem_of_getElem? (i := 116) (by rfl))) rfl
set_option maxRecDepth 20000 in
theorem tw_1077 : Jvm.Cond.constantLong "ChalkCastleModel" (277 : Nat) (16807 : Int64) ∈ lw_g := g_in (in_t5 (List.mem_of_getElem? (i := 117) (by rfl))) rfl
set_option maxRecDepth 20000 in
theorem tw_1078 : Jvm.Cond.constantLong "ChalkCastleModel" (279 : Nat) (2147483647 : Int64) ∈ lw_g := g_in (in_t5 (List.mem_of_getElem? (i := 118) (by rfl))) rfl
set_option maxRecDepth 20000 in
theorem tw_1079 : Jvm.Cond.constantLong "ChalkCastleModel" (281 : Nat) (5 : Int64) ∈ lw_g := g_in (in_t5 (List.mem_of_getElem? (i := 119) (by rfl))) rfl
set_option maxRecDepth 20000 in
theorem tw_1080 : Jvm.Cond.constantLong "ChalkCastleModel" (283 : Nat) (4 : Int64) ∈ lw_g := g_in (in_t5 (List.mem_of_getElem? (i := 120) (by rfl))) rfl
set_option maxRecDepth 20000 in
theorem tw_1082 : Jvm.Cond.instanceMethod ({ cls := "ChalkCastleModel", name := "image", desc := "(I)I" } : Jvm.MethodName) ∈ lw_g := g_in (in_t5 (List.mem_of_getElem? (i := 122) (by rfl))) rfl
set_option maxRecDepth 20000 in
theorem tw_1084 : Jvm.Cond.code ({ cls := "ChalkCastleModel", name := "image", desc := "(I)I" } : Jvm.MethodName) prog_9_method_73_code (3 : Nat) (Option.some Jvm.ClassFile.FieldType.int) ∈ lw_g := g_in (in_t5 (List.mem_of_getElem? (i := 124) (by rfl))) rfl
set_option maxRecDepth 20000 in
theorem tw_1086 : Jvm.Cond.instanceMethod ({ cls := "ChalkCastleModel", name := "restore", desc := "(I)I" } : Jvm.MethodName) ∈ lw_g := g_in (in_t5 (List.mem_of_getElem? (i := 126) (by rfl))) rfl
set_option maxRecDepth 20000 in
theorem tw_1088 : Jvm.Cond.code ({ cls := "ChalkCastleModel", name := "restore", desc := "(I)I" } : Jvm.MethodName) prog_9_method_74_code (3 : Nat) (Option.some Jvm.ClassFile.FieldType.int) ∈ lw_g := g_in (in_t5 (List.mem_of_getElem? (i := 128) (by rfl))) rfl
set_option maxRecDepth 20000 in
theorem tw_1090 : Jvm.Cond.instanceMethod ({ cls := "ChalkCastleModel", name := "kind", desc := "(I)I" } : Jvm.MethodName) ∈ lw_g := g_in (in_t5 (List.mem_of_getElem? (i := 130) (by rfl))) rfl
set_option maxRecDepth 20000 in
theorem tw_1092 : Jvm.Cond.code ({ cls := "ChalkCastleModel", name := "kind", desc := "(I)I" } : Jvm.MethodName) prog_9_method_75_code (2 : Nat) (Option.some Jvm.ClassFile.FieldType.int) ∈ lw_g := g_in (in_t5 (List.mem_of_getElem? (i := 132) (by rfl))) rfl
set_option maxRecDepth 20000 in
theorem tw_1094 : Jvm.Cond.instanceMethod ({ cls := "ChalkCastleModel", name := "as", desc := "(II)I" } : Jvm.MethodName) ∈ lw_g := g_in (in_t5 (List.mem_of_getElem? (i := 134) (by rfl))) rfl
set_option maxRecDepth 20000 in
theorem tw_1096 : Jvm.Cond.code ({ cls := "ChalkCastleModel", name := "as", desc := "(II)I" } : Jvm.MethodName) prog_9_method_77_code (3 : Nat) (Option.some Jvm.ClassFile.FieldType.int) ∈ lw_g := g_in (in_t5 (List.mem_of_getElem? (i := 136) (by rfl))) rfl
set_option maxRecDepth 20000 in
theorem tw_1097 : Jvm.Cond.methodLink "ChalkCastleModel" (285 : Nat) ({ cls := "ChalkCastleModel", name := "isOf", desc := "(II)Z" } : Jvm.MethodName) ∈ lw_g := g_in (in_t5 (List.mem_of_getElem? (i := 137) (by rfl))) rfl
set_option maxRecDepth 20000 in
theorem tw_1099 : Jvm.Cond.instanceMethod ({ cls := "ChalkCastleModel", name := "isOf", desc := "(II)Z" } : Jvm.MethodName) ∈ lw_g := g_in (in_t5 (List.mem_of_getElem? (i := 139) (by rfl))) rfl
set_option maxRecDepth 20000 in
theorem tw_1100 : Jvm.Cond.code ({ cls := "ChalkCastleModel", name := "isOf", desc := "(II)Z" } : Jvm.MethodName) prog_9_method_76_code (4 : Nat) (Option.some Jvm.ClassFile.FieldType.boolean) ∈ lw_g := g_in (in_t5 (List.mem_of_getElem? (i := 140) (by rfl))) rfl
set_option maxRecDepth 20000 in
theorem tw_1102 : Jvm.Cond.instanceMethod ({ cls := "ChalkCastleModel", name := "ask", desc := "(II)I" } : Jvm.MethodName) ∈ lw_g := g_in (in_t5 (List.mem_of_getElem? (i := 142) (by rfl))) rfl
set_option maxRecDepth 20000 in
theorem tw_1104 : Jvm.Cond.code ({ cls := "ChalkCastleModel", name := "ask", desc := "(II)I" } : Jvm.MethodName) prog_9_method_87_code (3 : Nat) (Option.some Jvm.ClassFile.FieldType.int) ∈ lw_g := g_in (in_t5 (List.mem_of_getElem? (i := 144) (by rfl))) rfl
set_option maxRecDepth 20000 in
theorem tw_1105 : Jvm.Cond.methodLink "ChalkCastleModel" (316 : Nat) ({ cls := "ChalkCastleModel", name := "sizeOf", desc := "(I)I" } : Jvm.MethodName) ∈ lw_g := g_in (in_t5 (List.mem_of_getElem? (i := 145) (by rfl))) rfl
set_option maxRecDepth 20000 in
theorem tw_1107 : Jvm.Cond.instanceMethod ({ cls := "ChalkCastleModel", name := "sizeOf", desc := "(I)I" } : Jvm.MethodName) ∈ lw_g := g_in (in_t5 (List.mem_of_getElem? (i := 147) (by rfl))) rfl
set_option maxRecDepth 20000 in
theorem tw_1108 : Jvm.Cond.code ({ cls := "ChalkCastleModel", name := "sizeOf", desc := "(I)I" } : Jvm.MethodName) prog_9_method_86_code (2 : Nat) (Option.some Jvm.ClassFile.FieldType.int) ∈ lw_g := g_in (in_t5 (List.mem_of_getElem? (i := 148) (by rfl))) rfl
set_option maxRecDepth 20000 in
theorem tw_1109 : Jvm.Cond.methodLink "ChalkCastleModel" (313 : Nat) ({ cls := "ChalkCastleModel", name := "body11", desc := "(I)I" } : Jvm.MethodName) ∈ lw_g := g_in (in_t5 (List.mem_of_getElem? (i := 149) (by rfl))) rfl
set_option maxRecDepth 20000 in
theorem tw_1111 : Jvm.Cond.instanceMethod ({ cls := "ChalkCastleModel", name := "body11", desc := "(I)I" } : Jvm.MethodName) ∈ lw_g := g_in (in_t5 (List.mem_of_getElem? (i := 151) (by rfl))) rfl
set_option maxRecDepth 20000 in
theorem tw_1112 : Jvm.Cond.code ({ cls := "ChalkCastleModel", name := "body11", desc := "(I)I" } : Jvm.MethodName) prog_9_method_85_code (2 : Nat) (Option.some Jvm.ClassFile.FieldType.int) ∈ lw_g := g_in (in_t5 (List.mem_of_getElem? (i := 152) (by rfl))) rfl
set_option maxRecDepth 20000 in
theorem tw_1113 : Jvm.Cond.methodLink "ChalkCastleModel" (291 : Nat) ({ cls := "ChalkCastleModel", name := "leaves", desc := "(I)V" } : Jvm.MethodName) ∈ lw_g := g_in (in_t5 (List.mem_of_getElem? (i := 153) (by rfl))) rfl
set_option maxRecDepth 20000 in
theorem tw_1115 : Jvm.Cond.instanceMethod ({ cls := "ChalkCastleModel", name := "leaves", desc := "(I)V" } : Jvm.MethodName) ∈ lw_g := g_in (in_t5 (List.mem_of_getElem? (i := 155) (by rfl))) rfl
set_option maxRecDepth 20000 in
theorem tw_1116 : Jvm.Cond.code ({ cls := "ChalkCastleModel", name := "leaves", desc := "(I)V" } : Jvm.MethodName) prog_9_method_78_code (2 : Nat) (Option.none : Option Jvm.ClassFile.FieldType) ∈ lw_g := g_in (in_t5 (List.mem_of_getElem? (i := 156) (by rfl))) rfl
set_option maxRecDepth 20000 in
theorem tw_1117 : Jvm.Cond.methodLink "ChalkCastleModel" (295 : Nat) ({ cls := "ChalkCastleModel", name := "body10", desc := "(I)I" } : Jvm.MethodName) ∈ lw_g := g_in (in_t5 (List.mem_of_getElem? (i := 157) (by rfl))) rfl
set_option maxRecDepth 20000 in
theorem tw_1119 : Jvm.Cond.instanceMethod ({ cls := "ChalkCastleModel", name := "body10", desc := "(I)I" } : Jvm.MethodName) ∈ lw_g := g_in (in_t5 (List.mem_of_getElem? (i := 159) (by rfl))) rfl
set_option maxRecDepth 20000 in
theorem tw_1120 : Jvm.Cond.code ({ cls := "ChalkCastleModel", name := "body10", desc := "(I)I" } : Jvm.MethodName) prog_9_method_79_code (2 : Nat) (Option.some Jvm.ClassFile.FieldType.int) ∈ lw_g := g_in (in_t5 (List.mem_of_getElem? (i := 160) (by rfl))) rfl
set_option maxRecDepth 20000 in
theorem tw_1121 : Jvm.Cond.methodLink "ChalkCastleModel" (310 : Nat) ({ cls := "ChalkCastleModel", name := "markOf", desc := "(I)I" } : Jvm.MethodName) ∈ lw_g := g_in (in_t5 (List.mem_of_getElem? (i := 161) (by rfl))) rfl
set_option maxRecDepth 20000 in
theorem tw_1123 : Jvm.Cond.instanceMethod ({ cls := "ChalkCastleModel", name := "markOf", desc := "(I)I" } : Jvm.MethodName) ∈ lw_g := g_in (in_t5 (List.mem_of_getElem? (i := 163) (by rfl))) rfl
set_option maxRecDepth 20000 in
theorem tw_1124 : Jvm.Cond.code ({ cls := "ChalkCastleModel", name := "markOf", desc := "(I)I" } : Jvm.MethodName) prog_9_method_84_code (2 : Nat) (Option.some Jvm.ClassFile.FieldType.int) ∈ lw_g := g_in (in_t5 (List.mem_of_getElem? (i := 164) (by rfl))) rfl
set_option maxRecDepth 20000 in
theorem tw_1125 : Jvm.Cond.methodLink "ChalkCastleModel" (304 : Nat) ({ cls := "ChalkCastleModel", name := "body21", desc := "(I)I" } : Jvm.MethodName) ∈ lw_g := g_in (in_t5 (List.mem_of_getElem? (i := 165) (by rfl))) rfl
set_option maxRecDepth 20000 in
theorem tw_1127 : Jvm.Cond.instanceMethod ({ cls := "ChalkCastleModel", name := "body21", desc := "(I)I" } : Jvm.MethodName) ∈ lw_g := g_in (in_t5 (List.mem_of_getElem? (i := 167) (by rfl))) rfl
set_option maxRecDepth 20000 in
theorem tw_1128 : Jvm.Cond.code ({ cls := "ChalkCastleModel", name := "body21", desc := "(I)I" } : Jvm.MethodName) prog_9_method_83_code (2 : Nat) (Option.some Jvm.ClassFile.FieldType.int) ∈ lw_g := g_in (in_t5 (List.mem_of_getElem? (i := 168) (by rfl))) rfl
set_option maxRecDepth 20000 in
theorem tw_1129 : Jvm.Cond.methodLink "ChalkCastleModel" (301 : Nat) ({ cls := "ChalkCastleModel", name := "body20", desc := "(I)I" } : Jvm.MethodName) ∈ lw_g := g_in (in_t5 (List.mem_of_getElem? (i := 169) (by rfl))) rfl
set_option maxRecDepth 20000 in
theorem tw_1131 : Jvm.Cond.instanceMethod ({ cls := "ChalkCastleModel", name := "body20", desc := "(I)I" } : Jvm.MethodName) ∈ lw_g := g_in (in_t5 (List.mem_of_getElem? (i := 171) (by rfl))) rfl
set_option maxRecDepth 20000 in
theorem tw_1132 : Jvm.Cond.code ({ cls := "ChalkCastleModel", name := "body20", desc := "(I)I" } : Jvm.MethodName) prog_9_method_82_code (2 : Nat) (Option.some Jvm.ClassFile.FieldType.int) ∈ lw_g := g_in (in_t5 (List.mem_of_getElem? (i := 172) (by rfl))) rfl
set_option maxRecDepth 20000 in
theorem tw_1133 : Jvm.Cond.methodLink "ChalkCastleModel" (307 : Nat) ({ cls := "ChalkCastleModel", name := "boySize", desc := "(I)I" } : Jvm.MethodName) ∈ lw_g := g_in (in_t5 (List.mem_of_getElem? (i := 173) (by rfl))) rfl
set_option maxRecDepth 20000 in
theorem tw_1135 : Jvm.Cond.instanceMethod ({ cls := "ChalkCastleModel", name := "boySize", desc := "(I)I" } : Jvm.MethodName) ∈ lw_g := g_in (in_t5 (List.mem_of_getElem? (i := 175) (by rfl))) rfl
set_option maxRecDepth 20000 in
theorem tw_1136 : Jvm.Cond.code ({ cls := "ChalkCastleModel", name := "boySize", desc := "(I)I" } : Jvm.MethodName) prog_9_method_81_code (2 : Nat) (Option.some Jvm.ClassFile.FieldType.int) ∈ lw_g := g_in (in_t5 (List.mem_of_getElem? (i := 176) (by rfl))) rfl
set_option maxRecDepth 20000 in
theorem tw_1137 : Jvm.Cond.methodLink "ChalkCastleModel" (298 : Nat) ({ cls := "ChalkCastleModel", name := "body13", desc := "(I)I" } : Jvm.MethodName) ∈ lw_g := g_in (in_t5 (List.mem_of_getElem? (i := 177) (by rfl))) rfl
set_option maxRecDepth 20000 in
theorem tw_1139 : Jvm.Cond.instanceMethod ({ cls := "ChalkCastleModel", name := "body13", desc := "(I)I" } : Jvm.MethodName) ∈ lw_g := g_in (in_t5 (List.mem_of_getElem? (i := 179) (by rfl))) rfl
set_option maxRecDepth 20000 in
theorem tw_1140 : Jvm.Cond.code ({ cls := "ChalkCastleModel", name := "body13", desc := "(I)I" } : Jvm.MethodName) prog_9_method_80_code (2 : Nat) (Option.some Jvm.ClassFile.FieldType.int) ∈ lw_g := g_in (in_t5 (List.mem_of_getElem? (i := 180) (by rfl))) rfl
set_option maxRecDepth 20000 in
theorem tw_1142 : Jvm.Cond.instanceMethod ({ cls := "ChalkCastleModel", name := "trace", desc := "(I)I" } : Jvm.MethodName) ∈ lw_g := g_in (in_t5 (List.mem_of_getElem? (i := 182) (by rfl))) rfl
set_option maxRecDepth 20000 in
theorem tw_1144 : Jvm.Cond.code ({ cls := "ChalkCastleModel", name := "trace", desc := "(I)I" } : Jvm.MethodName) prog_9_method_88_code (2 : Nat) (Option.some Jvm.ClassFile.FieldType.int) ∈ lw_g := g_in (in_t5 (List.mem_of_getElem? (i := 184) (by rfl))) rfl
set_option maxRecDepth 20000 in
theorem tw_1146 : Jvm.Cond.instanceMethod ({ cls := "ChalkCastleModel", name := "count", desc := "(I)I" } : Jvm.MethodName) ∈ lw_g := g_in (in_t5 (List.mem_of_getElem? (i := 186) (by rfl))) rfl
set_option maxRecDepth 20000 in
theorem tw_1148 : Jvm.Cond.code ({ cls := "ChalkCastleModel", name := "count", desc := "(I)I" } : Jvm.MethodName) prog_9_method_89_code (4 : Nat) (Option.some Jvm.ClassFile.FieldType.int) ∈ lw_g := g_in (in_t5 (List.mem_of_getElem? (i := 188) (by rfl))) rfl
set_option maxRecDepth 20000 in
theorem sw_X0_begin : Jvm.Cond.selects "ChalkCastle$Asking" ({ cls := "ChalkCastle$Asking", name := "begin", desc := "(IIII)V" } : Jvm.MethodName) ({ cls := "ChalkCastle$Asking", name := "begin", desc := "(IIII)V" } : Jvm.MethodName) ∈ lw_g := g_in (in_t3 (List.mem_of_getElem? (i := 155) (by rfl))) rfl
set_option maxRecDepth 20000 in
theorem sw_X0_leave : Jvm.Cond.selects "ChalkCastle$Asking" ({ cls := "ChalkCastle$Asking", name := "leave", desc := "(I)V" } : Jvm.MethodName) ({ cls := "ChalkCastle$Asking", name := "leave", desc := "(I)V" } : Jvm.MethodName) ∈ lw_g := g_in (in_t3 (List.mem_of_getElem? (i := 169) (by rfl))) rfl
set_option maxRecDepth 20000 in
theorem sw_X1_clear : Jvm.Cond.selects "ChalkCastle$Plan" ({ cls := "ChalkCastle$Plan", name := "clear", desc := "()V" } : Jvm.MethodName) ({ cls := "ChalkCastle$Plan", name := "clear", desc := "()V" } : Jvm.MethodName) ∈ lw_g := g_in (in_t2 (List.mem_of_getElem? (i := 97) (by rfl))) rfl
set_option maxRecDepth 20000 in
theorem sw_X1_become : Jvm.Cond.selects "ChalkCastle$Plan" ({ cls := "ChalkCastle$Plan", name := "become", desc := "(LChalkCastle$Plan;)V" } : Jvm.MethodName) ({ cls := "ChalkCastle$Plan", name := "become", desc := "(LChalkCastle$Plan;)V" } : Jvm.MethodName) ∈ lw_g := g_in (in_t2 (List.mem_of_getElem? (i := 144) (by rfl))) rfl
set_option maxRecDepth 20000 in
theorem sw_X1_hasBlock : Jvm.Cond.selects "ChalkCastle$Plan" ({ cls := "ChalkCastle$Plan", name := "hasBlock", desc := "(I)Z" } : Jvm.MethodName) ({ cls := "ChalkCastle$Plan", name := "hasBlock", desc := "(I)Z" } : Jvm.MethodName) ∈ lw_g := g_in (in_t2 (List.mem_of_getElem? (i := 179) (by rfl))) rfl
set_option maxRecDepth 20000 in
theorem sw_X1_hasClerk : Jvm.Cond.selects "ChalkCastle$Plan" ({ cls := "ChalkCastle$Plan", name := "hasClerk", desc := "(I)Z" } : Jvm.MethodName) ({ cls := "ChalkCastle$Plan", name := "hasClerk", desc := "(I)Z" } : Jvm.MethodName) ∈ lw_g := g_in (in_t2 (List.mem_of_getElem? (i := 171) (by rfl))) rfl
set_option maxRecDepth 20000 in
theorem sw_X1_areBlocks : Jvm.Cond.selects "ChalkCastle$Plan" ({ cls := "ChalkCastle$Plan", name := "areBlocks", desc := "(I)Z" } : Jvm.MethodName) ({ cls := "ChalkCastle$Plan", name := "areBlocks", desc := "(I)Z" } : Jvm.MethodName) ∈ lw_g := g_in (in_t3 (List.mem_of_getElem? (i := 26) (by rfl))) rfl
set_option maxRecDepth 20000 in
theorem sw_X1_above : Jvm.Cond.selects "ChalkCastle$Plan" ({ cls := "ChalkCastle$Plan", name := "above", desc := "(I)I" } : Jvm.MethodName) ({ cls := "ChalkCastle$Plan", name := "above", desc := "(I)I" } : Jvm.MethodName) ∈ lw_g := g_in (in_t2 (List.mem_of_getElem? (i := 223) (by rfl))) rfl
set_option maxRecDepth 20000 in
theorem sw_X1_standing : Jvm.Cond.selects "ChalkCastle$Plan" ({ cls := "ChalkCastle$Plan", name := "standing", desc := "(I)I" } : Jvm.MethodName) ({ cls := "ChalkCastle$Plan", name := "standing", desc := "(I)I" } : Jvm.MethodName) ∈ lw_g := g_in (in_t2 (List.mem_of_getElem? (i := 219) (by rfl))) rfl
set_option maxRecDepth 20000 in
theorem sw_X1_settleLayers : Jvm.Cond.selects "ChalkCastle$Plan" ({ cls := "ChalkCastle$Plan", name := "settleLayers", desc := "()V" } : Jvm.MethodName) ({ cls := "ChalkCastle$Plan", name := "settleLayers", desc := "()V" } : Jvm.MethodName) ∈ lw_g := g_in (in_t2 (List.mem_of_getElem? (i := 136) (by rfl))) rfl
set_option maxRecDepth 20000 in
theorem sw_X1_chalkFor : Jvm.Cond.selects "ChalkCastle$Plan" ({ cls := "ChalkCastle$Plan", name := "chalkFor", desc := "(III)I" } : Jvm.MethodName) ({ cls := "ChalkCastle$Plan", name := "chalkFor", desc := "(III)I" } : Jvm.MethodName) ∈ lw_g := g_in (in_t2 (List.mem_of_getElem? (i := 183) (by rfl))) rfl
set_option maxRecDepth 20000 in
theorem sw_X1_letRain : Jvm.Cond.selects "ChalkCastle$Plan" ({ cls := "ChalkCastle$Plan", name := "letRain", desc := "(LChalkCastle$State;)V" } : Jvm.MethodName) ({ cls := "ChalkCastle$Plan", name := "letRain", desc := "(LChalkCastle$State;)V" } : Jvm.MethodName) ∈ lw_g := g_in (in_t2 (List.mem_of_getElem? (i := 211) (by rfl))) rfl
set_option maxRecDepth 20000 in
theorem sw_X2_hasTaken : Jvm.Cond.selects "ChalkCastle$Reader" ({ cls := "ChalkCastle$Reader", name := "hasTaken", desc := "(I)Z" } : Jvm.MethodName) ({ cls := "ChalkCastle$Reader", name := "hasTaken", desc := "(I)Z" } : Jvm.MethodName) ∈ lw_g := g_in (in_t2 (List.mem_of_getElem? (i := 84) (by rfl))) rfl
set_option maxRecDepth 20000 in
theorem sw_X2_readCastle : Jvm.Cond.selects "ChalkCastle$Reader" ({ cls := "ChalkCastle$Reader", name := "readCastle", desc := "()V" } : Jvm.MethodName) ({ cls := "ChalkCastle$Reader", name := "readCastle", desc := "()V" } : Jvm.MethodName) ∈ lw_g := g_in (in_t2 (List.mem_of_getElem? (i := 93) (by rfl))) rfl
set_option maxRecDepth 20000 in
theorem sw_X2_readLaw : Jvm.Cond.selects "ChalkCastle$Reader" ({ cls := "ChalkCastle$Reader", name := "readLaw", desc := "()V" } : Jvm.MethodName) ({ cls := "ChalkCastle$Reader", name := "readLaw", desc := "()V" } : Jvm.MethodName) ∈ lw_g := g_in (in_t2 (List.mem_of_getElem? (i := 101) (by rfl))) rfl
set_option maxRecDepth 20000 in
theorem sw_X2_readBlock : Jvm.Cond.selects "ChalkCastle$Reader" ({ cls := "ChalkCastle$Reader", name := "readBlock", desc := "()V" } : Jvm.MethodName) ({ cls := "ChalkCastle$Reader", name := "readBlock", desc := "()V" } : Jvm.MethodName) ∈ lw_g := g_in (in_t2 (List.mem_of_getElem? (i := 117) (by rfl))) rfl
set_option maxRecDepth 20000 in
theorem sw_X2_readRest : Jvm.Cond.selects "ChalkCastle$Reader" ({ cls := "ChalkCastle$Reader", name := "readRest", desc := "()V" } : Jvm.MethodName) ({ cls := "ChalkCastle$Reader", name := "readRest", desc := "()V" } : Jvm.MethodName) ∈ lw_g := g_in (in_t2 (List.mem_of_getElem? (i := 125) (by rfl))) rfl
set_option maxRecDepth 20000 in
theorem sw_X2_readClerk : Jvm.Cond.selects "ChalkCastle$Reader" ({ cls := "ChalkCastle$Reader", name := "readClerk", desc := "()V" } : Jvm.MethodName) ({ cls := "ChalkCastle$Reader", name := "readClerk", desc := "()V" } : Jvm.MethodName) ∈ lw_g := g_in (in_t2 (List.mem_of_getElem? (i := 132) (by rfl))) rfl
set_option maxRecDepth 20000 in
theorem sw_X2_letter : Jvm.Cond.selects "ChalkCastle$Reader" ({ cls := "ChalkCastle$Reader", name := "letter", desc := "()I" } : Jvm.MethodName) ({ cls := "ChalkCastle$Reader", name := "letter", desc := "()I" } : Jvm.MethodName) ∈ lw_g := g_in (in_t2 (List.mem_of_getElem? (i := 109) (by rfl))) rfl
set_option maxRecDepth 20000 in
theorem sw_X2_lookForRoom : Jvm.Cond.selects "ChalkCastle$Reader" ({ cls := "ChalkCastle$Reader", name := "lookForRoom", desc := "(III)V" } : Jvm.MethodName) ({ cls := "ChalkCastle$Reader", name := "lookForRoom", desc := "(III)V" } : Jvm.MethodName) ∈ lw_g := g_in (in_t2 (List.mem_of_getElem? (i := 121) (by rfl))) rfl
set_option maxRecDepth 20000 in
theorem sw_X2_readSign : Jvm.Cond.selects "ChalkCastle$Reader" ({ cls := "ChalkCastle$Reader", name := "readSign", desc := "(I)V" } : Jvm.MethodName) ({ cls := "ChalkCastle$Reader", name := "readSign", desc := "(I)V" } : Jvm.MethodName) ∈ lw_g := g_in (in_t2 (List.mem_of_getElem? (i := 105) (by rfl))) rfl
set_option maxRecDepth 20000 in
theorem sw_X2_readNumber : Jvm.Cond.selects "ChalkCastle$Reader" ({ cls := "ChalkCastle$Reader", name := "readNumber", desc := "(II)I" } : Jvm.MethodName) ({ cls := "ChalkCastle$Reader", name := "readNumber", desc := "(II)I" } : Jvm.MethodName) ∈ lw_g := g_in (in_t2 (List.mem_of_getElem? (i := 113) (by rfl))) rfl
set_option maxRecDepth 20000 in
theorem sw_X3_begin : Jvm.Cond.selects "ChalkCastle$Row" ({ cls := "ChalkCastle$Row", name := "begin", desc := "(II)V" } : Jvm.MethodName) ({ cls := "ChalkCastle$Row", name := "begin", desc := "(II)V" } : Jvm.MethodName) ∈ lw_g := g_in (in_t2 (List.mem_of_getElem? (i := 32) (by rfl))) rfl
set_option maxRecDepth 20000 in
theorem sw_X3_drop : Jvm.Cond.selects "ChalkCastle$Row" ({ cls := "ChalkCastle$Row", name := "drop", desc := "()V" } : Jvm.MethodName) ({ cls := "ChalkCastle$Row", name := "drop", desc := "()V" } : Jvm.MethodName) ∈ lw_g := g_in (in_t2 (List.mem_of_getElem? (i := 76) (by rfl))) rfl
set_option maxRecDepth 20000 in
theorem sw_X3_isMissing : Jvm.Cond.selects "ChalkCastle$Row" ({ cls := "ChalkCastle$Row", name := "isMissing", desc := "()Z" } : Jvm.MethodName) ({ cls := "ChalkCastle$Row", name := "isMissing", desc := "()Z" } : Jvm.MethodName) ∈ lw_g := g_in (in_t2 (List.mem_of_getElem? (i := 51) (by rfl))) rfl
set_option maxRecDepth 20000 in
theorem sw_X3_hasPlaces : Jvm.Cond.selects "ChalkCastle$Row" ({ cls := "ChalkCastle$Row", name := "hasPlaces", desc := "(II)Z" } : Jvm.MethodName) ({ cls := "ChalkCastle$Row", name := "hasPlaces", desc := "(II)Z" } : Jvm.MethodName) ∈ lw_g := g_in (in_t2 (List.mem_of_getElem? (i := 55) (by rfl))) rfl
set_option maxRecDepth 20000 in
theorem sw_X3_lackOf : Jvm.Cond.selects "ChalkCastle$Row" ({ cls := "ChalkCastle$Row", name := "lackOf", desc := "(II)I" } : Jvm.MethodName) ({ cls := "ChalkCastle$Row", name := "lackOf", desc := "(II)I" } : Jvm.MethodName) ∈ lw_g := g_in (in_t2 (List.mem_of_getElem? (i := 47) (by rfl))) rfl
set_option maxRecDepth 20000 in
theorem sw_X3_lowestBits : Jvm.Cond.selects "ChalkCastle$Row" ({ cls := "ChalkCastle$Row", name := "lowestBits", desc := "(I)I" } : Jvm.MethodName) ({ cls := "ChalkCastle$Row", name := "lowestBits", desc := "(I)I" } : Jvm.MethodName) ∈ lw_g := g_in (in_t2 (List.mem_of_getElem? (i := 59) (by rfl))) rfl
set_option maxRecDepth 20000 in
theorem sw_X4_begin : Jvm.Cond.selects "ChalkCastle$Search" ({ cls := "ChalkCastle$Search", name := "begin", desc := "(LChalkCastle$State;I)V" } : Jvm.MethodName) ({ cls := "ChalkCastle$Search", name := "begin", desc := "(LChalkCastle$State;I)V" } : Jvm.MethodName) ∈ lw_g := g_in (in_t3 (List.mem_of_getElem? (i := 61) (by rfl))) rfl
set_option maxRecDepth 20000 in
theorem sw_X4_keepWay : Jvm.Cond.selects "ChalkCastle$Search" ({ cls := "ChalkCastle$Search", name := "keepWay", desc := "(I)V" } : Jvm.MethodName) ({ cls := "ChalkCastle$Search", name := "keepWay", desc := "(I)V" } : Jvm.MethodName) ∈ lw_g := g_in (in_t3 (List.mem_of_getElem? (i := 70) (by rfl))) rfl
set_option maxRecDepth 20000 in
theorem sw_X5_begin : Jvm.Cond.selects "ChalkCastle$State" ({ cls := "ChalkCastle$State", name := "begin", desc := "(LChalkCastle$Plan;)V" } : Jvm.MethodName) ({ cls := "ChalkCastle$State", name := "begin", desc := "(LChalkCastle$Plan;)V" } : Jvm.MethodName) ∈ lw_g := g_in (in_t2 (List.mem_of_getElem? (i := 149) (by rfl))) rfl
set_option maxRecDepth 20000 in
theorem sw_X5_become : Jvm.Cond.selects "ChalkCastle$State" ({ cls := "ChalkCastle$State", name := "become", desc := "(LChalkCastle$State;)V" } : Jvm.MethodName) ({ cls := "ChalkCastle$State", name := "become", desc := "(LChalkCastle$State;)V" } : Jvm.MethodName) ∈ lw_g := g_in (in_t2 (List.mem_of_getElem? (i := 163) (by rfl))) rfl
set_option maxRecDepth 20000 in
theorem sw_X5_useUp : Jvm.Cond.selects "ChalkCastle$State" ({ cls := "ChalkCastle$State", name := "useUp", desc := "(II)V" } : Jvm.MethodName) ({ cls := "ChalkCastle$State", name := "useUp", desc := "(II)V" } : Jvm.MethodName) ∈ lw_g := g_in (in_t2 (List.mem_of_getElem? (i := 195) (by rfl))) rfl
set_option maxRecDepth 20000 in
theorem sw_X5_withChalk : Jvm.Cond.selects "ChalkCastle$State" ({ cls := "ChalkCastle$State", name := "withChalk", desc := "()I" } : Jvm.MethodName) ({ cls := "ChalkCastle$State", name := "withChalk", desc := "()I" } : Jvm.MethodName) ∈ lw_g := g_in (in_t2 (List.mem_of_getElem? (i := 215) (by rfl))) rfl
set_option maxRecDepth 20000 in
theorem sw_X5_allChalk : Jvm.Cond.selects "ChalkCastle$State" ({ cls := "ChalkCastle$State", name := "allChalk", desc := "()I" } : Jvm.MethodName) ({ cls := "ChalkCastle$State", name := "allChalk", desc := "()I" } : Jvm.MethodName) ∈ lw_g := g_in (in_t3 (List.mem_of_getElem? (i := 14) (by rfl))) rfl
set_option maxRecDepth 20000 in
theorem sw_X5_allLines : Jvm.Cond.selects "ChalkCastle$State" ({ cls := "ChalkCastle$State", name := "allLines", desc := "()I" } : Jvm.MethodName) ({ cls := "ChalkCastle$State", name := "allLines", desc := "()I" } : Jvm.MethodName) ∈ lw_g := g_in (in_t3 (List.mem_of_getElem? (i := 18) (by rfl))) rfl
set_option maxRecDepth 20000 in
theorem sw_X6_row : Jvm.Cond.selects "ChalkCastle" ({ cls := "ChalkCastle", name := "row", desc := "(III)I" } : Jvm.MethodName) ({ cls := "ChalkCastle", name := "row", desc := "(III)I" } : Jvm.MethodName) ∈ lw_g := g_in (in_t2 (List.mem_of_getElem? (i := 19) (by rfl))) rfl
set_option maxRecDepth 20000 in
theorem sw_X6_set : Jvm.Cond.selects "ChalkCastle" ({ cls := "ChalkCastle", name := "set", desc := "(III)I" } : Jvm.MethodName) ({ cls := "ChalkCastle", name := "set", desc := "(III)I" } : Jvm.MethodName) ∈ lw_g := g_in (in_t2 (List.mem_of_getElem? (i := 43) (by rfl))) rfl
set_option maxRecDepth 20000 in
theorem sw_X6_copy : Jvm.Cond.selects "ChalkCastle" ({ cls := "ChalkCastle", name := "copy", desc := "(IIIII)I" } : Jvm.MethodName) ({ cls := "ChalkCastle", name := "copy", desc := "(IIIII)I" } : Jvm.MethodName) ∈ lw_g := g_in (in_t2 (List.mem_of_getElem? (i := 63) (by rfl))) rfl
set_option maxRecDepth 20000 in
theorem sw_X6_drop : Jvm.Cond.selects "ChalkCastle" ({ cls := "ChalkCastle", name := "drop", desc := "(I)I" } : Jvm.MethodName) ({ cls := "ChalkCastle", name := "drop", desc := "(I)I" } : Jvm.MethodName) ∈ lw_g := g_in (in_t2 (List.mem_of_getElem? (i := 72) (by rfl))) rfl
set_option maxRecDepth 20000 in
theorem sw_X6_feed : Jvm.Cond.selects "ChalkCastle" ({ cls := "ChalkCastle", name := "feed", desc := "(I)I" } : Jvm.MethodName) ({ cls := "ChalkCastle", name := "feed", desc := "(I)I" } : Jvm.MethodName) ∈ lw_g := g_in (in_t2 (List.mem_of_getElem? (i := 80) (by rfl))) rfl
set_option maxRecDepth 20000 in
theorem sw_X6_castle : Jvm.Cond.selects "ChalkCastle" ({ cls := "ChalkCastle", name := "castle", desc := "()I" } : Jvm.MethodName) ({ cls := "ChalkCastle", name := "castle", desc := "()I" } : Jvm.MethodName) ∈ lw_g := g_in (in_t2 (List.mem_of_getElem? (i := 89) (by rfl))) rfl
set_option maxRecDepth 20000 in
theorem sw_X6_fault : Jvm.Cond.selects "ChalkCastle" ({ cls := "ChalkCastle", name := "fault", desc := "()I" } : Jvm.MethodName) ({ cls := "ChalkCastle", name := "fault", desc := "()I" } : Jvm.MethodName) ∈ lw_g := g_in (in_t2 (List.mem_of_getElem? (i := 154) (by rfl))) rfl
set_option maxRecDepth 20000 in
theorem sw_X6_undo : Jvm.Cond.selects "ChalkCastle" ({ cls := "ChalkCastle", name := "undo", desc := "()I" } : Jvm.MethodName) ({ cls := "ChalkCastle", name := "undo", desc := "()I" } : Jvm.MethodName) ∈ lw_g := g_in (in_t2 (List.mem_of_getElem? (i := 158) (by rfl))) rfl
set_option maxRecDepth 20000 in
theorem sw_X6_write : Jvm.Cond.selects "ChalkCastle" ({ cls := "ChalkCastle", name := "write", desc := "(III)I" } : Jvm.MethodName) ({ cls := "ChalkCastle", name := "write", desc := "(III)I" } : Jvm.MethodName) ∈ lw_g := g_in (in_t2 (List.mem_of_getElem? (i := 167) (by rfl))) rfl
set_option maxRecDepth 20000 in
theorem sw_X6_rub : Jvm.Cond.selects "ChalkCastle" ({ cls := "ChalkCastle", name := "rub", desc := "(II)I" } : Jvm.MethodName) ({ cls := "ChalkCastle", name := "rub", desc := "(II)I" } : Jvm.MethodName) ∈ lw_g := g_in (in_t2 (List.mem_of_getElem? (i := 199) (by rfl))) rfl
set_option maxRecDepth 20000 in
theorem sw_X6_rain : Jvm.Cond.selects "ChalkCastle" ({ cls := "ChalkCastle", name := "rain", desc := "()I" } : Jvm.MethodName) ({ cls := "ChalkCastle", name := "rain", desc := "()I" } : Jvm.MethodName) ∈ lw_g := g_in (in_t2 (List.mem_of_getElem? (i := 203) (by rfl))) rfl
set_option maxRecDepth 20000 in
theorem sw_X6_days : Jvm.Cond.selects "ChalkCastle" ({ cls := "ChalkCastle", name := "days", desc := "(I)I" } : Jvm.MethodName) ({ cls := "ChalkCastle", name := "days", desc := "(I)I" } : Jvm.MethodName) ∈ lw_g := g_in (in_t2 (List.mem_of_getElem? (i := 233) (by rfl))) rfl
set_option maxRecDepth 20000 in
theorem sw_X6_block : Jvm.Cond.selects "ChalkCastle" ({ cls := "ChalkCastle", name := "block", desc := "(II)I" } : Jvm.MethodName) ({ cls := "ChalkCastle", name := "block", desc := "(II)I" } : Jvm.MethodName) ∈ lw_g := g_in (in_t2 (List.mem_of_getElem? (i := 237) (by rfl))) rfl
set_option maxRecDepth 20000 in
theorem sw_X6_clerk : Jvm.Cond.selects "ChalkCastle" ({ cls := "ChalkCastle", name := "clerk", desc := "(II)I" } : Jvm.MethodName) ({ cls := "ChalkCastle", name := "clerk", desc := "(II)I" } : Jvm.MethodName) ∈ lw_g := g_in (in_t3 (List.mem_of_getElem? (i := 2) (by rfl))) rfl
set_option maxRecDepth 20000 in
theorem sw_X6_takes : Jvm.Cond.selects "ChalkCastle" ({ cls := "ChalkCastle", name := "takes", desc := "(II)I" } : Jvm.MethodName) ({ cls := "ChalkCastle", name := "takes", desc := "(II)I" } : Jvm.MethodName) ∈ lw_g := g_in (in_t3 (List.mem_of_getElem? (i := 6) (by rfl))) rfl
set_option maxRecDepth 20000 in
theorem sw_X6_stand : Jvm.Cond.selects "ChalkCastle" ({ cls := "ChalkCastle", name := "stand", desc := "(I)I" } : Jvm.MethodName) ({ cls := "ChalkCastle", name := "stand", desc := "(I)I" } : Jvm.MethodName) ∈ lw_g := g_in (in_t3 (List.mem_of_getElem? (i := 10) (by rfl))) rfl
set_option maxRecDepth 20000 in
theorem sw_X6_wouldFall : Jvm.Cond.selects "ChalkCastle" ({ cls := "ChalkCastle", name := "wouldFall", desc := "(I)I" } : Jvm.MethodName) ({ cls := "ChalkCastle", name := "wouldFall", desc := "(I)I" } : Jvm.MethodName) ∈ lw_g := g_in (in_t3 (List.mem_of_getElem? (i := 22) (by rfl))) rfl
set_option maxRecDepth 20000 in
theorem sw_X6_left : Jvm.Cond.selects "ChalkCastle" ({ cls := "ChalkCastle", name := "left", desc := "(I)I" } : Jvm.MethodName) ({ cls := "ChalkCastle", name := "left", desc := "(I)I" } : Jvm.MethodName) ∈ lw_g := g_in (in_t3 (List.mem_of_getElem? (i := 34) (by rfl))) rfl
set_option maxRecDepth 20000 in
theorem sw_X6_leastFallen : Jvm.Cond.selects "ChalkCastle" ({ cls := "ChalkCastle", name := "leastFallen", desc := "(III)I" } : Jvm.MethodName) ({ cls := "ChalkCastle", name := "leastFallen", desc := "(III)I" } : Jvm.MethodName) ∈ lw_g := g_in (in_t3 (List.mem_of_getElem? (i := 38) (by rfl))) rfl
set_option maxRecDepth 20000 in
theorem sw_X6_must : Jvm.Cond.selects "ChalkCastle" ({ cls := "ChalkCastle", name := "must", desc := "()I" } : Jvm.MethodName) ({ cls := "ChalkCastle", name := "must", desc := "()I" } : Jvm.MethodName) ∈ lw_g := g_in (in_t3 (List.mem_of_getElem? (i := 49) (by rfl))) rfl
set_option maxRecDepth 20000 in
theorem sw_X6_writings : Jvm.Cond.selects "ChalkCastle" ({ cls := "ChalkCastle", name := "writings", desc := "(IIII)I" } : Jvm.MethodName) ({ cls := "ChalkCastle", name := "writings", desc := "(IIII)I" } : Jvm.MethodName) ∈ lw_g := g_in (in_t3 (List.mem_of_getElem? (i := 53) (by rfl))) rfl
set_option maxRecDepth 20000 in
theorem sw_X6_from : Jvm.Cond.selects "ChalkCastle" ({ cls := "ChalkCastle", name := "from", desc := "(III)I" } : Jvm.MethodName) ({ cls := "ChalkCastle", name := "from", desc := "(III)I" } : Jvm.MethodName) ∈ lw_g := g_in (in_t3 (List.mem_of_getElem? (i := 75) (by rfl))) rfl
set_option maxRecDepth 20000 in
theorem sw_X6_who : Jvm.Cond.selects "ChalkCastle" ({ cls := "ChalkCastle", name := "who", desc := "(IIII)I" } : Jvm.MethodName) ({ cls := "ChalkCastle", name := "who", desc := "(IIII)I" } : Jvm.MethodName) ∈ lw_g := g_in (in_t3 (List.mem_of_getElem? (i := 83) (by rfl))) rfl
set_option maxRecDepth 20000 in
theorem sw_X6_layer : Jvm.Cond.selects "ChalkCastle" ({ cls := "ChalkCastle", name := "layer", desc := "(I)I" } : Jvm.MethodName) ({ cls := "ChalkCastle", name := "layer", desc := "(I)I" } : Jvm.MethodName) ∈ lw_g := g_in (in_t3 (List.mem_of_getElem? (i := 92) (by rfl))) rfl
set_option maxRecDepth 20000 in
theorem sw_X6_longest : Jvm.Cond.selects "ChalkCastle" ({ cls := "ChalkCastle", name := "longest", desc := "(II)I" } : Jvm.MethodName) ({ cls := "ChalkCastle", name := "longest", desc := "(II)I" } : Jvm.MethodName) ∈ lw_g := g_in (in_t3 (List.mem_of_getElem? (i := 96) (by rfl))) rfl
set_option maxRecDepth 20000 in
theorem sw_X6_rains : Jvm.Cond.selects "ChalkCastle" ({ cls := "ChalkCastle", name := "rains", desc := "(III)J" } : Jvm.MethodName) ({ cls := "ChalkCastle", name := "rains", desc := "(III)J" } : Jvm.MethodName) ∈ lw_g := g_in (in_t3 (List.mem_of_getElem? (i := 104) (by rfl))) rfl
set_option maxRecDepth 20000 in
theorem sw_X6_share : Jvm.Cond.selects "ChalkCastle" ({ cls := "ChalkCastle", name := "share", desc := "(II)I" } : Jvm.MethodName) ({ cls := "ChalkCastle", name := "share", desc := "(II)I" } : Jvm.MethodName) ∈ lw_g := g_in (in_t3 (List.mem_of_getElem? (i := 116) (by rfl))) rfl
set_option maxRecDepth 20000 in
theorem sw_X6_drawn : Jvm.Cond.selects "ChalkCastle" ({ cls := "ChalkCastle", name := "drawn", desc := "(III)I" } : Jvm.MethodName) ({ cls := "ChalkCastle", name := "drawn", desc := "(III)I" } : Jvm.MethodName) ∈ lw_g := g_in (in_t3 (List.mem_of_getElem? (i := 120) (by rfl))) rfl
set_option maxRecDepth 20000 in
theorem sw_X6_image : Jvm.Cond.selects "ChalkCastle" ({ cls := "ChalkCastle", name := "image", desc := "(I)I" } : Jvm.MethodName) ({ cls := "ChalkCastle", name := "image", desc := "(I)I" } : Jvm.MethodName) ∈ lw_g := g_in (in_t3 (List.mem_of_getElem? (i := 133) (by rfl))) rfl
set_option maxRecDepth 20000 in
theorem sw_X6_restore : Jvm.Cond.selects "ChalkCastle" ({ cls := "ChalkCastle", name := "restore", desc := "(I)I" } : Jvm.MethodName) ({ cls := "ChalkCastle", name := "restore", desc := "(I)I" } : Jvm.MethodName) ∈ lw_g := g_in (in_t3 (List.mem_of_getElem? (i := 137) (by rfl))) rfl
set_option maxRecDepth 20000 in
theorem sw_X6_kind : Jvm.Cond.selects "ChalkCastle" ({ cls := "ChalkCastle", name := "kind", desc := "(I)I" } : Jvm.MethodName) ({ cls := "ChalkCastle", name := "kind", desc := "(I)I" } : Jvm.MethodName) ∈ lw_g := g_in (in_t3 (List.mem_of_getElem? (i := 141) (by rfl))) rfl
set_option maxRecDepth 20000 in
theorem sw_X6_as : Jvm.Cond.selects "ChalkCastle" ({ cls := "ChalkCastle", name := "as", desc := "(II)I" } : Jvm.MethodName) ({ cls := "ChalkCastle", name := "as", desc := "(II)I" } : Jvm.MethodName) ∈ lw_g := g_in (in_t3 (List.mem_of_getElem? (i := 145) (by rfl))) rfl
set_option maxRecDepth 20000 in
theorem sw_X6_ask : Jvm.Cond.selects "ChalkCastle" ({ cls := "ChalkCastle", name := "ask", desc := "(II)I" } : Jvm.MethodName) ({ cls := "ChalkCastle", name := "ask", desc := "(II)I" } : Jvm.MethodName) ∈ lw_g := g_in (in_t3 (List.mem_of_getElem? (i := 151) (by rfl))) rfl
set_option maxRecDepth 20000 in
theorem sw_X6_trace : Jvm.Cond.selects "ChalkCastle" ({ cls := "ChalkCastle", name := "trace", desc := "(I)I" } : Jvm.MethodName) ({ cls := "ChalkCastle", name := "trace", desc := "(I)I" } : Jvm.MethodName) ∈ lw_g := g_in (in_t3 (List.mem_of_getElem? (i := 173) (by rfl))) rfl
set_option maxRecDepth 20000 in
theorem sw_X6_count : Jvm.Cond.selects "ChalkCastle" ({ cls := "ChalkCastle", name := "count", desc := "(I)I" } : Jvm.MethodName) ({ cls := "ChalkCastle", name := "count", desc := "(I)I" } : Jvm.MethodName) ∈ lw_g := g_in (in_t3 (List.mem_of_getElem? (i := 177) (by rfl))) rfl
set_option maxRecDepth 20000 in
theorem sw_X6_status : Jvm.Cond.selects "ChalkCastle" ({ cls := "ChalkCastle", name := "status", desc := "()I" } : Jvm.MethodName) ({ cls := "ChalkCastle", name := "status", desc := "()I" } : Jvm.MethodName) ∈ lw_g := g_in (in_t3 (List.mem_of_getElem? (i := 185) (by rfl))) rfl
set_option maxRecDepth 20000 in
theorem sw_X6_found : Jvm.Cond.selects "ChalkCastle" ({ cls := "ChalkCastle", name := "found", desc := "(I)I" } : Jvm.MethodName) ({ cls := "ChalkCastle", name := "found", desc := "(I)I" } : Jvm.MethodName) ∈ lw_g := g_in (in_t0 (List.mem_of_getElem? (i := 0) (by rfl))) rfl
set_option maxRecDepth 20000 in
theorem sw_X6_foundNone : Jvm.Cond.selects "ChalkCastle" ({ cls := "ChalkCastle", name := "foundNone", desc := "(I)I" } : Jvm.MethodName) ({ cls := "ChalkCastle", name := "foundNone", desc := "(I)I" } : Jvm.MethodName) ∈ lw_g := g_in (in_t0 (List.mem_of_getElem? (i := 1) (by rfl))) rfl
set_option maxRecDepth 20000 in
theorem sw_X6_hasCastle : Jvm.Cond.selects "ChalkCastle" ({ cls := "ChalkCastle", name := "hasCastle", desc := "()Z" } : Jvm.MethodName) ({ cls := "ChalkCastle", name := "hasCastle", desc := "()Z" } : Jvm.MethodName) ∈ lw_g := g_in (in_t0 (List.mem_of_getElem? (i := 3) (by rfl))) rfl
set_option maxRecDepth 20000 in
theorem sw_X6_rowsThere : Jvm.Cond.selects "ChalkCastle" ({ cls := "ChalkCastle", name := "rowsThere", desc := "()I" } : Jvm.MethodName) ({ cls := "ChalkCastle", name := "rowsThere", desc := "()I" } : Jvm.MethodName) ∈ lw_g := g_in (in_t0 (List.mem_of_getElem? (i := 11) (by rfl))) rfl
set_option maxRecDepth 20000 in
theorem sw_X6_beginAct : Jvm.Cond.selects "ChalkCastle" ({ cls := "ChalkCastle", name := "beginAct", desc := "()V" } : Jvm.MethodName) ({ cls := "ChalkCastle", name := "beginAct", desc := "()V" } : Jvm.MethodName) ∈ lw_g := g_in (in_t0 (List.mem_of_getElem? (i := 2) (by rfl))) rfl
set_option maxRecDepth 20000 in
theorem sw_X6_standingNow : Jvm.Cond.selects "ChalkCastle" ({ cls := "ChalkCastle", name := "standingNow", desc := "()I" } : Jvm.MethodName) ({ cls := "ChalkCastle", name := "standingNow", desc := "()I" } : Jvm.MethodName) ∈ lw_g := g_in (in_t0 (List.mem_of_getElem? (i := 4) (by rfl))) rfl
set_option maxRecDepth 20000 in
theorem sw_X6_fallingWithout : Jvm.Cond.selects "ChalkCastle" ({ cls := "ChalkCastle", name := "fallingWithout", desc := "(I)I" } : Jvm.MethodName) ({ cls := "ChalkCastle", name := "fallingWithout", desc := "(I)I" } : Jvm.MethodName) ∈ lw_g := g_in (in_t0 (List.mem_of_getElem? (i := 5) (by rfl))) rfl
set_option maxRecDepth 20000 in
theorem sw_X6_tellsWritings : Jvm.Cond.selects "ChalkCastle" ({ cls := "ChalkCastle", name := "tellsWritings", desc := "([III)Z" } : Jvm.MethodName) ({ cls := "ChalkCastle", name := "tellsWritings", desc := "([III)Z" } : Jvm.MethodName) ∈ lw_g := g_in (in_t0 (List.mem_of_getElem? (i := 6) (by rfl))) rfl
set_option maxRecDepth 20000 in
theorem sw_X6_onlyLessened : Jvm.Cond.selects "ChalkCastle" ({ cls := "ChalkCastle", name := "onlyLessened", desc := "([II)I" } : Jvm.MethodName) ({ cls := "ChalkCastle", name := "onlyLessened", desc := "([II)I" } : Jvm.MethodName) ∈ lw_g := g_in (in_t0 (List.mem_of_getElem? (i := 7) (by rfl))) rfl
set_option maxRecDepth 20000 in
theorem sw_X6_fitsKind : Jvm.Cond.selects "ChalkCastle" ({ cls := "ChalkCastle", name := "fitsKind", desc := "(II[III)Z" } : Jvm.MethodName) ({ cls := "ChalkCastle", name := "fitsKind", desc := "(II[III)Z" } : Jvm.MethodName) ∈ lw_g := g_in (in_t0 (List.mem_of_getElem? (i := 8) (by rfl))) rfl
set_option maxRecDepth 20000 in
theorem sw_X6_linesAtOnce : Jvm.Cond.selects "ChalkCastle" ({ cls := "ChalkCastle", name := "linesAtOnce", desc := "(II)I" } : Jvm.MethodName) ({ cls := "ChalkCastle", name := "linesAtOnce", desc := "(II)I" } : Jvm.MethodName) ∈ lw_g := g_in (in_t0 (List.mem_of_getElem? (i := 9) (by rfl))) rfl
set_option maxRecDepth 20000 in
theorem sw_X6_drawWriting : Jvm.Cond.selects "ChalkCastle" ({ cls := "ChalkCastle", name := "drawWriting", desc := "(J)V" } : Jvm.MethodName) ({ cls := "ChalkCastle", name := "drawWriting", desc := "(J)V" } : Jvm.MethodName) ∈ lw_g := g_in (in_t0 (List.mem_of_getElem? (i := 10) (by rfl))) rfl
set_option maxRecDepth 20000 in
theorem sw_X7_meets : Jvm.Cond.selects "ChalkCastleModel" ({ cls := "ChalkCastleModel", name := "meets", desc := "(I)I" } : Jvm.MethodName) ({ cls := "ChalkCastleModel", name := "meets", desc := "(I)I" } : Jvm.MethodName) ∈ lw_g := g_in (in_t0 (List.mem_of_getElem? (i := 12) (by rfl))) rfl
set_option maxRecDepth 20000 in
theorem sw_X7_well : Jvm.Cond.selects "ChalkCastleModel" ({ cls := "ChalkCastleModel", name := "well", desc := "(I)I" } : Jvm.MethodName) ({ cls := "ChalkCastleModel", name := "well", desc := "(I)I" } : Jvm.MethodName) ∈ lw_g := g_in (in_t0 (List.mem_of_getElem? (i := 13) (by rfl))) rfl
set_option maxRecDepth 20000 in
theorem sw_X7_status : Jvm.Cond.selects "ChalkCastleModel" ({ cls := "ChalkCastleModel", name := "status", desc := "()I" } : Jvm.MethodName) ({ cls := "ChalkCastleModel", name := "status", desc := "()I" } : Jvm.MethodName) ∈ lw_g := g_in (in_t4 (List.mem_of_getElem? (i := 74) (by rfl))) rfl
set_option maxRecDepth 20000 in
theorem sw_X7_row : Jvm.Cond.selects "ChalkCastleModel" ({ cls := "ChalkCastleModel", name := "row", desc := "(III)I" } : Jvm.MethodName) ({ cls := "ChalkCastleModel", name := "row", desc := "(III)I" } : Jvm.MethodName) ∈ lw_g := g_in (in_t4 (List.mem_of_getElem? (i := 78) (by rfl))) rfl
set_option maxRecDepth 20000 in
theorem sw_X7_set : Jvm.Cond.selects "ChalkCastleModel" ({ cls := "ChalkCastleModel", name := "set", desc := "(III)I" } : Jvm.MethodName) ({ cls := "ChalkCastleModel", name := "set", desc := "(III)I" } : Jvm.MethodName) ∈ lw_g := g_in (in_t4 (List.mem_of_getElem? (i := 98) (by rfl))) rfl
set_option maxRecDepth 20000 in
theorem sw_X7_isPart : Jvm.Cond.selects "ChalkCastleModel" ({ cls := "ChalkCastleModel", name := "isPart", desc := "(III)Z" } : Jvm.MethodName) ({ cls := "ChalkCastleModel", name := "isPart", desc := "(III)Z" } : Jvm.MethodName) ∈ lw_g := g_in (in_t0 (List.mem_of_getElem? (i := 14) (by rfl))) rfl
set_option maxRecDepth 20000 in
theorem sw_X7_copy : Jvm.Cond.selects "ChalkCastleModel" ({ cls := "ChalkCastleModel", name := "copy", desc := "(IIIII)I" } : Jvm.MethodName) ({ cls := "ChalkCastleModel", name := "copy", desc := "(IIIII)I" } : Jvm.MethodName) ∈ lw_g := g_in (in_t4 (List.mem_of_getElem? (i := 105) (by rfl))) rfl
set_option maxRecDepth 20000 in
theorem sw_X7_drop : Jvm.Cond.selects "ChalkCastleModel" ({ cls := "ChalkCastleModel", name := "drop", desc := "(I)I" } : Jvm.MethodName) ({ cls := "ChalkCastleModel", name := "drop", desc := "(I)I" } : Jvm.MethodName) ∈ lw_g := g_in (in_t4 (List.mem_of_getElem? (i := 113) (by rfl))) rfl
set_option maxRecDepth 20000 in
theorem sw_X7_itemAt : Jvm.Cond.selects "ChalkCastleModel" ({ cls := "ChalkCastleModel", name := "itemAt", desc := "(II)I" } : Jvm.MethodName) ({ cls := "ChalkCastleModel", name := "itemAt", desc := "(II)I" } : Jvm.MethodName) ∈ lw_g := g_in (in_t0 (List.mem_of_getElem? (i := 43) (by rfl))) rfl
set_option maxRecDepth 20000 in
theorem sw_X7_feed : Jvm.Cond.selects "ChalkCastleModel" ({ cls := "ChalkCastleModel", name := "feed", desc := "(I)I" } : Jvm.MethodName) ({ cls := "ChalkCastleModel", name := "feed", desc := "(I)I" } : Jvm.MethodName) ∈ lw_g := g_in (in_t4 (List.mem_of_getElem? (i := 117) (by rfl))) rfl
set_option maxRecDepth 20000 in
theorem sw_X7_fault : Jvm.Cond.selects "ChalkCastleModel" ({ cls := "ChalkCastleModel", name := "fault", desc := "()I" } : Jvm.MethodName) ({ cls := "ChalkCastleModel", name := "fault", desc := "()I" } : Jvm.MethodName) ∈ lw_g := g_in (in_t4 (List.mem_of_getElem? (i := 122) (by rfl))) rfl
set_option maxRecDepth 20000 in
theorem sw_X7_here : Jvm.Cond.selects "ChalkCastleModel" ({ cls := "ChalkCastleModel", name := "here", desc := "()I" } : Jvm.MethodName) ({ cls := "ChalkCastleModel", name := "here", desc := "()I" } : Jvm.MethodName) ∈ lw_g := g_in (in_t0 (List.mem_of_getElem? (i := 18) (by rfl))) rfl
set_option maxRecDepth 20000 in
theorem sw_X7_isFigure : Jvm.Cond.selects "ChalkCastleModel" ({ cls := "ChalkCastleModel", name := "isFigure", desc := "(I)Z" } : Jvm.MethodName) ({ cls := "ChalkCastleModel", name := "isFigure", desc := "(I)Z" } : Jvm.MethodName) ∈ lw_g := g_in (in_t0 (List.mem_of_getElem? (i := 22) (by rfl))) rfl
set_option maxRecDepth 20000 in
theorem sw_X7_run : Jvm.Cond.selects "ChalkCastleModel" ({ cls := "ChalkCastleModel", name := "run", desc := "()I" } : Jvm.MethodName) ({ cls := "ChalkCastleModel", name := "run", desc := "()I" } : Jvm.MethodName) ∈ lw_g := g_in (in_t0 (List.mem_of_getElem? (i := 21) (by rfl))) rfl
set_option maxRecDepth 20000 in
theorem sw_X7_fails : Jvm.Cond.selects "ChalkCastleModel" ({ cls := "ChalkCastleModel", name := "fails", desc := "(I)Z" } : Jvm.MethodName) ({ cls := "ChalkCastleModel", name := "fails", desc := "(I)Z" } : Jvm.MethodName) ∈ lw_g := g_in (in_t0 (List.mem_of_getElem? (i := 19) (by rfl))) rfl
set_option maxRecDepth 20000 in
theorem sw_X7_readsSign : Jvm.Cond.selects "ChalkCastleModel" ({ cls := "ChalkCastleModel", name := "readsSign", desc := "(I)Z" } : Jvm.MethodName) ({ cls := "ChalkCastleModel", name := "readsSign", desc := "(I)Z" } : Jvm.MethodName) ∈ lw_g := g_in (in_t0 (List.mem_of_getElem? (i := 17) (by rfl))) rfl
set_option maxRecDepth 20000 in
theorem sw_X7_number : Jvm.Cond.selects "ChalkCastleModel" ({ cls := "ChalkCastleModel", name := "number", desc := "(II)I" } : Jvm.MethodName) ({ cls := "ChalkCastleModel", name := "number", desc := "(II)I" } : Jvm.MethodName) ∈ lw_g := g_in (in_t0 (List.mem_of_getElem? (i := 20) (by rfl))) rfl
set_option maxRecDepth 20000 in
theorem sw_X7_readsLaw : Jvm.Cond.selects "ChalkCastleModel" ({ cls := "ChalkCastleModel", name := "readsLaw", desc := "()Z" } : Jvm.MethodName) ({ cls := "ChalkCastleModel", name := "readsLaw", desc := "()Z" } : Jvm.MethodName) ∈ lw_g := g_in (in_t0 (List.mem_of_getElem? (i := 16) (by rfl))) rfl
set_option maxRecDepth 20000 in
theorem sw_X7_readsBlock : Jvm.Cond.selects "ChalkCastleModel" ({ cls := "ChalkCastleModel", name := "readsBlock", desc := "()Z" } : Jvm.MethodName) ({ cls := "ChalkCastleModel", name := "readsBlock", desc := "()Z" } : Jvm.MethodName) ∈ lw_g := g_in (in_t0 (List.mem_of_getElem? (i := 24) (by rfl))) rfl
set_option maxRecDepth 20000 in
theorem sw_X7_readsRest : Jvm.Cond.selects "ChalkCastleModel" ({ cls := "ChalkCastleModel", name := "readsRest", desc := "()Z" } : Jvm.MethodName) ({ cls := "ChalkCastleModel", name := "readsRest", desc := "()Z" } : Jvm.MethodName) ∈ lw_g := g_in (in_t0 (List.mem_of_getElem? (i := 25) (by rfl))) rfl
set_option maxRecDepth 20000 in
theorem sw_X7_readsClerk : Jvm.Cond.selects "ChalkCastleModel" ({ cls := "ChalkCastleModel", name := "readsClerk", desc := "()Z" } : Jvm.MethodName) ({ cls := "ChalkCastleModel", name := "readsClerk", desc := "()Z" } : Jvm.MethodName) ∈ lw_g := g_in (in_t0 (List.mem_of_getElem? (i := 26) (by rfl))) rfl
set_option maxRecDepth 20000 in
theorem sw_X7_readsItem : Jvm.Cond.selects "ChalkCastleModel" ({ cls := "ChalkCastleModel", name := "readsItem", desc := "()Z" } : Jvm.MethodName) ({ cls := "ChalkCastleModel", name := "readsItem", desc := "()Z" } : Jvm.MethodName) ∈ lw_g := g_in (in_t0 (List.mem_of_getElem? (i := 23) (by rfl))) rfl
set_option maxRecDepth 20000 in
theorem sw_X7_reads : Jvm.Cond.selects "ChalkCastleModel" ({ cls := "ChalkCastleModel", name := "reads", desc := "()Z" } : Jvm.MethodName) ({ cls := "ChalkCastleModel", name := "reads", desc := "()Z" } : Jvm.MethodName) ∈ lw_g := g_in (in_t0 (List.mem_of_getElem? (i := 15) (by rfl))) rfl
set_option maxRecDepth 20000 in
theorem sw_X7_castle : Jvm.Cond.selects "ChalkCastleModel" ({ cls := "ChalkCastleModel", name := "castle", desc := "()I" } : Jvm.MethodName) ({ cls := "ChalkCastleModel", name := "castle", desc := "()I" } : Jvm.MethodName) ∈ lw_g := g_in (in_t4 (List.mem_of_getElem? (i := 126) (by rfl))) rfl
set_option maxRecDepth 20000 in
theorem sw_X7_isBlock : Jvm.Cond.selects "ChalkCastleModel" ({ cls := "ChalkCastleModel", name := "isBlock", desc := "(I)Z" } : Jvm.MethodName) ({ cls := "ChalkCastleModel", name := "isBlock", desc := "(I)Z" } : Jvm.MethodName) ∈ lw_g := g_in (in_t0 (List.mem_of_getElem? (i := 28) (by rfl))) rfl
set_option maxRecDepth 20000 in
theorem sw_X7_isClerk : Jvm.Cond.selects "ChalkCastleModel" ({ cls := "ChalkCastleModel", name := "isClerk", desc := "(I)Z" } : Jvm.MethodName) ({ cls := "ChalkCastleModel", name := "isClerk", desc := "(I)Z" } : Jvm.MethodName) ∈ lw_g := g_in (in_t0 (List.mem_of_getElem? (i := 27) (by rfl))) rfl
set_option maxRecDepth 20000 in
theorem sw_X7_isBlocks : Jvm.Cond.selects "ChalkCastleModel" ({ cls := "ChalkCastleModel", name := "isBlocks", desc := "(I)Z" } : Jvm.MethodName) ({ cls := "ChalkCastleModel", name := "isBlocks", desc := "(I)Z" } : Jvm.MethodName) ∈ lw_g := g_in (in_t0 (List.mem_of_getElem? (i := 39) (by rfl))) rfl
set_option maxRecDepth 20000 in
theorem sw_X7_remember : Jvm.Cond.selects "ChalkCastleModel" ({ cls := "ChalkCastleModel", name := "remember", desc := "()V" } : Jvm.MethodName) ({ cls := "ChalkCastleModel", name := "remember", desc := "()V" } : Jvm.MethodName) ∈ lw_g := g_in (in_t0 (List.mem_of_getElem? (i := 31) (by rfl))) rfl
set_option maxRecDepth 20000 in
theorem sw_X7_undo : Jvm.Cond.selects "ChalkCastleModel" ({ cls := "ChalkCastleModel", name := "undo", desc := "()I" } : Jvm.MethodName) ({ cls := "ChalkCastleModel", name := "undo", desc := "()I" } : Jvm.MethodName) ∈ lw_g := g_in (in_t4 (List.mem_of_getElem? (i := 186) (by rfl))) rfl
set_option maxRecDepth 20000 in
theorem sw_X7_standing : Jvm.Cond.selects "ChalkCastleModel" ({ cls := "ChalkCastleModel", name := "standing", desc := "([I)I" } : Jvm.MethodName) ({ cls := "ChalkCastleModel", name := "standing", desc := "([I)I" } : Jvm.MethodName) ∈ lw_g := g_in (in_t0 (List.mem_of_getElem? (i := 34) (by rfl))) rfl
set_option maxRecDepth 20000 in
theorem sw_X7_fallen : Jvm.Cond.selects "ChalkCastleModel" ({ cls := "ChalkCastleModel", name := "fallen", desc := "([I)I" } : Jvm.MethodName) ({ cls := "ChalkCastleModel", name := "fallen", desc := "([I)I" } : Jvm.MethodName) ∈ lw_g := g_in (in_t0 (List.mem_of_getElem? (i := 36) (by rfl))) rfl
set_option maxRecDepth 20000 in
theorem sw_X7_takesBy : Jvm.Cond.selects "ChalkCastleModel" ({ cls := "ChalkCastleModel", name := "takesBy", desc := "(IIII)I" } : Jvm.MethodName) ({ cls := "ChalkCastleModel", name := "takesBy", desc := "(IIII)I" } : Jvm.MethodName) ∈ lw_g := g_in (in_t0 (List.mem_of_getElem? (i := 30) (by rfl))) rfl
set_option maxRecDepth 20000 in
theorem sw_X7_takesOf : Jvm.Cond.selects "ChalkCastleModel" ({ cls := "ChalkCastleModel", name := "takesOf", desc := "([III)I" } : Jvm.MethodName) ({ cls := "ChalkCastleModel", name := "takesOf", desc := "([III)I" } : Jvm.MethodName) ∈ lw_g := g_in (in_t0 (List.mem_of_getElem? (i := 29) (by rfl))) rfl
set_option maxRecDepth 20000 in
theorem sw_X7_writes : Jvm.Cond.selects "ChalkCastleModel" ({ cls := "ChalkCastleModel", name := "writes", desc := "([IIII)Z" } : Jvm.MethodName) ({ cls := "ChalkCastleModel", name := "writes", desc := "([IIII)Z" } : Jvm.MethodName) ∈ lw_g := g_in (in_t0 (List.mem_of_getElem? (i := 32) (by rfl))) rfl
set_option maxRecDepth 20000 in
theorem sw_X7_restingOn : Jvm.Cond.selects "ChalkCastleModel" ({ cls := "ChalkCastleModel", name := "restingOn", desc := "(I)I" } : Jvm.MethodName) ({ cls := "ChalkCastleModel", name := "restingOn", desc := "(I)I" } : Jvm.MethodName) ∈ lw_g := g_in (in_t0 (List.mem_of_getElem? (i := 35) (by rfl))) rfl
set_option maxRecDepth 20000 in
theorem sw_X7_rainsOn : Jvm.Cond.selects "ChalkCastleModel" ({ cls := "ChalkCastleModel", name := "rainsOn", desc := "([I)V" } : Jvm.MethodName) ({ cls := "ChalkCastleModel", name := "rainsOn", desc := "([I)V" } : Jvm.MethodName) ∈ lw_g := g_in (in_t0 (List.mem_of_getElem? (i := 33) (by rfl))) rfl
set_option maxRecDepth 20000 in
theorem sw_X7_write : Jvm.Cond.selects "ChalkCastleModel" ({ cls := "ChalkCastleModel", name := "write", desc := "(III)I" } : Jvm.MethodName) ({ cls := "ChalkCastleModel", name := "write", desc := "(III)I" } : Jvm.MethodName) ∈ lw_g := g_in (in_t4 (List.mem_of_getElem? (i := 191) (by rfl))) rfl
set_option maxRecDepth 20000 in
theorem sw_X7_rub : Jvm.Cond.selects "ChalkCastleModel" ({ cls := "ChalkCastleModel", name := "rub", desc := "(II)I" } : Jvm.MethodName) ({ cls := "ChalkCastleModel", name := "rub", desc := "(II)I" } : Jvm.MethodName) ∈ lw_g := g_in (in_t4 (List.mem_of_getElem? (i := 222) (by rfl))) rfl
set_option maxRecDepth 20000 in
theorem sw_X7_rain : Jvm.Cond.selects "ChalkCastleModel" ({ cls := "ChalkCastleModel", name := "rain", desc := "()I" } : Jvm.MethodName) ({ cls := "ChalkCastleModel", name := "rain", desc := "()I" } : Jvm.MethodName) ∈ lw_g := g_in (in_t4 (List.mem_of_getElem? (i := 226) (by rfl))) rfl
set_option maxRecDepth 20000 in
theorem sw_X7_days : Jvm.Cond.selects "ChalkCastleModel" ({ cls := "ChalkCastleModel", name := "days", desc := "(I)I" } : Jvm.MethodName) ({ cls := "ChalkCastleModel", name := "days", desc := "(I)I" } : Jvm.MethodName) ∈ lw_g := g_in (in_t5 (List.mem_of_getElem? (i := 2) (by rfl))) rfl
set_option maxRecDepth 20000 in
theorem sw_X7_block : Jvm.Cond.selects "ChalkCastleModel" ({ cls := "ChalkCastleModel", name := "block", desc := "(II)I" } : Jvm.MethodName) ({ cls := "ChalkCastleModel", name := "block", desc := "(II)I" } : Jvm.MethodName) ∈ lw_g := g_in (in_t5 (List.mem_of_getElem? (i := 6) (by rfl))) rfl
set_option maxRecDepth 20000 in
theorem sw_X7_clerk : Jvm.Cond.selects "ChalkCastleModel" ({ cls := "ChalkCastleModel", name := "clerk", desc := "(II)I" } : Jvm.MethodName) ({ cls := "ChalkCastleModel", name := "clerk", desc := "(II)I" } : Jvm.MethodName) ∈ lw_g := g_in (in_t5 (List.mem_of_getElem? (i := 10) (by rfl))) rfl
set_option maxRecDepth 20000 in
theorem sw_X7_takes : Jvm.Cond.selects "ChalkCastleModel" ({ cls := "ChalkCastleModel", name := "takes", desc := "(II)I" } : Jvm.MethodName) ({ cls := "ChalkCastleModel", name := "takes", desc := "(II)I" } : Jvm.MethodName) ∈ lw_g := g_in (in_t5 (List.mem_of_getElem? (i := 14) (by rfl))) rfl
set_option maxRecDepth 20000 in
theorem sw_X7_allLines : Jvm.Cond.selects "ChalkCastleModel" ({ cls := "ChalkCastleModel", name := "allLines", desc := "()I" } : Jvm.MethodName) ({ cls := "ChalkCastleModel", name := "allLines", desc := "()I" } : Jvm.MethodName) ∈ lw_g := g_in (in_t0 (List.mem_of_getElem? (i := 38) (by rfl))) rfl
set_option maxRecDepth 20000 in
theorem sw_X7_allChalk : Jvm.Cond.selects "ChalkCastleModel" ({ cls := "ChalkCastleModel", name := "allChalk", desc := "()I" } : Jvm.MethodName) ({ cls := "ChalkCastleModel", name := "allChalk", desc := "()I" } : Jvm.MethodName) ∈ lw_g := g_in (in_t0 (List.mem_of_getElem? (i := 37) (by rfl))) rfl
set_option maxRecDepth 20000 in
theorem sw_X7_stand : Jvm.Cond.selects "ChalkCastleModel" ({ cls := "ChalkCastleModel", name := "stand", desc := "(I)I" } : Jvm.MethodName) ({ cls := "ChalkCastleModel", name := "stand", desc := "(I)I" } : Jvm.MethodName) ∈ lw_g := g_in (in_t5 (List.mem_of_getElem? (i := 18) (by rfl))) rfl
set_option maxRecDepth 20000 in
theorem sw_X7_copyNow : Jvm.Cond.selects "ChalkCastleModel" ({ cls := "ChalkCastleModel", name := "copyNow", desc := "()V" } : Jvm.MethodName) ({ cls := "ChalkCastleModel", name := "copyNow", desc := "()V" } : Jvm.MethodName) ∈ lw_g := g_in (in_t0 (List.mem_of_getElem? (i := 41) (by rfl))) rfl
set_option maxRecDepth 20000 in
theorem sw_X7_standingWithout : Jvm.Cond.selects "ChalkCastleModel" ({ cls := "ChalkCastleModel", name := "standingWithout", desc := "(I)I" } : Jvm.MethodName) ({ cls := "ChalkCastleModel", name := "standingWithout", desc := "(I)I" } : Jvm.MethodName) ∈ lw_g := g_in (in_t0 (List.mem_of_getElem? (i := 40) (by rfl))) rfl
set_option maxRecDepth 20000 in
theorem sw_X7_wouldFall : Jvm.Cond.selects "ChalkCastleModel" ({ cls := "ChalkCastleModel", name := "wouldFall", desc := "(I)I" } : Jvm.MethodName) ({ cls := "ChalkCastleModel", name := "wouldFall", desc := "(I)I" } : Jvm.MethodName) ∈ lw_g := g_in (in_t5 (List.mem_of_getElem? (i := 34) (by rfl))) rfl
set_option maxRecDepth 20000 in
theorem sw_X7_left : Jvm.Cond.selects "ChalkCastleModel" ({ cls := "ChalkCastleModel", name := "left", desc := "(I)I" } : Jvm.MethodName) ({ cls := "ChalkCastleModel", name := "left", desc := "(I)I" } : Jvm.MethodName) ∈ lw_g := g_in (in_t5 (List.mem_of_getElem? (i := 50) (by rfl))) rfl
set_option maxRecDepth 20000 in
theorem sw_X7_chalkBut : Jvm.Cond.selects "ChalkCastleModel" ({ cls := "ChalkCastleModel", name := "chalkBut", desc := "(I)I" } : Jvm.MethodName) ({ cls := "ChalkCastleModel", name := "chalkBut", desc := "(I)I" } : Jvm.MethodName) ∈ lw_g := g_in (in_t0 (List.mem_of_getElem? (i := 42) (by rfl))) rfl
set_option maxRecDepth 20000 in
theorem sw_X7_leastFallen : Jvm.Cond.selects "ChalkCastleModel" ({ cls := "ChalkCastleModel", name := "leastFallen", desc := "(III)I" } : Jvm.MethodName) ({ cls := "ChalkCastleModel", name := "leastFallen", desc := "(III)I" } : Jvm.MethodName) ∈ lw_g := g_in (in_t5 (List.mem_of_getElem? (i := 54) (by rfl))) rfl
set_option maxRecDepth 20000 in
theorem sw_X7_must : Jvm.Cond.selects "ChalkCastleModel" ({ cls := "ChalkCastleModel", name := "must", desc := "()I" } : Jvm.MethodName) ({ cls := "ChalkCastleModel", name := "must", desc := "()I" } : Jvm.MethodName) ∈ lw_g := g_in (in_t5 (List.mem_of_getElem? (i := 65) (by rfl))) rfl
set_option maxRecDepth 20000 in
theorem sw_X7_standingBy : Jvm.Cond.selects "ChalkCastleModel" ({ cls := "ChalkCastleModel", name := "standingBy", desc := "(IIII)I" } : Jvm.MethodName) ({ cls := "ChalkCastleModel", name := "standingBy", desc := "(IIII)I" } : Jvm.MethodName) ∈ lw_g := g_in (in_t0 (List.mem_of_getElem? (i := 44) (by rfl))) rfl
set_option maxRecDepth 20000 in
theorem sw_X7_writings : Jvm.Cond.selects "ChalkCastleModel" ({ cls := "ChalkCastleModel", name := "writings", desc := "(IIII)I" } : Jvm.MethodName) ({ cls := "ChalkCastleModel", name := "writings", desc := "(IIII)I" } : Jvm.MethodName) ∈ lw_g := g_in (in_t5 (List.mem_of_getElem? (i := 69) (by rfl))) rfl
set_option maxRecDepth 20000 in
theorem sw_X7_isLeft : Jvm.Cond.selects "ChalkCastleModel" ({ cls := "ChalkCastleModel", name := "isLeft", desc := "(IIII)Z" } : Jvm.MethodName) ({ cls := "ChalkCastleModel", name := "isLeft", desc := "(IIII)Z" } : Jvm.MethodName) ∈ lw_g := g_in (in_t0 (List.mem_of_getElem? (i := 45) (by rfl))) rfl
set_option maxRecDepth 20000 in
theorem sw_X7_from : Jvm.Cond.selects "ChalkCastleModel" ({ cls := "ChalkCastleModel", name := "from", desc := "(III)I" } : Jvm.MethodName) ({ cls := "ChalkCastleModel", name := "from", desc := "(III)I" } : Jvm.MethodName) ∈ lw_g := g_in (in_t5 (List.mem_of_getElem? (i := 81) (by rfl))) rfl
set_option maxRecDepth 20000 in
theorem sw_X7_who : Jvm.Cond.selects "ChalkCastleModel" ({ cls := "ChalkCastleModel", name := "who", desc := "(IIII)I" } : Jvm.MethodName) ({ cls := "ChalkCastleModel", name := "who", desc := "(IIII)I" } : Jvm.MethodName) ∈ lw_g := g_in (in_t5 (List.mem_of_getElem? (i := 89) (by rfl))) rfl
set_option maxRecDepth 20000 in
theorem sw_X7_layer : Jvm.Cond.selects "ChalkCastleModel" ({ cls := "ChalkCastleModel", name := "layer", desc := "(I)I" } : Jvm.MethodName) ({ cls := "ChalkCastleModel", name := "layer", desc := "(I)I" } : Jvm.MethodName) ∈ lw_g := g_in (in_t5 (List.mem_of_getElem? (i := 93) (by rfl))) rfl
set_option maxRecDepth 20000 in
theorem sw_X7_longest : Jvm.Cond.selects "ChalkCastleModel" ({ cls := "ChalkCastleModel", name := "longest", desc := "(II)I" } : Jvm.MethodName) ({ cls := "ChalkCastleModel", name := "longest", desc := "(II)I" } : Jvm.MethodName) ∈ lw_g := g_in (in_t5 (List.mem_of_getElem? (i := 97) (by rfl))) rfl
set_option maxRecDepth 20000 in
theorem sw_X7_rains : Jvm.Cond.selects "ChalkCastleModel" ({ cls := "ChalkCastleModel", name := "rains", desc := "(III)J" } : Jvm.MethodName) ({ cls := "ChalkCastleModel", name := "rains", desc := "(III)J" } : Jvm.MethodName) ∈ lw_g := g_in (in_t5 (List.mem_of_getElem? (i := 101) (by rfl))) rfl
set_option maxRecDepth 20000 in
theorem sw_X7_share : Jvm.Cond.selects "ChalkCastleModel" ({ cls := "ChalkCastleModel", name := "share", desc := "(II)I" } : Jvm.MethodName) ({ cls := "ChalkCastleModel", name := "share", desc := "(II)I" } : Jvm.MethodName) ∈ lw_g := g_in (in_t5 (List.mem_of_getElem? (i := 110) (by rfl))) rfl
set_option maxRecDepth 20000 in
theorem sw_X7_drawn : Jvm.Cond.selects "ChalkCastleModel" ({ cls := "ChalkCastleModel", name := "drawn", desc := "(III)I" } : Jvm.MethodName) ({ cls := "ChalkCastleModel", name := "drawn", desc := "(III)I" } : Jvm.MethodName) ∈ lw_g := g_in (in_t5 (List.mem_of_getElem? (i := 114) (by rfl))) rfl
set_option maxRecDepth 20000 in
theorem sw_X7_image : Jvm.Cond.selects "ChalkCastleModel" ({ cls := "ChalkCastleModel", name := "image", desc := "(I)I" } : Jvm.MethodName) ({ cls := "ChalkCastleModel", name := "image", desc := "(I)I" } : Jvm.MethodName) ∈ lw_g := g_in (in_t5 (List.mem_of_getElem? (i := 123) (by rfl))) rfl
set_option maxRecDepth 20000 in
theorem sw_X7_restore : Jvm.Cond.selects "ChalkCastleModel" ({ cls := "ChalkCastleModel", name := "restore", desc := "(I)I" } : Jvm.MethodName) ({ cls := "ChalkCastleModel", name := "restore", desc := "(I)I" } : Jvm.MethodName) ∈ lw_g := g_in (in_t5 (List.mem_of_getElem? (i := 127) (by rfl))) rfl
set_option maxRecDepth 20000 in
theorem sw_X7_kind : Jvm.Cond.selects "ChalkCastleModel" ({ cls := "ChalkCastleModel", name := "kind", desc := "(I)I" } : Jvm.MethodName) ({ cls := "ChalkCastleModel", name := "kind", desc := "(I)I" } : Jvm.MethodName) ∈ lw_g := g_in (in_t5 (List.mem_of_getElem? (i := 131) (by rfl))) rfl
set_option maxRecDepth 20000 in
theorem sw_X7_isOf : Jvm.Cond.selects "ChalkCastleModel" ({ cls := "ChalkCastleModel", name := "isOf", desc := "(II)Z" } : Jvm.MethodName) ({ cls := "ChalkCastleModel", name := "isOf", desc := "(II)Z" } : Jvm.MethodName) ∈ lw_g := g_in (in_t0 (List.mem_of_getElem? (i := 46) (by rfl))) rfl
set_option maxRecDepth 20000 in
theorem sw_X7_as : Jvm.Cond.selects "ChalkCastleModel" ({ cls := "ChalkCastleModel", name := "as", desc := "(II)I" } : Jvm.MethodName) ({ cls := "ChalkCastleModel", name := "as", desc := "(II)I" } : Jvm.MethodName) ∈ lw_g := g_in (in_t5 (List.mem_of_getElem? (i := 135) (by rfl))) rfl
set_option maxRecDepth 20000 in
theorem sw_X7_leaves : Jvm.Cond.selects "ChalkCastleModel" ({ cls := "ChalkCastleModel", name := "leaves", desc := "(I)V" } : Jvm.MethodName) ({ cls := "ChalkCastleModel", name := "leaves", desc := "(I)V" } : Jvm.MethodName) ∈ lw_g := g_in (in_t0 (List.mem_of_getElem? (i := 49) (by rfl))) rfl
set_option maxRecDepth 20000 in
theorem sw_X7_body10 : Jvm.Cond.selects "ChalkCastleModel" ({ cls := "ChalkCastleModel", name := "body10", desc := "(I)I" } : Jvm.MethodName) ({ cls := "ChalkCastleModel", name := "body10", desc := "(I)I" } : Jvm.MethodName) ∈ lw_g := g_in (in_t0 (List.mem_of_getElem? (i := 50) (by rfl))) rfl
set_option maxRecDepth 20000 in
theorem sw_X7_body13 : Jvm.Cond.selects "ChalkCastleModel" ({ cls := "ChalkCastleModel", name := "body13", desc := "(I)I" } : Jvm.MethodName) ({ cls := "ChalkCastleModel", name := "body13", desc := "(I)I" } : Jvm.MethodName) ∈ lw_g := g_in (in_t0 (List.mem_of_getElem? (i := 55) (by rfl))) rfl
set_option maxRecDepth 20000 in
theorem sw_X7_boySize : Jvm.Cond.selects "ChalkCastleModel" ({ cls := "ChalkCastleModel", name := "boySize", desc := "(I)I" } : Jvm.MethodName) ({ cls := "ChalkCastleModel", name := "boySize", desc := "(I)I" } : Jvm.MethodName) ∈ lw_g := g_in (in_t0 (List.mem_of_getElem? (i := 54) (by rfl))) rfl
set_option maxRecDepth 20000 in
theorem sw_X7_body20 : Jvm.Cond.selects "ChalkCastleModel" ({ cls := "ChalkCastleModel", name := "body20", desc := "(I)I" } : Jvm.MethodName) ({ cls := "ChalkCastleModel", name := "body20", desc := "(I)I" } : Jvm.MethodName) ∈ lw_g := g_in (in_t0 (List.mem_of_getElem? (i := 53) (by rfl))) rfl
set_option maxRecDepth 20000 in
theorem sw_X7_body21 : Jvm.Cond.selects "ChalkCastleModel" ({ cls := "ChalkCastleModel", name := "body21", desc := "(I)I" } : Jvm.MethodName) ({ cls := "ChalkCastleModel", name := "body21", desc := "(I)I" } : Jvm.MethodName) ∈ lw_g := g_in (in_t0 (List.mem_of_getElem? (i := 52) (by rfl))) rfl
set_option maxRecDepth 20000 in
theorem sw_X7_markOf : Jvm.Cond.selects "ChalkCastleModel" ({ cls := "ChalkCastleModel", name := "markOf", desc := "(I)I" } : Jvm.MethodName) ({ cls := "ChalkCastleModel", name := "markOf", desc := "(I)I" } : Jvm.MethodName) ∈ lw_g := g_in (in_t0 (List.mem_of_getElem? (i := 51) (by rfl))) rfl
set_option maxRecDepth 20000 in
theorem sw_X7_body11 : Jvm.Cond.selects "ChalkCastleModel" ({ cls := "ChalkCastleModel", name := "body11", desc := "(I)I" } : Jvm.MethodName) ({ cls := "ChalkCastleModel", name := "body11", desc := "(I)I" } : Jvm.MethodName) ∈ lw_g := g_in (in_t0 (List.mem_of_getElem? (i := 48) (by rfl))) rfl
set_option maxRecDepth 20000 in
theorem sw_X7_sizeOf : Jvm.Cond.selects "ChalkCastleModel" ({ cls := "ChalkCastleModel", name := "sizeOf", desc := "(I)I" } : Jvm.MethodName) ({ cls := "ChalkCastleModel", name := "sizeOf", desc := "(I)I" } : Jvm.MethodName) ∈ lw_g := g_in (in_t0 (List.mem_of_getElem? (i := 47) (by rfl))) rfl
set_option maxRecDepth 20000 in
theorem sw_X7_ask : Jvm.Cond.selects "ChalkCastleModel" ({ cls := "ChalkCastleModel", name := "ask", desc := "(II)I" } : Jvm.MethodName) ({ cls := "ChalkCastleModel", name := "ask", desc := "(II)I" } : Jvm.MethodName) ∈ lw_g := g_in (in_t5 (List.mem_of_getElem? (i := 143) (by rfl))) rfl
set_option maxRecDepth 20000 in
theorem sw_X7_trace : Jvm.Cond.selects "ChalkCastleModel" ({ cls := "ChalkCastleModel", name := "trace", desc := "(I)I" } : Jvm.MethodName) ({ cls := "ChalkCastleModel", name := "trace", desc := "(I)I" } : Jvm.MethodName) ∈ lw_g := g_in (in_t5 (List.mem_of_getElem? (i := 183) (by rfl))) rfl
set_option maxRecDepth 20000 in
theorem sw_X7_count : Jvm.Cond.selects "ChalkCastleModel" ({ cls := "ChalkCastleModel", name := "count", desc := "(I)I" } : Jvm.MethodName) ({ cls := "ChalkCastleModel", name := "count", desc := "(I)I" } : Jvm.MethodName) ∈ lw_g := g_in (in_t5 (List.mem_of_getElem? (i := 187) (by rfl))) rfl
