theorem dX6_image_38 : decode cX6_image 38 = .ok (.iload_n 1, 1) := by decide +kernel
theorem dX6_image_39 : decode cX6_image 39 = .ok (.aaload, 1) := by decide +kernel
theorem dX6_image_40 : decode cX6_image 40 = .ok (.aload_n 0, 1) := by decide +kernel
theorem dX6_image_41 : decode cX6_image 41 = .ok (.getfield 39, 3) := by decide +kernel
theorem dX6_image_44 : decode cX6_image 44 = .ok (.invokevirtual 156, 3) := by decide +kernel
theorem dX6_image_47 : decode cX6_image 47 = .ok (.iconst 1, 1) := by decide +kernel
theorem dX6_image_48 : decode cX6_image 48 = .ok (.ireturn, 1) := by decide +kernel
theorem dX6_restore_0 : decode cX6_restore 0 = .ok (.iload_n 1, 1) := by decide +kernel
theorem dX6_restore_1 : decode cX6_restore 1 = .ok (.iconst 2, 1) := by decide +kernel
theorem dX6_restore_2 : decode cX6_restore 2 = .ok (.invokestatic 78, 3) := by decide +kernel
theorem dX6_restore_5 : decode cX6_restore 5 = .ok (.ifCond .ne 6, 3) := by decide +kernel
theorem dX6_restore_8 : decode cX6_restore 8 = .ok (.ldc 82, 2) := by decide +kernel
theorem dX6_restore_10 : decode cX6_restore 10 = .ok (.ireturn, 1) := by decide +kernel
theorem dX6_restore_11 : decode cX6_restore 11 = .ok (.aload_n 0, 1) := by decide +kernel
theorem dX6_restore_12 : decode cX6_restore 12 = .ok (.getfield 53, 3) := by decide +kernel
theorem dX6_restore_15 : decode cX6_restore 15 = .ok (.iload_n 1, 1) := by decide +kernel
theorem dX6_restore_16 : decode cX6_restore 16 = .ok (.aaload, 1) := by decide +kernel
theorem dX6_restore_17 : decode cX6_restore 17 = .ok (.getfield 152, 3) := by decide +kernel
theorem dX6_restore_20 : decode cX6_restore 20 = .ok (.iconst 1, 1) := by decide +kernel
theorem dX6_restore_21 : decode cX6_restore 21 = .ok (.if_icmp .ge 6, 3) := by decide +kernel
theorem dX6_restore_24 : decode cX6_restore 24 = .ok (.ldc 155, 2) := by decide +kernel
theorem dX6_restore_26 : decode cX6_restore 26 = .ok (.ireturn, 1) := by decide +kernel
theorem dX6_restore_27 : decode cX6_restore 27 = .ok (.aload_n 0, 1) := by decide +kernel
theorem dX6_restore_28 : decode cX6_restore 28 = .ok (.getfield 32, 3) := by decide +kernel
theorem dX6_restore_31 : decode cX6_restore 31 = .ok (.aload_n 0, 1) := by decide +kernel
theorem dX6_restore_32 : decode cX6_restore 32 = .ok (.getfield 53, 3) := by decide +kernel
theorem dX6_restore_35 : decode cX6_restore 35 = .ok (.iload_n 1, 1) := by decide +kernel
theorem dX6_restore_36 : decode cX6_restore 36 = .ok (.aaload, 1) := by decide +kernel
theorem dX6_restore_37 : decode cX6_restore 37 = .ok (.invokevirtual 146, 3) := by decide +kernel
theorem dX6_restore_40 : decode cX6_restore 40 = .ok (.aload_n 0, 1) := by decide +kernel
theorem dX6_restore_41 : decode cX6_restore 41 = .ok (.getfield 39, 3) := by decide +kernel
theorem dX6_restore_44 : decode cX6_restore 44 = .ok (.aload_n 0, 1) := by decide +kernel
theorem dX6_restore_45 : decode cX6_restore 45 = .ok (.getfield 57, 3) := by decide +kernel
theorem dX6_restore_48 : decode cX6_restore 48 = .ok (.iload_n 1, 1) := by decide +kernel
theorem dX6_restore_49 : decode cX6_restore 49 = .ok (.aaload, 1) := by decide +kernel
theorem dX6_restore_50 : decode cX6_restore 50 = .ok (.invokevirtual 156, 3) := by decide +kernel
theorem dX6_restore_53 : decode cX6_restore 53 = .ok (.aload_n 0, 1) := by decide +kernel
theorem dX6_restore_54 : decode cX6_restore 54 = .ok (.iconst 0, 1) := by decide +kernel
theorem dX6_restore_55 : decode cX6_restore 55 = .ok (.putfield 50, 3) := by decide +kernel
theorem dX6_restore_58 : decode cX6_restore 58 = .ok (.iconst 1, 1) := by decide +kernel
theorem dX6_restore_59 : decode cX6_restore 59 = .ok (.ireturn, 1) := by decide +kernel
theorem dX6_kind_0 : decode cX6_kind 0 = .ok (.aload_n 0, 1) := by decide +kernel
theorem dX6_kind_1 : decode cX6_kind 1 = .ok (.getfield 32, 3) := by decide +kernel
theorem dX6_kind_4 : decode cX6_kind 4 = .ok (.iload_n 1, 1) := by decide +kernel
theorem dX6_kind_5 : decode cX6_kind 5 = .ok (.invokevirtual 159, 3) := by decide +kernel
theorem dX6_kind_8 : decode cX6_kind 8 = .ok (.ifCond .eq 15, 3) := by decide +kernel
theorem dX6_kind_11 : decode cX6_kind 11 = .ok (.aload_n 0, 1) := by decide +kernel
theorem dX6_kind_12 : decode cX6_kind 12 = .ok (.getfield 32, 3) := by decide +kernel
theorem dX6_kind_15 : decode cX6_kind 15 = .ok (.getfield 301, 3) := by decide +kernel
theorem dX6_kind_18 : decode cX6_kind 18 = .ok (.iload_n 1, 1) := by decide +kernel
theorem dX6_kind_19 : decode cX6_kind 19 = .ok (.iaload, 1) := by decide +kernel
theorem dX6_kind_20 : decode cX6_kind 20 = .ok (.goto 5, 3) := by decide +kernel
theorem dX6_kind_23 : decode cX6_kind 23 = .ok (.ldc 82, 2) := by decide +kernel
theorem dX6_kind_25 : decode cX6_kind 25 = .ok (.ireturn, 1) := by decide +kernel
theorem dX6_as_0 : decode cX6_as 0 = .ok (.aload_n 0, 1) := by decide +kernel
theorem dX6_as_1 : decode cX6_as 1 = .ok (.getfield 32, 3) := by decide +kernel
theorem dX6_as_4 : decode cX6_as 4 = .ok (.iload_n 1, 1) := by decide +kernel
theorem dX6_as_5 : decode cX6_as 5 = .ok (.invokevirtual 159, 3) := by decide +kernel
theorem dX6_as_8 : decode cX6_as 8 = .ok (.ifCond .eq 12, 3) := by decide +kernel
theorem dX6_as_11 : decode cX6_as 11 = .ok (.iload_n 2, 1) := by decide +kernel
theorem dX6_as_12 : decode cX6_as 12 = .ok (.bipush 6, 2) := by decide +kernel
theorem dX6_as_14 : decode cX6_as 14 = .ok (.invokestatic 78, 3) := by decide +kernel
theorem dX6_as_17 : decode cX6_as 17 = .ok (.ifCond .ne 6, 3) := by decide +kernel
theorem dX6_as_20 : decode cX6_as 20 = .ok (.ldc 82, 2) := by decide +kernel
theorem dX6_as_22 : decode cX6_as 22 = .ok (.ireturn, 1) := by decide +kernel
theorem dX6_as_23 : decode cX6_as 23 = .ok (.getstatic 304, 3) := by decide +kernel
theorem dX6_as_26 : decode cX6_as 26 = .ok (.aload_n 0, 1) := by decide +kernel
theorem dX6_as_27 : decode cX6_as 27 = .ok (.getfield 32, 3) := by decide +kernel
theorem dX6_as_30 : decode cX6_as 30 = .ok (.getfield 301, 3) := by decide +kernel
theorem dX6_as_33 : decode cX6_as 33 = .ok (.iload_n 1, 1) := by decide +kernel
theorem dX6_as_34 : decode cX6_as 34 = .ok (.iaload, 1) := by decide +kernel
theorem dX6_as_35 : decode cX6_as 35 = .ok (.iaload, 1) := by decide +kernel
theorem dX6_as_36 : decode cX6_as 36 = .ok (.iload_n 2, 1) := by decide +kernel
theorem dX6_as_37 : decode cX6_as 37 = .ok (.ishr, 1) := by decide +kernel
theorem dX6_as_38 : decode cX6_as 38 = .ok (.iconst 1, 1) := by decide +kernel
theorem dX6_as_39 : decode cX6_as 39 = .ok (.iand, 1) := by decide +kernel
theorem dX6_as_40 : decode cX6_as 40 = .ok (.ifCond .ne 9, 3) := by decide +kernel
theorem dX6_as_43 : decode cX6_as 43 = .ok (.aload_n 0, 1) := by decide +kernel
theorem dX6_as_44 : decode cX6_as 44 = .ok (.iconst 3, 1) := by decide +kernel
theorem dX6_as_45 : decode cX6_as 45 = .ok (.invokevirtual 83, 3) := by decide +kernel
theorem dX6_as_48 : decode cX6_as 48 = .ok (.ireturn, 1) := by decide +kernel
theorem dX6_as_49 : decode cX6_as 49 = .ok (.aload_n 0, 1) := by decide +kernel
theorem dX6_as_50 : decode cX6_as 50 = .ok (.iload_n 1, 1) := by decide +kernel
theorem dX6_as_51 : decode cX6_as 51 = .ok (.invokevirtual 91, 3) := by decide +kernel
theorem dX6_as_54 : decode cX6_as 54 = .ok (.ireturn, 1) := by decide +kernel
theorem dX6_ask_0 : decode cX6_ask 0 = .ok (.aload_n 0, 1) := by decide +kernel
theorem dX6_ask_1 : decode cX6_ask 1 = .ok (.getfield 32, 3) := by decide +kernel
theorem dX6_ask_4 : decode cX6_ask 4 = .ok (.iload_n 1, 1) := by decide +kernel
theorem dX6_ask_5 : decode cX6_ask 5 = .ok (.invokevirtual 159, 3) := by decide +kernel
theorem dX6_ask_8 : decode cX6_ask 8 = .ok (.ifCond .eq 11, 3) := by decide +kernel
theorem dX6_ask_11 : decode cX6_ask 11 = .ok (.iload_n 2, 1) := by decide +kernel
theorem dX6_ask_12 : decode cX6_ask 12 = .ok (.iconst 2, 1) := by decide +kernel
theorem dX6_ask_13 : decode cX6_ask 13 = .ok (.invokestatic 78, 3) := by decide +kernel
theorem dX6_ask_16 : decode cX6_ask 16 = .ok (.ifCond .ne 6, 3) := by decide +kernel
theorem dX6_ask_19 : decode cX6_ask 19 = .ok (.ldc 82, 2) := by decide +kernel
theorem dX6_ask_21 : decode cX6_ask 21 = .ok (.ireturn, 1) := by decide +kernel
theorem dX6_ask_22 : decode cX6_ask 22 = .ok (.aload_n 0, 1) := by decide +kernel
theorem dX6_ask_23 : decode cX6_ask 23 = .ok (.getfield 73, 3) := by decide +kernel
theorem dX6_ask_26 : decode cX6_ask 26 = .ok (.iload_n 1, 1) := by decide +kernel
theorem dX6_ask_27 : decode cX6_ask 27 = .ok (.aload_n 0, 1) := by decide +kernel
theorem dX6_ask_28 : decode cX6_ask 28 = .ok (.getfield 32, 3) := by decide +kernel
theorem dX6_ask_31 : decode cX6_ask 31 = .ok (.getfield 301, 3) := by decide +kernel
theorem dX6_ask_34 : decode cX6_ask 34 = .ok (.iload_n 1, 1) := by decide +kernel
theorem dX6_ask_35 : decode cX6_ask 35 = .ok (.iaload, 1) := by decide +kernel
theorem dX6_ask_36 : decode cX6_ask 36 = .ok (.aload_n 0, 1) := by decide +kernel
theorem dX6_ask_37 : decode cX6_ask 37 = .ok (.getfield 32, 3) := by decide +kernel
theorem dX6_ask_40 : decode cX6_ask 40 = .ok (.getfield 214, 3) := by decide +kernel
theorem dX6_ask_43 : decode cX6_ask 43 = .ok (.iload_n 1, 1) := by decide +kernel
theorem dX6_ask_44 : decode cX6_ask 44 = .ok (.iaload, 1) := by decide +kernel
theorem dX6_ask_45 : decode cX6_ask 45 = .ok (.aload_n 0, 1) := by decide +kernel
theorem dX6_ask_46 : decode cX6_ask 46 = .ok (.getfield 39, 3) := by decide +kernel
theorem dX6_ask_49 : decode cX6_ask 49 = .ok (.getfield 184, 3) := by decide +kernel
theorem dX6_ask_52 : decode cX6_ask 52 = .ok (.iload_n 1, 1) := by decide +kernel
theorem dX6_ask_53 : decode cX6_ask 53 = .ok (.iaload, 1) := by decide +kernel
theorem dX6_ask_54 : decode cX6_ask 54 = .ok (.invokevirtual 307, 3) := by decide +kernel
theorem dX6_ask_57 : decode cX6_ask 57 = .ok (.aload_n 0, 1) := by decide +kernel
theorem dX6_ask_58 : decode cX6_ask 58 = .ok (.getfield 73, 3) := by decide +kernel
theorem dX6_ask_61 : decode cX6_ask 61 = .ok (.iload_n 2, 1) := by decide +kernel
theorem dX6_ask_62 : decode cX6_ask 62 = .ok (.iconst 0, 1) := by decide +kernel
theorem dX6_ask_63 : decode cX6_ask 63 = .ok (.invokestatic 310, 3) := by decide +kernel
theorem dX6_ask_66 : decode cX6_ask 66 = .ok (.ireturn, 1) := by decide +kernel
theorem dX6_trace_0 : decode cX6_trace 0 = .ok (.iload_n 1, 1) := by decide +kernel
theorem dX6_trace_1 : decode cX6_trace 1 = .ok (.aload_n 0, 1) := by decide +kernel
theorem dX6_trace_2 : decode cX6_trace 2 = .ok (.getfield 73, 3) := by decide +kernel
theorem dX6_trace_5 : decode cX6_trace 5 = .ok (.getfield 314, 3) := by decide +kernel
theorem dX6_trace_8 : decode cX6_trace 8 = .ok (.invokestatic 78, 3) := by decide +kernel
theorem dX6_trace_11 : decode cX6_trace 11 = .ok (.ifCond .eq 15, 3) := by decide +kernel
theorem dX6_trace_14 : decode cX6_trace 14 = .ok (.aload_n 0, 1) := by decide +kernel
theorem dX6_trace_15 : decode cX6_trace 15 = .ok (.getfield 73, 3) := by decide +kernel
theorem dX6_trace_18 : decode cX6_trace 18 = .ok (.getfield 315, 3) := by decide +kernel
theorem dX6_trace_21 : decode cX6_trace 21 = .ok (.iload_n 1, 1) := by decide +kernel
theorem dX6_trace_22 : decode cX6_trace 22 = .ok (.iaload, 1) := by decide +kernel
theorem dX6_trace_23 : decode cX6_trace 23 = .ok (.goto 5, 3) := by decide +kernel
theorem dX6_trace_26 : decode cX6_trace 26 = .ok (.ldc 235, 2) := by decide +kernel
theorem dX6_trace_28 : decode cX6_trace 28 = .ok (.ireturn, 1) := by decide +kernel
theorem dX6_count_0 : decode cX6_count 0 = .ok (.iload_n 1, 1) := by decide +kernel
theorem dX6_count_1 : decode cX6_count 1 = .ok (.tableswitch 105 0 7 #[47, 52, 60, 68, 76, 84, 92, 97], 47) := by decide +kernel
theorem dX6_count_48 : decode cX6_count 48 = .ok (.aload_n 0, 1) := by decide +kernel
theorem dX6_count_49 : decode cX6_count 49 = .ok (.invokevirtual 318, 3) := by decide +kernel
theorem dX6_count_52 : decode cX6_count 52 = .ok (.ireturn, 1) := by decide +kernel
theorem dX6_count_53 : decode cX6_count 53 = .ok (.aload_n 0, 1) := by decide +kernel
theorem dX6_count_54 : decode cX6_count 54 = .ok (.getfield 32, 3) := by decide +kernel
theorem dX6_count_57 : decode cX6_count 57 = .ok (.getfield 152, 3) := by decide +kernel
theorem dX6_count_60 : decode cX6_count 60 = .ok (.ireturn, 1) := by decide +kernel
theorem dX6_count_61 : decode cX6_count 61 = .ok (.aload_n 0, 1) := by decide +kernel
theorem dX6_count_62 : decode cX6_count 62 = .ok (.getfield 32, 3) := by decide +kernel
theorem dX6_count_65 : decode cX6_count 65 = .ok (.getfield 321, 3) := by decide +kernel
theorem dX6_count_68 : decode cX6_count 68 = .ok (.ireturn, 1) := by decide +kernel
theorem dX6_count_69 : decode cX6_count 69 = .ok (.aload_n 0, 1) := by decide +kernel
theorem dX6_count_70 : decode cX6_count 70 = .ok (.getfield 32, 3) := by decide +kernel
theorem dX6_count_73 : decode cX6_count 73 = .ok (.getfield 265, 3) := by decide +kernel
theorem dX6_count_76 : decode cX6_count 76 = .ok (.ireturn, 1) := by decide +kernel
theorem dX6_count_77 : decode cX6_count 77 = .ok (.aload_n 0, 1) := by decide +kernel
theorem dX6_count_78 : decode cX6_count 78 = .ok (.getfield 39, 3) := by decide +kernel
theorem dX6_count_81 : decode cX6_count 81 = .ok (.getfield 168, 3) := by decide +kernel
theorem dX6_count_84 : decode cX6_count 84 = .ok (.ireturn, 1) := by decide +kernel
theorem dX6_count_85 : decode cX6_count 85 = .ok (.aload_n 0, 1) := by decide +kernel
theorem dX6_count_86 : decode cX6_count 86 = .ok (.getfield 39, 3) := by decide +kernel
theorem dX6_count_89 : decode cX6_count 89 = .ok (.invokevirtual 223, 3) := by decide +kernel
theorem dX6_count_92 : decode cX6_count 92 = .ok (.ireturn, 1) := by decide +kernel
theorem dX6_count_93 : decode cX6_count 93 = .ok (.aload_n 0, 1) := by decide +kernel
theorem dX6_count_94 : decode cX6_count 94 = .ok (.getfield 50, 3) := by decide +kernel
theorem dX6_count_97 : decode cX6_count 97 = .ok (.ireturn, 1) := by decide +kernel
theorem dX6_count_98 : decode cX6_count 98 = .ok (.aload_n 0, 1) := by decide +kernel
theorem dX6_count_99 : decode cX6_count 99 = .ok (.getfield 18, 3) := by decide +kernel
theorem dX6_count_102 : decode cX6_count 102 = .ok (.getfield 131, 3) := by decide +kernel
theorem dX6_count_105 : decode cX6_count 105 = .ok (.ireturn, 1) := by decide +kernel
theorem dX6_count_106 : decode cX6_count 106 = .ok (.ldc 82, 2) := by decide +kernel
theorem dX6_count_108 : decode cX6_count 108 = .ok (.ireturn, 1) := by decide +kernel
theorem dX6_status_0 : decode cX6_status 0 = .ok (.aload_n 0, 1) := by decide +kernel
theorem dX6_status_1 : decode cX6_status 1 = .ok (.getfield 26, 3) := by decide +kernel
theorem dX6_status_4 : decode cX6_status 4 = .ok (.ireturn, 1) := by decide +kernel
theorem dX6_isBelow_0 : decode cX6_isBelow 0 = .ok (.iload_n 0, 1) := by decide +kernel
theorem dX6_isBelow_1 : decode cX6_isBelow 1 = .ok (.ifCond .lt 12, 3) := by decide +kernel
theorem dX6_isBelow_4 : decode cX6_isBelow 4 = .ok (.iload_n 0, 1) := by decide +kernel
theorem dX6_isBelow_5 : decode cX6_isBelow 5 = .ok (.iload_n 1, 1) := by decide +kernel
theorem dX6_isBelow_6 : decode cX6_isBelow 6 = .ok (.if_icmp .ge 7, 3) := by decide +kernel
theorem dX6_isBelow_9 : decode cX6_isBelow 9 = .ok (.iconst 1, 1) := by decide +kernel
theorem dX6_isBelow_10 : decode cX6_isBelow 10 = .ok (.goto 4, 3) := by decide +kernel
theorem dX6_isBelow_13 : decode cX6_isBelow 13 = .ok (.iconst 0, 1) := by decide +kernel
theorem dX6_isBelow_14 : decode cX6_isBelow 14 = .ok (.ireturn, 1) := by decide +kernel
theorem dX6_isLines_0 : decode cX6_isLines 0 = .ok (.iload_n 0, 1) := by decide +kernel
theorem dX6_isLines_1 : decode cX6_isLines 1 = .ok (.iconst 1, 1) := by decide +kernel
theorem dX6_isLines_2 : decode cX6_isLines 2 = .ok (.if_icmp .lt 13, 3) := by decide +kernel
theorem dX6_isLines_5 : decode cX6_isLines 5 = .ok (.iload_n 0, 1) := by decide +kernel
theorem dX6_isLines_6 : decode cX6_isLines 6 = .ok (.bipush 30, 2) := by decide +kernel
theorem dX6_isLines_8 : decode cX6_isLines 8 = .ok (.if_icmp .gt 7, 3) := by decide +kernel
theorem dX6_isLines_11 : decode cX6_isLines 11 = .ok (.iconst 1, 1) := by decide +kernel
theorem dX6_isLines_12 : decode cX6_isLines 12 = .ok (.goto 4, 3) := by decide +kernel
theorem dX6_isLines_15 : decode cX6_isLines 15 = .ok (.iconst 0, 1) := by decide +kernel
theorem dX6_isLines_16 : decode cX6_isLines 16 = .ok (.ireturn, 1) := by decide +kernel
theorem dX6_found_0 : decode cX6_found 0 = .ok (.aload_n 0, 1) := by decide +kernel
theorem dX6_found_1 : decode cX6_found 1 = .ok (.iload_n 1, 1) := by decide +kernel
theorem dX6_found_2 : decode cX6_found 2 = .ok (.putfield 26, 3) := by decide +kernel
theorem dX6_found_5 : decode cX6_found 5 = .ok (.ldc_w 324, 3) := by decide +kernel
theorem dX6_found_8 : decode cX6_found 8 = .ok (.iload_n 1, 1) := by decide +kernel
theorem dX6_found_9 : decode cX6_found 9 = .ok (.isub, 1) := by decide +kernel
theorem dX6_found_10 : decode cX6_found 10 = .ok (.ireturn, 1) := by decide +kernel
theorem dX6_foundNone_0 : decode cX6_foundNone 0 = .ok (.aload_n 0, 1) := by decide +kernel
theorem dX6_foundNone_1 : decode cX6_foundNone 1 = .ok (.iconst 0, 1) := by decide +kernel
theorem dX6_foundNone_2 : decode cX6_foundNone 2 = .ok (.putfield 26, 3) := by decide +kernel
theorem dX6_foundNone_5 : decode cX6_foundNone 5 = .ok (.iload_n 1, 1) := by decide +kernel
theorem dX6_foundNone_6 : decode cX6_foundNone 6 = .ok (.ireturn, 1) := by decide +kernel
theorem dX6_hasCastle_0 : decode cX6_hasCastle 0 = .ok (.aload_n 0, 1) := by decide +kernel
theorem dX6_hasCastle_1 : decode cX6_hasCastle 1 = .ok (.getfield 32, 3) := by decide +kernel
theorem dX6_hasCastle_4 : decode cX6_hasCastle 4 = .ok (.getfield 152, 3) := by decide +kernel
theorem dX6_hasCastle_7 : decode cX6_hasCastle 7 = .ok (.ifCond .le 7, 3) := by decide +kernel
theorem dX6_hasCastle_10 : decode cX6_hasCastle 10 = .ok (.iconst 1, 1) := by decide +kernel
theorem dX6_hasCastle_11 : decode cX6_hasCastle 11 = .ok (.goto 4, 3) := by decide +kernel
theorem dX6_hasCastle_14 : decode cX6_hasCastle 14 = .ok (.iconst 0, 1) := by decide +kernel
theorem dX6_hasCastle_15 : decode cX6_hasCastle 15 = .ok (.ireturn, 1) := by decide +kernel
theorem dX6_rowsThere_0 : decode cX6_rowsThere 0 = .ok (.iconst 0, 1) := by decide +kernel
theorem dX6_rowsThere_1 : decode cX6_rowsThere 1 = .ok (.istore_n 1, 1) := by decide +kernel
theorem dX6_rowsThere_2 : decode cX6_rowsThere 2 = .ok (.iconst 0, 1) := by decide +kernel
theorem dX6_rowsThere_3 : decode cX6_rowsThere 3 = .ok (.istore_n 2, 1) := by decide +kernel
theorem dX6_rowsThere_4 : decode cX6_rowsThere 4 = .ok (.iload_n 2, 1) := by decide +kernel
theorem dX6_rowsThere_5 : decode cX6_rowsThere 5 = .ok (.bipush 8, 2) := by decide +kernel
theorem dX6_rowsThere_7 : decode cX6_rowsThere 7 = .ok (.if_icmp .ge 24, 3) := by decide +kernel
theorem dX6_rowsThere_10 : decode cX6_rowsThere 10 = .ok (.aload_n 0, 1) := by decide +kernel
theorem dX6_rowsThere_11 : decode cX6_rowsThere 11 = .ok (.getfield 11, 3) := by decide +kernel
theorem dX6_rowsThere_14 : decode cX6_rowsThere 14 = .ok (.iload_n 2, 1) := by decide +kernel
theorem dX6_rowsThere_15 : decode cX6_rowsThere 15 = .ok (.aaload, 1) := by decide +kernel
theorem dX6_rowsThere_16 : decode cX6_rowsThere 16 = .ok (.invokevirtual 105, 3) := by decide +kernel
theorem dX6_rowsThere_19 : decode cX6_rowsThere 19 = .ok (.ifCond .ne 6, 3) := by decide +kernel
theorem dX6_rowsThere_22 : decode cX6_rowsThere 22 = .ok (.iinc 1 1, 3) := by decide +kernel
theorem dX6_rowsThere_25 : decode cX6_rowsThere 25 = .ok (.iinc 2 1, 3) := by decide +kernel
theorem dX6_rowsThere_28 : decode cX6_rowsThere 28 = .ok (.goto (-24), 3) := by decide +kernel
theorem dX6_rowsThere_31 : decode cX6_rowsThere 31 = .ok (.iload_n 1, 1) := by decide +kernel
theorem dX6_rowsThere_32 : decode cX6_rowsThere 32 = .ok (.ireturn, 1) := by decide +kernel
theorem dX6_beginAct_0 : decode cX6_beginAct 0 = .ok (.aload_n 0, 1) := by decide +kernel
theorem dX6_beginAct_1 : decode cX6_beginAct 1 = .ok (.getfield 43, 3) := by decide +kernel
theorem dX6_beginAct_4 : decode cX6_beginAct 4 = .ok (.aload_n 0, 1) := by decide +kernel
theorem dX6_beginAct_5 : decode cX6_beginAct 5 = .ok (.getfield 47, 3) := by decide +kernel
theorem dX6_beginAct_8 : decode cX6_beginAct 8 = .ok (.aaload, 1) := by decide +kernel
theorem dX6_beginAct_9 : decode cX6_beginAct 9 = .ok (.aload_n 0, 1) := by decide +kernel
theorem dX6_beginAct_10 : decode cX6_beginAct 10 = .ok (.getfield 39, 3) := by decide +kernel
theorem dX6_beginAct_13 : decode cX6_beginAct 13 = .ok (.invokevirtual 156, 3) := by decide +kernel
theorem dX6_beginAct_16 : decode cX6_beginAct 16 = .ok (.aload_n 0, 1) := by decide +kernel
theorem dX6_beginAct_17 : decode cX6_beginAct 17 = .ok (.aload_n 0, 1) := by decide +kernel
theorem dX6_beginAct_18 : decode cX6_beginAct 18 = .ok (.getfield 47, 3) := by decide +kernel
theorem dX6_beginAct_21 : decode cX6_beginAct 21 = .ok (.bipush 23, 2) := by decide +kernel
theorem dX6_beginAct_23 : decode cX6_beginAct 23 = .ok (.if_icmp .ne 7, 3) := by decide +kernel
theorem dX6_beginAct_26 : decode cX6_beginAct 26 = .ok (.iconst 0, 1) := by decide +kernel
theorem dX6_beginAct_27 : decode cX6_beginAct 27 = .ok (.goto 9, 3) := by decide +kernel
theorem dX6_beginAct_30 : decode cX6_beginAct 30 = .ok (.aload_n 0, 1) := by decide +kernel
theorem dX6_beginAct_31 : decode cX6_beginAct 31 = .ok (.getfield 47, 3) := by decide +kernel
theorem dX6_beginAct_34 : decode cX6_beginAct 34 = .ok (.iconst 1, 1) := by decide +kernel
theorem dX6_beginAct_35 : decode cX6_beginAct 35 = .ok (.iadd, 1) := by decide +kernel
theorem dX6_beginAct_36 : decode cX6_beginAct 36 = .ok (.putfield 47, 3) := by decide +kernel
theorem dX6_beginAct_39 : decode cX6_beginAct 39 = .ok (.aload_n 0, 1) := by decide +kernel
theorem dX6_beginAct_40 : decode cX6_beginAct 40 = .ok (.bipush 24, 2) := by decide +kernel
theorem dX6_beginAct_42 : decode cX6_beginAct 42 = .ok (.aload_n 0, 1) := by decide +kernel
theorem dX6_beginAct_43 : decode cX6_beginAct 43 = .ok (.getfield 50, 3) := by decide +kernel
theorem dX6_beginAct_46 : decode cX6_beginAct 46 = .ok (.iconst 1, 1) := by decide +kernel
theorem dX6_beginAct_47 : decode cX6_beginAct 47 = .ok (.iadd, 1) := by decide +kernel
theorem dX6_beginAct_48 : decode cX6_beginAct 48 = .ok (.invokestatic 193, 3) := by decide +kernel
theorem dX6_beginAct_51 : decode cX6_beginAct 51 = .ok (.putfield 50, 3) := by decide +kernel
theorem dX6_beginAct_54 : decode cX6_beginAct 54 = .ok (.return_, 1) := by decide +kernel
theorem dX6_standingNow_0 : decode cX6_standingNow 0 = .ok (.aload_n 0, 1) := by decide +kernel
theorem dX6_standingNow_1 : decode cX6_standingNow 1 = .ok (.getfield 32, 3) := by decide +kernel
theorem dX6_standingNow_4 : decode cX6_standingNow 4 = .ok (.aload_n 0, 1) := by decide +kernel
theorem dX6_standingNow_5 : decode cX6_standingNow 5 = .ok (.getfield 39, 3) := by decide +kernel
theorem dX6_standingNow_8 : decode cX6_standingNow 8 = .ok (.invokevirtual 217, 3) := by decide +kernel
theorem dX6_standingNow_11 : decode cX6_standingNow 11 = .ok (.invokevirtual 232, 3) := by decide +kernel
theorem dX6_standingNow_14 : decode cX6_standingNow 14 = .ok (.ireturn, 1) := by decide +kernel
theorem dX6_fallingWithout_0 : decode cX6_fallingWithout 0 = .ok (.aload_n 0, 1) := by decide +kernel
theorem dX6_fallingWithout_1 : decode cX6_fallingWithout 1 = .ok (.getfield 39, 3) := by decide +kernel
theorem dX6_fallingWithout_4 : decode cX6_fallingWithout 4 = .ok (.invokevirtual 217, 3) := by decide +kernel
theorem dX6_fallingWithout_7 : decode cX6_fallingWithout 7 = .ok (.istore_n 2, 1) := by decide +kernel
theorem dX6_fallingWithout_8 : decode cX6_fallingWithout 8 = .ok (.aload_n 0, 1) := by decide +kernel
theorem dX6_fallingWithout_9 : decode cX6_fallingWithout 9 = .ok (.getfield 32, 3) := by decide +kernel
theorem dX6_fallingWithout_12 : decode cX6_fallingWithout 12 = .ok (.iload_n 2, 1) := by decide +kernel
theorem dX6_fallingWithout_13 : decode cX6_fallingWithout 13 = .ok (.invokevirtual 232, 3) := by decide +kernel
theorem dX6_fallingWithout_16 : decode cX6_fallingWithout 16 = .ok (.aload_n 0, 1) := by decide +kernel
theorem dX6_fallingWithout_17 : decode cX6_fallingWithout 17 = .ok (.getfield 32, 3) := by decide +kernel
theorem dX6_fallingWithout_20 : decode cX6_fallingWithout 20 = .ok (.iload_n 2, 1) := by decide +kernel
theorem dX6_fallingWithout_21 : decode cX6_fallingWithout 21 = .ok (.iload_n 1, 1) := by decide +kernel
theorem dX6_fallingWithout_22 : decode cX6_fallingWithout 22 = .ok (.iconst (-1), 1) := by decide +kernel
theorem dX6_fallingWithout_23 : decode cX6_fallingWithout 23 = .ok (.ixor, 1) := by decide +kernel
theorem dX6_fallingWithout_24 : decode cX6_fallingWithout 24 = .ok (.iand, 1) := by decide +kernel
theorem dX6_fallingWithout_25 : decode cX6_fallingWithout 25 = .ok (.invokevirtual 232, 3) := by decide +kernel
theorem dX6_fallingWithout_28 : decode cX6_fallingWithout 28 = .ok (.iconst (-1), 1) := by decide +kernel
theorem dX6_fallingWithout_29 : decode cX6_fallingWithout 29 = .ok (.ixor, 1) := by decide +kernel
theorem dX6_fallingWithout_30 : decode cX6_fallingWithout 30 = .ok (.iand, 1) := by decide +kernel
theorem dX6_fallingWithout_31 : decode cX6_fallingWithout 31 = .ok (.ireturn, 1) := by decide +kernel
theorem dX6_tellsWritings_0 : decode cX6_tellsWritings 0 = .ok (.iconst 0, 1) := by decide +kernel
theorem dX6_tellsWritings_1 : decode cX6_tellsWritings 1 = .ok (.istore 4, 2) := by decide +kernel
theorem dX6_tellsWritings_3 : decode cX6_tellsWritings 3 = .ok (.iload 4, 2) := by decide +kernel
theorem dX6_tellsWritings_5 : decode cX6_tellsWritings 5 = .ok (.iload_n 3, 1) := by decide +kernel
theorem dX6_tellsWritings_6 : decode cX6_tellsWritings 6 = .ok (.if_icmp .ge 45, 3) := by decide +kernel
theorem dX6_tellsWritings_9 : decode cX6_tellsWritings 9 = .ok (.aload_n 0, 1) := by decide +kernel
theorem dX6_tellsWritings_10 : decode cX6_tellsWritings 10 = .ok (.getfield 32, 3) := by decide +kernel
theorem dX6_tellsWritings_13 : decode cX6_tellsWritings 13 = .ok (.aload_n 1, 1) := by decide +kernel
theorem dX6_tellsWritings_14 : decode cX6_tellsWritings 14 = .ok (.iload_n 2, 1) := by decide +kernel
theorem dX6_tellsWritings_15 : decode cX6_tellsWritings 15 = .ok (.iconst 2, 1) := by decide +kernel
theorem dX6_tellsWritings_16 : decode cX6_tellsWritings 16 = .ok (.iload 4, 2) := by decide +kernel
theorem dX6_tellsWritings_18 : decode cX6_tellsWritings 18 = .ok (.imul, 1) := by decide +kernel
theorem dX6_tellsWritings_19 : decode cX6_tellsWritings 19 = .ok (.iadd, 1) := by decide +kernel
theorem dX6_tellsWritings_20 : decode cX6_tellsWritings 20 = .ok (.iaload, 1) := by decide +kernel
theorem dX6_tellsWritings_21 : decode cX6_tellsWritings 21 = .ok (.invokevirtual 159, 3) := by decide +kernel
theorem dX6_tellsWritings_24 : decode cX6_tellsWritings 24 = .ok (.ifCond .eq 19, 3) := by decide +kernel
theorem dX6_tellsWritings_27 : decode cX6_tellsWritings 27 = .ok (.aload_n 1, 1) := by decide +kernel
theorem dX6_tellsWritings_28 : decode cX6_tellsWritings 28 = .ok (.iload_n 2, 1) := by decide +kernel
theorem dX6_tellsWritings_29 : decode cX6_tellsWritings 29 = .ok (.iconst 2, 1) := by decide +kernel
theorem dX6_tellsWritings_30 : decode cX6_tellsWritings 30 = .ok (.iload 4, 2) := by decide +kernel
theorem dX6_tellsWritings_32 : decode cX6_tellsWritings 32 = .ok (.imul, 1) := by decide +kernel
theorem dX6_tellsWritings_33 : decode cX6_tellsWritings 33 = .ok (.iadd, 1) := by decide +kernel
theorem dX6_tellsWritings_34 : decode cX6_tellsWritings 34 = .ok (.iconst 1, 1) := by decide +kernel
theorem dX6_tellsWritings_35 : decode cX6_tellsWritings 35 = .ok (.iadd, 1) := by decide +kernel
theorem dX6_tellsWritings_36 : decode cX6_tellsWritings 36 = .ok (.iaload, 1) := by decide +kernel
theorem dX6_tellsWritings_37 : decode cX6_tellsWritings 37 = .ok (.invokestatic 162, 3) := by decide +kernel
theorem dX6_tellsWritings_40 : decode cX6_tellsWritings 40 = .ok (.ifCond .ne 5, 3) := by decide +kernel
theorem dX6_tellsWritings_43 : decode cX6_tellsWritings 43 = .ok (.iconst 0, 1) := by decide +kernel
theorem dX6_tellsWritings_44 : decode cX6_tellsWritings 44 = .ok (.ireturn, 1) := by decide +kernel
theorem dX6_tellsWritings_45 : decode cX6_tellsWritings 45 = .ok (.iinc 4 1, 3) := by decide +kernel
theorem dX6_tellsWritings_48 : decode cX6_tellsWritings 48 = .ok (.goto (-45), 3) := by decide +kernel
theorem dX6_tellsWritings_51 : decode cX6_tellsWritings 51 = .ok (.iconst 1, 1) := by decide +kernel
theorem dX6_tellsWritings_52 : decode cX6_tellsWritings 52 = .ok (.ireturn, 1) := by decide +kernel
theorem dX6_tryBlocks_0 : decode cX6_tryBlocks 0 = .ok (.aload_n 0, 1) := by decide +kernel
theorem dX6_tryBlocks_1 : decode cX6_tryBlocks 1 = .ok (.aload_n 1, 1) := by decide +kernel
theorem dX6_tryBlocks_2 : decode cX6_tryBlocks 2 = .ok (.getfield 325, 3) := by decide +kernel
theorem dX6_tryBlocks_5 : decode cX6_tryBlocks 5 = .ok (.invokevirtual 217, 3) := by decide +kernel
theorem dX6_tryBlocks_8 : decode cX6_tryBlocks 8 = .ok (.invokevirtual 232, 3) := by decide +kernel
theorem dX6_tryBlocks_11 : decode cX6_tryBlocks 11 = .ok (.invokestatic 236, 3) := by decide +kernel
theorem dX6_tryBlocks_14 : decode cX6_tryBlocks 14 = .ok (.istore_n 3, 1) := by decide +kernel
theorem dX6_tryBlocks_15 : decode cX6_tryBlocks 15 = .ok (.iload_n 3, 1) := by decide +kernel
theorem dX6_tryBlocks_16 : decode cX6_tryBlocks 16 = .ok (.aload_n 1, 1) := by decide +kernel
theorem dX6_tryBlocks_17 : decode cX6_tryBlocks 17 = .ok (.getfield 255, 3) := by decide +kernel
theorem dX6_tryBlocks_20 : decode cX6_tryBlocks 20 = .ok (.if_icmp .gt 4, 3) := by decide +kernel
theorem dX6_tryBlocks_23 : decode cX6_tryBlocks 23 = .ok (.return_, 1) := by decide +kernel
theorem dX6_tryBlocks_24 : decode cX6_tryBlocks 24 = .ok (.iload_n 2, 1) := by decide +kernel
theorem dX6_tryBlocks_25 : decode cX6_tryBlocks 25 = .ok (.aload_n 1, 1) := by decide +kernel
theorem dX6_tryBlocks_26 : decode cX6_tryBlocks 26 = .ok (.getfield 328, 3) := by decide +kernel
theorem dX6_tryBlocks_29 : decode cX6_tryBlocks 29 = .ok (.if_icmp .lt 9, 3) := by decide +kernel
theorem dX6_tryBlocks_32 : decode cX6_tryBlocks 32 = .ok (.aload_n 1, 1) := by decide +kernel
theorem dX6_tryBlocks_33 : decode cX6_tryBlocks 33 = .ok (.iload_n 3, 1) := by decide +kernel
theorem dX6_tryBlocks_34 : decode cX6_tryBlocks 34 = .ok (.invokevirtual 331, 3) := by decide +kernel
theorem dX6_tryBlocks_37 : decode cX6_tryBlocks 37 = .ok (.return_, 1) := by decide +kernel
theorem dX6_tryBlocks_38 : decode cX6_tryBlocks 38 = .ok (.aload_n 1, 1) := by decide +kernel
theorem dX6_tryBlocks_39 : decode cX6_tryBlocks 39 = .ok (.getfield 248, 3) := by decide +kernel
theorem dX6_tryBlocks_42 : decode cX6_tryBlocks 42 = .ok (.iload_n 2, 1) := by decide +kernel
theorem dX6_tryBlocks_43 : decode cX6_tryBlocks 43 = .ok (.iaload, 1) := by decide +kernel
theorem dX6_tryBlocks_44 : decode cX6_tryBlocks 44 = .ok (.istore 4, 2) := by decide +kernel
theorem dX6_tryBlocks_46 : decode cX6_tryBlocks 46 = .ok (.aload_n 1, 1) := by decide +kernel
theorem dX6_tryBlocks_47 : decode cX6_tryBlocks 47 = .ok (.getfield 325, 3) := by decide +kernel
theorem dX6_tryBlocks_50 : decode cX6_tryBlocks 50 = .ok (.getfield 175, 3) := by decide +kernel
theorem dX6_tryBlocks_53 : decode cX6_tryBlocks 53 = .ok (.astore 5, 2) := by decide +kernel
theorem dX6_tryBlocks_55 : decode cX6_tryBlocks 55 = .ok (.iconst 0, 1) := by decide +kernel
theorem dX6_tryBlocks_56 : decode cX6_tryBlocks 56 = .ok (.istore 6, 2) := by decide +kernel
theorem dX6_tryBlocks_58 : decode cX6_tryBlocks 58 = .ok (.iload 6, 2) := by decide +kernel
theorem dX6_tryBlocks_60 : decode cX6_tryBlocks 60 = .ok (.aload_n 0, 1) := by decide +kernel
theorem dX6_tryBlocks_61 : decode cX6_tryBlocks 61 = .ok (.getfield 152, 3) := by decide +kernel
theorem dX6_tryBlocks_64 : decode cX6_tryBlocks 64 = .ok (.if_icmp .ge 55, 3) := by decide +kernel
theorem dX6_tryBlocks_67 : decode cX6_tryBlocks 67 = .ok (.aload 5, 2) := by decide +kernel
theorem dX6_tryBlocks_69 : decode cX6_tryBlocks 69 = .ok (.iload 6, 2) := by decide +kernel
theorem dX6_tryBlocks_71 : decode cX6_tryBlocks 71 = .ok (.iaload, 1) := by decide +kernel
theorem dX6_tryBlocks_72 : decode cX6_tryBlocks 72 = .ok (.iload 4, 2) := by decide +kernel
theorem dX6_tryBlocks_74 : decode cX6_tryBlocks 74 = .ok (.if_icmp .lt 39, 3) := by decide +kernel
theorem dX6_tryBlocks_77 : decode cX6_tryBlocks 77 = .ok (.aload 5, 2) := by decide +kernel
theorem dX6_tryBlocks_79 : decode cX6_tryBlocks 79 = .ok (.iload 6, 2) := by decide +kernel
theorem dX6_tryBlocks_81 : decode cX6_tryBlocks 81 = .ok (.dup2, 1) := by decide +kernel
theorem dX6_tryBlocks_82 : decode cX6_tryBlocks 82 = .ok (.iaload, 1) := by decide +kernel
theorem dX6_tryBlocks_83 : decode cX6_tryBlocks 83 = .ok (.iload 4, 2) := by decide +kernel
theorem dX6_tryBlocks_85 : decode cX6_tryBlocks 85 = .ok (.isub, 1) := by decide +kernel
theorem dX6_tryBlocks_86 : decode cX6_tryBlocks 86 = .ok (.iastore, 1) := by decide +kernel
theorem dX6_tryBlocks_87 : decode cX6_tryBlocks 87 = .ok (.aload_n 1, 1) := by decide +kernel
theorem dX6_tryBlocks_88 : decode cX6_tryBlocks 88 = .ok (.getfield 335, 3) := by decide +kernel
theorem dX6_tryBlocks_91 : decode cX6_tryBlocks 91 = .ok (.iload_n 2, 1) := by decide +kernel
theorem dX6_tryBlocks_92 : decode cX6_tryBlocks 92 = .ok (.iload 6, 2) := by decide +kernel
theorem dX6_tryBlocks_94 : decode cX6_tryBlocks 94 = .ok (.iastore, 1) := by decide +kernel
theorem dX6_tryBlocks_95 : decode cX6_tryBlocks 95 = .ok (.aload_n 0, 1) := by decide +kernel
theorem dX6_tryBlocks_96 : decode cX6_tryBlocks 96 = .ok (.aload_n 1, 1) := by decide +kernel
theorem dX6_tryBlocks_97 : decode cX6_tryBlocks 97 = .ok (.iload_n 2, 1) := by decide +kernel
theorem dX6_tryBlocks_98 : decode cX6_tryBlocks 98 = .ok (.iconst 1, 1) := by decide +kernel
theorem dX6_tryBlocks_99 : decode cX6_tryBlocks 99 = .ok (.iadd, 1) := by decide +kernel
theorem dX6_tryBlocks_100 : decode cX6_tryBlocks 100 = .ok (.invokestatic 251, 3) := by decide +kernel
theorem dX6_tryBlocks_103 : decode cX6_tryBlocks 103 = .ok (.aload 5, 2) := by decide +kernel
theorem dX6_tryBlocks_105 : decode cX6_tryBlocks 105 = .ok (.iload 6, 2) := by decide +kernel
theorem dX6_tryBlocks_107 : decode cX6_tryBlocks 107 = .ok (.dup2, 1) := by decide +kernel
theorem dX6_tryBlocks_108 : decode cX6_tryBlocks 108 = .ok (.iaload, 1) := by decide +kernel
theorem dX6_tryBlocks_109 : decode cX6_tryBlocks 109 = .ok (.iload 4, 2) := by decide +kernel
theorem dX6_tryBlocks_111 : decode cX6_tryBlocks 111 = .ok (.iadd, 1) := by decide +kernel
theorem dX6_tryBlocks_112 : decode cX6_tryBlocks 112 = .ok (.iastore, 1) := by decide +kernel
theorem dX6_tryBlocks_113 : decode cX6_tryBlocks 113 = .ok (.iinc 6 1, 3) := by decide +kernel
theorem dX6_tryBlocks_116 : decode cX6_tryBlocks 116 = .ok (.goto (-58), 3) := by decide +kernel
theorem dX6_tryBlocks_119 : decode cX6_tryBlocks 119 = .ok (.return_, 1) := by decide +kernel
theorem dX6_onlyLessened_0 : decode cX6_onlyLessened 0 = .ok (.iconst (-1), 1) := by decide +kernel
theorem dX6_onlyLessened_1 : decode cX6_onlyLessened 1 = .ok (.istore_n 3, 1) := by decide +kernel
theorem dX6_onlyLessened_2 : decode cX6_onlyLessened 2 = .ok (.iconst 0, 1) := by decide +kernel
theorem dX6_onlyLessened_3 : decode cX6_onlyLessened 3 = .ok (.istore 4, 2) := by decide +kernel
theorem dX6_onlyLessened_5 : decode cX6_onlyLessened 5 = .ok (.iload 4, 2) := by decide +kernel
theorem dX6_onlyLessened_7 : decode cX6_onlyLessened 7 = .ok (.aload_n 0, 1) := by decide +kernel
theorem dX6_onlyLessened_8 : decode cX6_onlyLessened 8 = .ok (.getfield 32, 3) := by decide +kernel
theorem dX6_onlyLessened_11 : decode cX6_onlyLessened 11 = .ok (.getfield 152, 3) := by decide +kernel
theorem dX6_onlyLessened_14 : decode cX6_onlyLessened 14 = .ok (.if_icmp .ge 64, 3) := by decide +kernel
theorem dX6_onlyLessened_17 : decode cX6_onlyLessened 17 = .ok (.aload_n 1, 1) := by decide +kernel
theorem dX6_onlyLessened_18 : decode cX6_onlyLessened 18 = .ok (.iload_n 2, 1) := by decide +kernel
theorem dX6_onlyLessened_19 : decode cX6_onlyLessened 19 = .ok (.iload 4, 2) := by decide +kernel
theorem dX6_onlyLessened_21 : decode cX6_onlyLessened 21 = .ok (.iadd, 1) := by decide +kernel
theorem dX6_onlyLessened_22 : decode cX6_onlyLessened 22 = .ok (.iaload, 1) := by decide +kernel
theorem dX6_onlyLessened_23 : decode cX6_onlyLessened 23 = .ok (.istore 5, 2) := by decide +kernel
theorem dX6_onlyLessened_25 : decode cX6_onlyLessened 25 = .ok (.iload 5, 2) := by decide +kernel
theorem dX6_onlyLessened_27 : decode cX6_onlyLessened 27 = .ok (.aload_n 0, 1) := by decide +kernel
theorem dX6_onlyLessened_28 : decode cX6_onlyLessened 28 = .ok (.getfield 39, 3) := by decide +kernel
theorem dX6_onlyLessened_31 : decode cX6_onlyLessened 31 = .ok (.getfield 175, 3) := by decide +kernel
theorem dX6_onlyLessened_34 : decode cX6_onlyLessened 34 = .ok (.iload 4, 2) := by decide +kernel
theorem dX6_onlyLessened_36 : decode cX6_onlyLessened 36 = .ok (.iaload, 1) := by decide +kernel
theorem dX6_onlyLessened_37 : decode cX6_onlyLessened 37 = .ok (.if_icmp .ne 6, 3) := by decide +kernel
theorem dX6_onlyLessened_40 : decode cX6_onlyLessened 40 = .ok (.goto 32, 3) := by decide +kernel
theorem dX6_onlyLessened_43 : decode cX6_onlyLessened 43 = .ok (.iload_n 3, 1) := by decide +kernel
theorem dX6_onlyLessened_44 : decode cX6_onlyLessened 44 = .ok (.ifCond .ge 23, 3) := by decide +kernel
theorem dX6_onlyLessened_47 : decode cX6_onlyLessened 47 = .ok (.iload 5, 2) := by decide +kernel
theorem dX6_onlyLessened_49 : decode cX6_onlyLessened 49 = .ok (.ifCond .lt 18, 3) := by decide +kernel
theorem dX6_onlyLessened_52 : decode cX6_onlyLessened 52 = .ok (.iload 5, 2) := by decide +kernel
theorem dX6_onlyLessened_54 : decode cX6_onlyLessened 54 = .ok (.aload_n 0, 1) := by decide +kernel
theorem dX6_onlyLessened_55 : decode cX6_onlyLessened 55 = .ok (.getfield 39, 3) := by decide +kernel
theorem dX6_onlyLessened_58 : decode cX6_onlyLessened 58 = .ok (.getfield 175, 3) := by decide +kernel
theorem dX6_onlyLessened_61 : decode cX6_onlyLessened 61 = .ok (.iload 4, 2) := by decide +kernel
theorem dX6_onlyLessened_63 : decode cX6_onlyLessened 63 = .ok (.iaload, 1) := by decide +kernel
theorem dX6_onlyLessened_64 : decode cX6_onlyLessened 64 = .ok (.if_icmp .le 5, 3) := by decide +kernel
theorem dX6_onlyLessened_67 : decode cX6_onlyLessened 67 = .ok (.iconst (-1), 1) := by decide +kernel
theorem dX6_onlyLessened_68 : decode cX6_onlyLessened 68 = .ok (.ireturn, 1) := by decide +kernel
theorem dX6_onlyLessened_69 : decode cX6_onlyLessened 69 = .ok (.iload 4, 2) := by decide +kernel
theorem dX6_onlyLessened_71 : decode cX6_onlyLessened 71 = .ok (.istore_n 3, 1) := by decide +kernel
theorem dX6_onlyLessened_72 : decode cX6_onlyLessened 72 = .ok (.iinc 4 1, 3) := by decide +kernel
theorem dX6_onlyLessened_75 : decode cX6_onlyLessened 75 = .ok (.goto (-70), 3) := by decide +kernel
theorem dX6_onlyLessened_78 : decode cX6_onlyLessened 78 = .ok (.iload_n 3, 1) := by decide +kernel
theorem dX6_onlyLessened_79 : decode cX6_onlyLessened 79 = .ok (.ireturn, 1) := by decide +kernel
theorem dX6_fitsKind_0 : decode cX6_fitsKind 0 = .ok (.iconst 0, 1) := by decide +kernel
theorem dX6_fitsKind_1 : decode cX6_fitsKind 1 = .ok (.istore 6, 2) := by decide +kernel
theorem dX6_fitsKind_3 : decode cX6_fitsKind 3 = .ok (.iload 6, 2) := by decide +kernel
theorem dX6_fitsKind_5 : decode cX6_fitsKind 5 = .ok (.iload 5, 2) := by decide +kernel
theorem dX6_fitsKind_7 : decode cX6_fitsKind 7 = .ok (.if_icmp .ge 46, 3) := by decide +kernel
theorem dX6_fitsKind_10 : decode cX6_fitsKind 10 = .ok (.iload_n 1, 1) := by decide +kernel
theorem dX6_fitsKind_11 : decode cX6_fitsKind 11 = .ok (.iload_n 2, 1) := by decide +kernel
theorem dX6_fitsKind_12 : decode cX6_fitsKind 12 = .ok (.aload_n 3, 1) := by decide +kernel
theorem dX6_fitsKind_13 : decode cX6_fitsKind 13 = .ok (.iload 4, 2) := by decide +kernel
theorem dX6_fitsKind_15 : decode cX6_fitsKind 15 = .ok (.iconst 2, 1) := by decide +kernel
theorem dX6_fitsKind_16 : decode cX6_fitsKind 16 = .ok (.iload 6, 2) := by decide +kernel
theorem dX6_fitsKind_18 : decode cX6_fitsKind 18 = .ok (.imul, 1) := by decide +kernel
theorem dX6_fitsKind_19 : decode cX6_fitsKind 19 = .ok (.iadd, 1) := by decide +kernel
theorem dX6_fitsKind_20 : decode cX6_fitsKind 20 = .ok (.iaload, 1) := by decide +kernel
theorem dX6_fitsKind_21 : decode cX6_fitsKind 21 = .ok (.aload_n 0, 1) := by decide +kernel
theorem dX6_fitsKind_22 : decode cX6_fitsKind 22 = .ok (.getfield 39, 3) := by decide +kernel
theorem dX6_fitsKind_25 : decode cX6_fitsKind 25 = .ok (.getfield 168, 3) := by decide +kernel
theorem dX6_fitsKind_28 : decode cX6_fitsKind 28 = .ok (.invokestatic 338, 3) := by decide +kernel
theorem dX6_fitsKind_31 : decode cX6_fitsKind 31 = .ok (.aload_n 3, 1) := by decide +kernel
theorem dX6_fitsKind_32 : decode cX6_fitsKind 32 = .ok (.iload 4, 2) := by decide +kernel
theorem dX6_fitsKind_34 : decode cX6_fitsKind 34 = .ok (.iconst 2, 1) := by decide +kernel
theorem dX6_fitsKind_35 : decode cX6_fitsKind 35 = .ok (.iload 6, 2) := by decide +kernel
theorem dX6_fitsKind_37 : decode cX6_fitsKind 37 = .ok (.imul, 1) := by decide +kernel
theorem dX6_fitsKind_38 : decode cX6_fitsKind 38 = .ok (.iadd, 1) := by decide +kernel
theorem dX6_fitsKind_39 : decode cX6_fitsKind 39 = .ok (.iconst 1, 1) := by decide +kernel
theorem dX6_fitsKind_40 : decode cX6_fitsKind 40 = .ok (.iadd, 1) := by decide +kernel
theorem dX6_fitsKind_41 : decode cX6_fitsKind 41 = .ok (.iaload, 1) := by decide +kernel
theorem dX6_fitsKind_42 : decode cX6_fitsKind 42 = .ok (.if_icmp .eq 5, 3) := by decide +kernel
theorem dX6_fitsKind_45 : decode cX6_fitsKind 45 = .ok (.iconst 0, 1) := by decide +kernel
theorem dX6_fitsKind_46 : decode cX6_fitsKind 46 = .ok (.ireturn, 1) := by decide +kernel
theorem dX6_fitsKind_47 : decode cX6_fitsKind 47 = .ok (.iinc 6 1, 3) := by decide +kernel
theorem dX6_fitsKind_50 : decode cX6_fitsKind 50 = .ok (.goto (-47), 3) := by decide +kernel
theorem dX6_fitsKind_53 : decode cX6_fitsKind 53 = .ok (.iconst 1, 1) := by decide +kernel
theorem dX6_fitsKind_54 : decode cX6_fitsKind 54 = .ok (.ireturn, 1) := by decide +kernel
theorem dX6_linesAtOnce_0 : decode cX6_linesAtOnce 0 = .ok (.iconst 0, 1) := by decide +kernel
theorem dX6_linesAtOnce_1 : decode cX6_linesAtOnce 1 = .ok (.istore_n 3, 1) := by decide +kernel
theorem dX6_linesAtOnce_2 : decode cX6_linesAtOnce 2 = .ok (.iconst 1, 1) := by decide +kernel
theorem dX6_linesAtOnce_3 : decode cX6_linesAtOnce 3 = .ok (.istore 4, 2) := by decide +kernel
theorem dX6_linesAtOnce_5 : decode cX6_linesAtOnce 5 = .ok (.iload 4, 2) := by decide +kernel
theorem dX6_linesAtOnce_7 : decode cX6_linesAtOnce 7 = .ok (.bipush 30, 2) := by decide +kernel
theorem dX6_linesAtOnce_9 : decode cX6_linesAtOnce 9 = .ok (.if_icmp .gt 33, 3) := by decide +kernel
theorem dX6_linesAtOnce_12 : decode cX6_linesAtOnce 12 = .ok (.aload_n 0, 1) := by decide +kernel
theorem dX6_linesAtOnce_13 : decode cX6_linesAtOnce 13 = .ok (.getfield 32, 3) := by decide +kernel
theorem dX6_linesAtOnce_16 : decode cX6_linesAtOnce 16 = .ok (.iload_n 1, 1) := by decide +kernel
theorem dX6_linesAtOnce_17 : decode cX6_linesAtOnce 17 = .ok (.iload 4, 2) := by decide +kernel
theorem dX6_linesAtOnce_19 : decode cX6_linesAtOnce 19 = .ok (.aload_n 0, 1) := by decide +kernel
theorem dX6_linesAtOnce_20 : decode cX6_linesAtOnce 20 = .ok (.getfield 39, 3) := by decide +kernel
theorem dX6_linesAtOnce_23 : decode cX6_linesAtOnce 23 = .ok (.getfield 168, 3) := by decide +kernel
theorem dX6_linesAtOnce_26 : decode cX6_linesAtOnce 26 = .ok (.invokevirtual 171, 3) := by decide +kernel
theorem dX6_linesAtOnce_29 : decode cX6_linesAtOnce 29 = .ok (.iload_n 2, 1) := by decide +kernel
theorem dX6_linesAtOnce_30 : decode cX6_linesAtOnce 30 = .ok (.if_icmp .gt 6, 3) := by decide +kernel
theorem dX6_linesAtOnce_33 : decode cX6_linesAtOnce 33 = .ok (.iload 4, 2) := by decide +kernel
theorem dX6_linesAtOnce_35 : decode cX6_linesAtOnce 35 = .ok (.istore_n 3, 1) := by decide +kernel
theorem dX6_linesAtOnce_36 : decode cX6_linesAtOnce 36 = .ok (.iinc 4 1, 3) := by decide +kernel
theorem dX6_linesAtOnce_39 : decode cX6_linesAtOnce 39 = .ok (.goto (-34), 3) := by decide +kernel
theorem dX6_linesAtOnce_42 : decode cX6_linesAtOnce 42 = .ok (.iload_n 3, 1) := by decide +kernel
theorem dX6_linesAtOnce_43 : decode cX6_linesAtOnce 43 = .ok (.ireturn, 1) := by decide +kernel
theorem dX6_drawWriting_0 : decode cX6_drawWriting 0 = .ok (.aload_n 0, 1) := by decide +kernel
theorem dX6_drawWriting_1 : decode cX6_drawWriting 1 = .ok (.getfield 32, 3) := by decide +kernel
theorem dX6_drawWriting_4 : decode cX6_drawWriting 4 = .ok (.getfield 265, 3) := by decide +kernel
theorem dX6_drawWriting_7 : decode cX6_drawWriting 7 = .ok (.iconst 1, 1) := by decide +kernel
theorem dX6_drawWriting_8 : decode cX6_drawWriting 8 = .ok (.if_icmp .lt 14, 3) := by decide +kernel
theorem dX6_drawWriting_11 : decode cX6_drawWriting 11 = .ok (.aload_n 0, 1) := by decide +kernel
theorem dX6_drawWriting_12 : decode cX6_drawWriting 12 = .ok (.getfield 32, 3) := by decide +kernel
theorem dX6_drawWriting_15 : decode cX6_drawWriting 15 = .ok (.getfield 152, 3) := by decide +kernel
theorem dX6_drawWriting_18 : decode cX6_drawWriting 18 = .ok (.iconst 1, 1) := by decide +kernel
theorem dX6_drawWriting_19 : decode cX6_drawWriting 19 = .ok (.if_icmp .ge 4, 3) := by decide +kernel
theorem dX6_drawWriting_22 : decode cX6_drawWriting 22 = .ok (.return_, 1) := by decide +kernel
theorem dX6_drawWriting_23 : decode cX6_drawWriting 23 = .ok (.lload_n 1, 1) := by decide +kernel
theorem dX6_drawWriting_24 : decode cX6_drawWriting 24 = .ok (.aload_n 0, 1) := by decide +kernel
theorem dX6_drawWriting_25 : decode cX6_drawWriting 25 = .ok (.getfield 32, 3) := by decide +kernel
theorem dX6_drawWriting_28 : decode cX6_drawWriting 28 = .ok (.getfield 265, 3) := by decide +kernel
theorem dX6_drawWriting_31 : decode cX6_drawWriting 31 = .ok (.i2l, 1) := by decide +kernel
theorem dX6_drawWriting_32 : decode cX6_drawWriting 32 = .ok (.lrem, 1) := by decide +kernel
theorem dX6_drawWriting_33 : decode cX6_drawWriting 33 = .ok (.l2i, 1) := by decide +kernel
theorem dX6_drawWriting_34 : decode cX6_drawWriting 34 = .ok (.istore_n 3, 1) := by decide +kernel
theorem dX6_drawWriting_35 : decode cX6_drawWriting 35 = .ok (.lload_n 1, 1) := by decide +kernel
theorem dX6_drawWriting_36 : decode cX6_drawWriting 36 = .ok (.aload_n 0, 1) := by decide +kernel
theorem dX6_drawWriting_37 : decode cX6_drawWriting 37 = .ok (.getfield 32, 3) := by decide +kernel
theorem dX6_drawWriting_40 : decode cX6_drawWriting 40 = .ok (.getfield 152, 3) := by decide +kernel
theorem dX6_drawWriting_43 : decode cX6_drawWriting 43 = .ok (.i2l, 1) := by decide +kernel
theorem dX6_drawWriting_44 : decode cX6_drawWriting 44 = .ok (.lrem, 1) := by decide +kernel
theorem dX6_drawWriting_45 : decode cX6_drawWriting 45 = .ok (.l2i, 1) := by decide +kernel
theorem dX6_drawWriting_46 : decode cX6_drawWriting 46 = .ok (.istore 4, 2) := by decide +kernel
theorem dX6_drawWriting_48 : decode cX6_drawWriting 48 = .ok (.aload_n 0, 1) := by decide +kernel
theorem dX6_drawWriting_49 : decode cX6_drawWriting 49 = .ok (.getfield 32, 3) := by decide +kernel
theorem dX6_drawWriting_52 : decode cX6_drawWriting 52 = .ok (.iload_n 3, 1) := by decide +kernel
theorem dX6_drawWriting_53 : decode cX6_drawWriting 53 = .ok (.lload_n 1, 1) := by decide +kernel
theorem dX6_drawWriting_54 : decode cX6_drawWriting 54 = .ok (.ldc2_w 342, 3) := by decide +kernel
theorem dX6_drawWriting_57 : decode cX6_drawWriting 57 = .ok (.lrem, 1) := by decide +kernel
theorem dX6_drawWriting_58 : decode cX6_drawWriting 58 = .ok (.l2i, 1) := by decide +kernel
theorem dX6_drawWriting_59 : decode cX6_drawWriting 59 = .ok (.iconst 1, 1) := by decide +kernel
theorem dX6_drawWriting_60 : decode cX6_drawWriting 60 = .ok (.iadd, 1) := by decide +kernel
theorem dX6_drawWriting_61 : decode cX6_drawWriting 61 = .ok (.aload_n 0, 1) := by decide +kernel
theorem dX6_drawWriting_62 : decode cX6_drawWriting 62 = .ok (.getfield 60, 3) := by decide +kernel
theorem dX6_drawWriting_65 : decode cX6_drawWriting 65 = .ok (.getfield 168, 3) := by decide +kernel
theorem dX6_drawWriting_68 : decode cX6_drawWriting 68 = .ok (.invokevirtual 171, 3) := by decide +kernel
theorem dX6_drawWriting_71 : decode cX6_drawWriting 71 = .ok (.istore 5, 2) := by decide +kernel
theorem dX6_drawWriting_73 : decode cX6_drawWriting 73 = .ok (.aload_n 0, 1) := by decide +kernel
theorem dX6_drawWriting_74 : decode cX6_drawWriting 74 = .ok (.getfield 60, 3) := by decide +kernel
theorem dX6_drawWriting_77 : decode cX6_drawWriting 77 = .ok (.getfield 175, 3) := by decide +kernel
theorem dX6_drawWriting_80 : decode cX6_drawWriting 80 = .ok (.iload 4, 2) := by decide +kernel
theorem dX6_drawWriting_82 : decode cX6_drawWriting 82 = .ok (.iaload, 1) := by decide +kernel
theorem dX6_drawWriting_83 : decode cX6_drawWriting 83 = .ok (.iload 5, 2) := by decide +kernel
theorem dX6_drawWriting_85 : decode cX6_drawWriting 85 = .ok (.if_icmp .lt 14, 3) := by decide +kernel
theorem dX6_drawWriting_88 : decode cX6_drawWriting 88 = .ok (.aload_n 0, 1) := by decide +kernel
theorem dX6_drawWriting_89 : decode cX6_drawWriting 89 = .ok (.getfield 60, 3) := by decide +kernel
theorem dX6_drawWriting_92 : decode cX6_drawWriting 92 = .ok (.iload 4, 2) := by decide +kernel
theorem dX6_drawWriting_94 : decode cX6_drawWriting 94 = .ok (.iload 5, 2) := by decide +kernel
theorem dX6_drawWriting_96 : decode cX6_drawWriting 96 = .ok (.invokevirtual 181, 3) := by decide +kernel
theorem dX6_drawWriting_99 : decode cX6_drawWriting 99 = .ok (.return_, 1) := by decide +kernel
theorem dX6_answerOf_0 : decode cX6_answerOf 0 = .ok (.iload_n 1, 1) := by decide +kernel
theorem dX6_answerOf_1 : decode cX6_answerOf 1 = .ok (.ifCond .ne 9, 3) := by decide +kernel
theorem dX6_answerOf_4 : decode cX6_answerOf 4 = .ok (.getstatic 344, 3) := by decide +kernel
theorem dX6_answerOf_7 : decode cX6_answerOf 7 = .ok (.goto 6, 3) := by decide +kernel
theorem dX6_answerOf_10 : decode cX6_answerOf 10 = .ok (.getstatic 347, 3) := by decide +kernel
theorem dX6_answerOf_13 : decode cX6_answerOf 13 = .ok (.astore_n 3, 1) := by decide +kernel
theorem dX6_answerOf_14 : decode cX6_answerOf 14 = .ok (.aload_n 0, 1) := by decide +kernel
theorem dX6_answerOf_15 : decode cX6_answerOf 15 = .ok (.getfield 350, 3) := by decide +kernel
theorem dX6_answerOf_18 : decode cX6_answerOf 18 = .ok (.bipush 6, 2) := by decide +kernel
theorem dX6_answerOf_20 : decode cX6_answerOf 20 = .ok (.invokestatic 78, 3) := by decide +kernel
theorem dX6_answerOf_23 : decode cX6_answerOf 23 = .ok (.ifCond .eq 17, 3) := by decide +kernel
theorem dX6_answerOf_26 : decode cX6_answerOf 26 = .ok (.aload_n 0, 1) := by decide +kernel
theorem dX6_answerOf_27 : decode cX6_answerOf 27 = .ok (.aload_n 3, 1) := by decide +kernel
theorem dX6_answerOf_28 : decode cX6_answerOf 28 = .ok (.aload_n 0, 1) := by decide +kernel
theorem dX6_answerOf_29 : decode cX6_answerOf 29 = .ok (.getfield 350, 3) := by decide +kernel
theorem dX6_answerOf_32 : decode cX6_answerOf 32 = .ok (.iaload, 1) := by decide +kernel
theorem dX6_answerOf_33 : decode cX6_answerOf 33 = .ok (.iload_n 2, 1) := by decide +kernel
theorem dX6_answerOf_34 : decode cX6_answerOf 34 = .ok (.invokestatic 353, 3) := by decide +kernel
theorem dX6_answerOf_37 : decode cX6_answerOf 37 = .ok (.goto 4, 3) := by decide +kernel
theorem dX6_answerOf_40 : decode cX6_answerOf 40 = .ok (.iconst 0, 1) := by decide +kernel
theorem dX6_answerOf_41 : decode cX6_answerOf 41 = .ok (.ireturn, 1) := by decide +kernel
theorem dX6_runBody_0 : decode cX6_runBody 0 = .ok (.iload_n 2, 1) := by decide +kernel
theorem dX6_runBody_1 : decode cX6_runBody 1 = .ok (.bipush 16, 2) := by decide +kernel
theorem dX6_runBody_3 : decode cX6_runBody 3 = .ok (.if_icmp .le 5, 3) := by decide +kernel
theorem dX6_runBody_6 : decode cX6_runBody 6 = .ok (.iconst 0, 1) := by decide +kernel
theorem dX6_runBody_7 : decode cX6_runBody 7 = .ok (.ireturn, 1) := by decide +kernel
theorem dX6_runBody_8 : decode cX6_runBody 8 = .ok (.aload_n 0, 1) := by decide +kernel
theorem dX6_runBody_9 : decode cX6_runBody 9 = .ok (.iload_n 1, 1) := by decide +kernel
theorem dX6_runBody_10 : decode cX6_runBody 10 = .ok (.invokevirtual 356, 3) := by decide +kernel
theorem dX6_runBody_13 : decode cX6_runBody 13 = .ok (.iload_n 2, 1) := by decide +kernel
theorem dX6_runBody_14 : decode cX6_runBody 14 = .ok (.iconst 1, 1) := by decide +kernel
theorem dX6_runBody_15 : decode cX6_runBody 15 = .ok (.iadd, 1) := by decide +kernel
theorem dX6_runBody_16 : decode cX6_runBody 16 = .ok (.istore_n 3, 1) := by decide +kernel
theorem dX6_runBody_17 : decode cX6_runBody 17 = .ok (.iload_n 1, 1) := by decide +kernel
theorem dX6_runBody_18 : decode cX6_runBody 18 = .ok (.tableswitch 179 10 24 #[74, 79, 94, 103, 114, 179, 179, 179, 179, 179, 124, 129, 142, 154, 169], 74) := by decide +kernel
theorem dX6_runBody_92 : decode cX6_runBody 92 = .ok (.aload_n 0, 1) := by decide +kernel
theorem dX6_runBody_93 : decode cX6_runBody 93 = .ok (.getfield 359, 3) := by decide +kernel
theorem dX6_runBody_96 : decode cX6_runBody 96 = .ok (.ireturn, 1) := by decide +kernel
theorem dX6_runBody_97 : decode cX6_runBody 97 = .ok (.aload_n 0, 1) := by decide +kernel
theorem dX6_runBody_98 : decode cX6_runBody 98 = .ok (.bipush 10, 2) := by decide +kernel
theorem dX6_runBody_100 : decode cX6_runBody 100 = .ok (.iload_n 3, 1) := by decide +kernel
theorem dX6_runBody_101 : decode cX6_runBody 101 = .ok (.invokestatic 353, 3) := by decide +kernel
theorem dX6_runBody_104 : decode cX6_runBody 104 = .ok (.aload_n 0, 1) := by decide +kernel
theorem dX6_runBody_105 : decode cX6_runBody 105 = .ok (.iconst 1, 1) := by decide +kernel
theorem dX6_runBody_106 : decode cX6_runBody 106 = .ok (.iload_n 3, 1) := by decide +kernel
theorem dX6_runBody_107 : decode cX6_runBody 107 = .ok (.invokestatic 310, 3) := by decide +kernel
theorem dX6_runBody_110 : decode cX6_runBody 110 = .ok (.iadd, 1) := by decide +kernel
theorem dX6_runBody_111 : decode cX6_runBody 111 = .ok (.ireturn, 1) := by decide +kernel
theorem dX6_runBody_112 : decode cX6_runBody 112 = .ok (.aload_n 0, 1) := by decide +kernel
theorem dX6_runBody_113 : decode cX6_runBody 113 = .ok (.bipush 11, 2) := by decide +kernel
theorem dX6_runBody_115 : decode cX6_runBody 115 = .ok (.iload_n 3, 1) := by decide +kernel
theorem dX6_runBody_116 : decode cX6_runBody 116 = .ok (.invokestatic 353, 3) := by decide +kernel
theorem dX6_runBody_119 : decode cX6_runBody 119 = .ok (.ineg, 1) := by decide +kernel
theorem dX6_runBody_120 : decode cX6_runBody 120 = .ok (.ireturn, 1) := by decide +kernel
theorem dX6_runBody_121 : decode cX6_runBody 121 = .ok (.aload_n 0, 1) := by decide +kernel
theorem dX6_runBody_122 : decode cX6_runBody 122 = .ok (.bipush 10, 2) := by decide +kernel
theorem dX6_runBody_124 : decode cX6_runBody 124 = .ok (.iload_n 3, 1) := by decide +kernel
theorem dX6_runBody_125 : decode cX6_runBody 125 = .ok (.invokestatic 353, 3) := by decide +kernel
theorem dX6_runBody_128 : decode cX6_runBody 128 = .ok (.bipush 100, 2) := by decide +kernel
theorem dX6_runBody_130 : decode cX6_runBody 130 = .ok (.isub, 1) := by decide +kernel
theorem dX6_runBody_131 : decode cX6_runBody 131 = .ok (.ireturn, 1) := by decide +kernel
theorem dX6_runBody_132 : decode cX6_runBody 132 = .ok (.iconst 2, 1) := by decide +kernel
theorem dX6_runBody_133 : decode cX6_runBody 133 = .ok (.aload_n 0, 1) := by decide +kernel
theorem dX6_runBody_134 : decode cX6_runBody 134 = .ok (.bipush 13, 2) := by decide +kernel
theorem dX6_runBody_136 : decode cX6_runBody 136 = .ok (.iload_n 3, 1) := by decide +kernel
theorem dX6_runBody_137 : decode cX6_runBody 137 = .ok (.invokestatic 353, 3) := by decide +kernel
theorem dX6_runBody_140 : decode cX6_runBody 140 = .ok (.imul, 1) := by decide +kernel
theorem dX6_runBody_141 : decode cX6_runBody 141 = .ok (.ireturn, 1) := by decide +kernel
theorem dX6_runBody_142 : decode cX6_runBody 142 = .ok (.aload_n 0, 1) := by decide +kernel
theorem dX6_runBody_143 : decode cX6_runBody 143 = .ok (.getfield 362, 3) := by decide +kernel
theorem dX6_runBody_146 : decode cX6_runBody 146 = .ok (.ireturn, 1) := by decide +kernel
theorem dX6_runBody_147 : decode cX6_runBody 147 = .ok (.aload_n 0, 1) := by decide +kernel
theorem dX6_runBody_148 : decode cX6_runBody 148 = .ok (.bipush 20, 2) := by decide +kernel
theorem dX6_runBody_150 : decode cX6_runBody 150 = .ok (.iload_n 3, 1) := by decide +kernel
theorem dX6_runBody_151 : decode cX6_runBody 151 = .ok (.invokestatic 353, 3) := by decide +kernel
theorem dX6_runBody_154 : decode cX6_runBody 154 = .ok (.aload_n 0, 1) := by decide +kernel
theorem dX6_runBody_155 : decode cX6_runBody 155 = .ok (.getfield 365, 3) := by decide +kernel
theorem dX6_runBody_158 : decode cX6_runBody 158 = .ok (.iadd, 1) := by decide +kernel
theorem dX6_runBody_159 : decode cX6_runBody 159 = .ok (.ireturn, 1) := by decide +kernel
theorem dX6_runBody_160 : decode cX6_runBody 160 = .ok (.aload_n 0, 1) := by decide +kernel
theorem dX6_runBody_161 : decode cX6_runBody 161 = .ok (.bipush 21, 2) := by decide +kernel
theorem dX6_runBody_163 : decode cX6_runBody 163 = .ok (.iload_n 3, 1) := by decide +kernel
theorem dX6_runBody_164 : decode cX6_runBody 164 = .ok (.invokestatic 353, 3) := by decide +kernel
theorem dX6_runBody_167 : decode cX6_runBody 167 = .ok (.sipush 1000, 3) := by decide +kernel
theorem dX6_runBody_170 : decode cX6_runBody 170 = .ok (.isub, 1) := by decide +kernel
theorem dX6_runBody_171 : decode cX6_runBody 171 = .ok (.ireturn, 1) := by decide +kernel
theorem dX6_runBody_172 : decode cX6_runBody 172 = .ok (.aload_n 0, 1) := by decide +kernel
theorem dX6_runBody_173 : decode cX6_runBody 173 = .ok (.bipush 20, 2) := by decide +kernel
theorem dX6_runBody_175 : decode cX6_runBody 175 = .ok (.iload_n 3, 1) := by decide +kernel
theorem dX6_runBody_176 : decode cX6_runBody 176 = .ok (.invokestatic 353, 3) := by decide +kernel
theorem dX6_runBody_179 : decode cX6_runBody 179 = .ok (.aload_n 0, 1) := by decide +kernel
theorem dX6_runBody_180 : decode cX6_runBody 180 = .ok (.iconst 0, 1) := by decide +kernel
theorem dX6_runBody_181 : decode cX6_runBody 181 = .ok (.iload_n 3, 1) := by decide +kernel
theorem dX6_runBody_182 : decode cX6_runBody 182 = .ok (.invokestatic 310, 3) := by decide +kernel
theorem dX6_runBody_185 : decode cX6_runBody 185 = .ok (.isub, 1) := by decide +kernel
theorem dX6_runBody_186 : decode cX6_runBody 186 = .ok (.ireturn, 1) := by decide +kernel
theorem dX6_runBody_187 : decode cX6_runBody 187 = .ok (.iconst 2, 1) := by decide +kernel
theorem dX6_runBody_188 : decode cX6_runBody 188 = .ok (.aload_n 0, 1) := by decide +kernel
theorem dX6_runBody_189 : decode cX6_runBody 189 = .ok (.bipush 21, 2) := by decide +kernel
theorem dX6_runBody_191 : decode cX6_runBody 191 = .ok (.iload_n 3, 1) := by decide +kernel
theorem dX6_runBody_192 : decode cX6_runBody 192 = .ok (.invokestatic 353, 3) := by decide +kernel
theorem dX6_runBody_195 : decode cX6_runBody 195 = .ok (.imul, 1) := by decide +kernel
theorem dX6_runBody_196 : decode cX6_runBody 196 = .ok (.ireturn, 1) := by decide +kernel
theorem dX6_runBody_197 : decode cX6_runBody 197 = .ok (.iconst 0, 1) := by decide +kernel
theorem dX6_runBody_198 : decode cX6_runBody 198 = .ok (.ireturn, 1) := by decide +kernel
theorem dX6_chalkByKind_0 : decode cX6_chalkByKind 0 = .ok (.iload_n 0, 1) := by decide +kernel
theorem dX6_chalkByKind_1 : decode cX6_chalkByKind 1 = .ok (.tableswitch 58 1 4 #[31, 35, 43, 49], 31) := by decide +kernel
theorem dX6_chalkByKind_32 : decode cX6_chalkByKind 32 = .ok (.iload_n 1, 1) := by decide +kernel
theorem dX6_chalkByKind_33 : decode cX6_chalkByKind 33 = .ok (.iload_n 2, 1) := by decide +kernel
theorem dX6_chalkByKind_34 : decode cX6_chalkByKind 34 = .ok (.imul, 1) := by decide +kernel
theorem dX6_chalkByKind_35 : decode cX6_chalkByKind 35 = .ok (.ireturn, 1) := by decide +kernel
theorem dX6_chalkByKind_36 : decode cX6_chalkByKind 36 = .ok (.iload_n 1, 1) := by decide +kernel
theorem dX6_chalkByKind_37 : decode cX6_chalkByKind 37 = .ok (.iload_n 2, 1) := by decide +kernel
theorem dX6_chalkByKind_38 : decode cX6_chalkByKind 38 = .ok (.imul, 1) := by decide +kernel
theorem dX6_chalkByKind_39 : decode cX6_chalkByKind 39 = .ok (.iconst 1, 1) := by decide +kernel
theorem dX6_chalkByKind_40 : decode cX6_chalkByKind 40 = .ok (.iadd, 1) := by decide +kernel
theorem dX6_chalkByKind_41 : decode cX6_chalkByKind 41 = .ok (.iconst 2, 1) := by decide +kernel
theorem dX6_chalkByKind_42 : decode cX6_chalkByKind 42 = .ok (.idiv, 1) := by decide +kernel
theorem dX6_chalkByKind_43 : decode cX6_chalkByKind 43 = .ok (.ireturn, 1) := by decide +kernel
theorem dX6_chalkByKind_44 : decode cX6_chalkByKind 44 = .ok (.iconst 2, 1) := by decide +kernel
theorem dX6_chalkByKind_45 : decode cX6_chalkByKind 45 = .ok (.iload_n 1, 1) := by decide +kernel
theorem dX6_chalkByKind_46 : decode cX6_chalkByKind 46 = .ok (.imul, 1) := by decide +kernel
theorem dX6_chalkByKind_47 : decode cX6_chalkByKind 47 = .ok (.iload_n 2, 1) := by decide +kernel
theorem dX6_chalkByKind_48 : decode cX6_chalkByKind 48 = .ok (.imul, 1) := by decide +kernel
theorem dX6_chalkByKind_49 : decode cX6_chalkByKind 49 = .ok (.ireturn, 1) := by decide +kernel
theorem dX6_chalkByKind_50 : decode cX6_chalkByKind 50 = .ok (.iload_n 2, 1) := by decide +kernel
theorem dX6_chalkByKind_51 : decode cX6_chalkByKind 51 = .ok (.iload_n 3, 1) := by decide +kernel
theorem dX6_chalkByKind_52 : decode cX6_chalkByKind 52 = .ok (.bipush 9, 2) := by decide +kernel
theorem dX6_chalkByKind_54 : decode cX6_chalkByKind 54 = .ok (.invokestatic 193, 3) := by decide +kernel
theorem dX6_chalkByKind_57 : decode cX6_chalkByKind 57 = .ok (.iadd, 1) := by decide +kernel
theorem dX6_chalkByKind_58 : decode cX6_chalkByKind 58 = .ok (.ireturn, 1) := by decide +kernel
theorem dX6_chalkByKind_59 : decode cX6_chalkByKind 59 = .ok (.iload_n 2, 1) := by decide +kernel
theorem dX6_chalkByKind_60 : decode cX6_chalkByKind 60 = .ok (.iload_n 3, 1) := by decide +kernel
theorem dX6_chalkByKind_61 : decode cX6_chalkByKind 61 = .ok (.bipush 9, 2) := by decide +kernel
theorem dX6_chalkByKind_63 : decode cX6_chalkByKind 63 = .ok (.invokestatic 193, 3) := by decide +kernel
theorem dX6_chalkByKind_66 : decode cX6_chalkByKind 66 = .ok (.iadd, 1) := by decide +kernel
theorem dX6_chalkByKind_67 : decode cX6_chalkByKind 67 = .ok (.iload_n 1, 1) := by decide +kernel
theorem dX6_chalkByKind_68 : decode cX6_chalkByKind 68 = .ok (.iadd, 1) := by decide +kernel
theorem dX6_chalkByKind_69 : decode cX6_chalkByKind 69 = .ok (.ireturn, 1) := by decide +kernel
theorem dX6_power_0 : decode cX6_power 0 = .ok (.lconst 1, 1) := by decide +kernel
theorem dX6_power_1 : decode cX6_power 1 = .ok (.lstore_n 3, 1) := by decide +kernel
theorem dX6_power_2 : decode cX6_power 2 = .ok (.iconst 0, 1) := by decide +kernel
theorem dX6_power_3 : decode cX6_power 3 = .ok (.istore 5, 2) := by decide +kernel
theorem dX6_power_5 : decode cX6_power 5 = .ok (.iload 5, 2) := by decide +kernel
theorem dX6_power_7 : decode cX6_power 7 = .ok (.iload_n 2, 1) := by decide +kernel
theorem dX6_power_8 : decode cX6_power 8 = .ok (.if_icmp .ge 13, 3) := by decide +kernel
theorem dX6_power_11 : decode cX6_power 11 = .ok (.lload_n 3, 1) := by decide +kernel
theorem dX6_power_12 : decode cX6_power 12 = .ok (.lload_n 0, 1) := by decide +kernel
theorem dX6_power_13 : decode cX6_power 13 = .ok (.lmul, 1) := by decide +kernel
theorem dX6_power_14 : decode cX6_power 14 = .ok (.lstore_n 3, 1) := by decide +kernel
theorem dX6_power_15 : decode cX6_power 15 = .ok (.iinc 5 1, 3) := by decide +kernel
theorem dX6_power_18 : decode cX6_power 18 = .ok (.goto (-13), 3) := by decide +kernel
theorem dX6_power_21 : decode cX6_power 21 = .ok (.lload_n 3, 1) := by decide +kernel
theorem dX6_power_22 : decode cX6_power 22 = .ok (.lreturn, 1) := by decide +kernel
theorem dX6_lowestTerms_0 : decode cX6_lowestTerms 0 = .ok (.lload_n 0, 1) := by decide +kernel
theorem dX6_lowestTerms_1 : decode cX6_lowestTerms 1 = .ok (.lconst 0, 1) := by decide +kernel
theorem dX6_lowestTerms_2 : decode cX6_lowestTerms 2 = .ok (.lcmp, 1) := by decide +kernel
theorem dX6_lowestTerms_3 : decode cX6_lowestTerms 3 = .ok (.ifCond .ne 7, 3) := by decide +kernel
theorem dX6_lowestTerms_6 : decode cX6_lowestTerms 6 = .ok (.iload 4, 2) := by decide +kernel
theorem dX6_lowestTerms_8 : decode cX6_lowestTerms 8 = .ok (.i2l, 1) := by decide +kernel
theorem dX6_lowestTerms_9 : decode cX6_lowestTerms 9 = .ok (.lreturn, 1) := by decide +kernel
theorem dX6_lowestTerms_10 : decode cX6_lowestTerms 10 = .ok (.lload_n 0, 1) := by decide +kernel
theorem dX6_lowestTerms_11 : decode cX6_lowestTerms 11 = .ok (.lstore 5, 2) := by decide +kernel
theorem dX6_lowestTerms_13 : decode cX6_lowestTerms 13 = .ok (.lload_n 2, 1) := by decide +kernel
theorem dX6_lowestTerms_14 : decode cX6_lowestTerms 14 = .ok (.lstore 7, 2) := by decide +kernel
theorem dX6_lowestTerms_16 : decode cX6_lowestTerms 16 = .ok (.iconst 0, 1) := by decide +kernel
theorem dX6_lowestTerms_17 : decode cX6_lowestTerms 17 = .ok (.istore 9, 2) := by decide +kernel
theorem dX6_lowestTerms_19 : decode cX6_lowestTerms 19 = .ok (.iload 9, 2) := by decide +kernel
theorem dX6_lowestTerms_21 : decode cX6_lowestTerms 21 = .ok (.bipush 100, 2) := by decide +kernel
theorem dX6_lowestTerms_23 : decode cX6_lowestTerms 23 = .ok (.if_icmp .ge 31, 3) := by decide +kernel
theorem dX6_lowestTerms_26 : decode cX6_lowestTerms 26 = .ok (.lload 7, 2) := by decide +kernel
theorem dX6_lowestTerms_28 : decode cX6_lowestTerms 28 = .ok (.lconst 0, 1) := by decide +kernel
theorem dX6_lowestTerms_29 : decode cX6_lowestTerms 29 = .ok (.lcmp, 1) := by decide +kernel
theorem dX6_lowestTerms_30 : decode cX6_lowestTerms 30 = .ok (.ifCond .eq 24, 3) := by decide +kernel
theorem dX6_lowestTerms_33 : decode cX6_lowestTerms 33 = .ok (.lload 5, 2) := by decide +kernel
theorem dX6_lowestTerms_35 : decode cX6_lowestTerms 35 = .ok (.lload 7, 2) := by decide +kernel
theorem dX6_lowestTerms_37 : decode cX6_lowestTerms 37 = .ok (.lrem, 1) := by decide +kernel
theorem dX6_lowestTerms_38 : decode cX6_lowestTerms 38 = .ok (.lstore 10, 2) := by decide +kernel
theorem dX6_lowestTerms_40 : decode cX6_lowestTerms 40 = .ok (.lload 7, 2) := by decide +kernel
theorem dX6_lowestTerms_42 : decode cX6_lowestTerms 42 = .ok (.lstore 5, 2) := by decide +kernel
theorem dX6_lowestTerms_44 : decode cX6_lowestTerms 44 = .ok (.lload 10, 2) := by decide +kernel
theorem dX6_lowestTerms_46 : decode cX6_lowestTerms 46 = .ok (.lstore 7, 2) := by decide +kernel
theorem dX6_lowestTerms_48 : decode cX6_lowestTerms 48 = .ok (.iinc 9 1, 3) := by decide +kernel
theorem dX6_lowestTerms_51 : decode cX6_lowestTerms 51 = .ok (.goto (-32), 3) := by decide +kernel
theorem dX6_lowestTerms_54 : decode cX6_lowestTerms 54 = .ok (.lload 5, 2) := by decide +kernel
theorem dX6_lowestTerms_56 : decode cX6_lowestTerms 56 = .ok (.lconst 0, 1) := by decide +kernel
theorem dX6_lowestTerms_57 : decode cX6_lowestTerms 57 = .ok (.lcmp, 1) := by decide +kernel
theorem dX6_lowestTerms_58 : decode cX6_lowestTerms 58 = .ok (.ifCond .ne 7, 3) := by decide +kernel
theorem dX6_lowestTerms_61 : decode cX6_lowestTerms 61 = .ok (.iload 4, 2) := by decide +kernel
theorem dX6_lowestTerms_63 : decode cX6_lowestTerms 63 = .ok (.i2l, 1) := by decide +kernel
theorem dX6_lowestTerms_64 : decode cX6_lowestTerms 64 = .ok (.lreturn, 1) := by decide +kernel
theorem dX6_lowestTerms_65 : decode cX6_lowestTerms 65 = .ok (.iload 4, 2) := by decide +kernel
theorem dX6_lowestTerms_67 : decode cX6_lowestTerms 67 = .ok (.ifCond .ne 7, 3) := by decide +kernel
theorem dX6_lowestTerms_70 : decode cX6_lowestTerms 70 = .ok (.lload_n 0, 1) := by decide +kernel
theorem dX6_lowestTerms_71 : decode cX6_lowestTerms 71 = .ok (.goto 4, 3) := by decide +kernel
theorem dX6_lowestTerms_74 : decode cX6_lowestTerms 74 = .ok (.lload_n 2, 1) := by decide +kernel
theorem dX6_lowestTerms_75 : decode cX6_lowestTerms 75 = .ok (.lload 5, 2) := by decide +kernel
theorem dX6_lowestTerms_77 : decode cX6_lowestTerms 77 = .ok (.ldiv, 1) := by decide +kernel
theorem dX6_lowestTerms_78 : decode cX6_lowestTerms 78 = .ok (.lreturn, 1) := by decide +kernel
theorem dX7_init_0 : decode cX7_init 0 = .ok (.aload_n 0, 1) := by decide +kernel
theorem dX7_init_1 : decode cX7_init 1 = .ok (.invokespecial 1, 3) := by decide +kernel
theorem dX7_init_4 : decode cX7_init 4 = .ok (.aload_n 0, 1) := by decide +kernel
theorem dX7_init_5 : decode cX7_init 5 = .ok (.bipush 8, 2) := by decide +kernel
theorem dX7_init_7 : decode cX7_init 7 = .ok (.newarray .int, 2) := by decide +kernel
theorem dX7_init_9 : decode cX7_init 9 = .ok (.putfield 7, 3) := by decide +kernel
theorem dX7_init_12 : decode cX7_init 12 = .ok (.aload_n 0, 1) := by decide +kernel
theorem dX7_init_13 : decode cX7_init 13 = .ok (.bipush 8, 2) := by decide +kernel
theorem dX7_init_15 : decode cX7_init 15 = .ok (.newarray .int, 2) := by decide +kernel
theorem dX7_init_17 : decode cX7_init 17 = .ok (.putfield 13, 3) := by decide +kernel
theorem dX7_init_20 : decode cX7_init 20 = .ok (.aload_n 0, 1) := by decide +kernel
theorem dX7_init_21 : decode cX7_init 21 = .ok (.sipush 320, 3) := by decide +kernel
theorem dX7_init_24 : decode cX7_init 24 = .ok (.newarray .int, 2) := by decide +kernel
theorem dX7_init_26 : decode cX7_init 26 = .ok (.putfield 16, 3) := by decide +kernel
theorem dX7_init_29 : decode cX7_init 29 = .ok (.aload_n 0, 1) := by decide +kernel
theorem dX7_init_30 : decode cX7_init 30 = .ok (.bipush 120, 2) := by decide +kernel
theorem dX7_init_32 : decode cX7_init 32 = .ok (.newarray .int, 2) := by decide +kernel
theorem dX7_init_34 : decode cX7_init 34 = .ok (.putfield 19, 3) := by decide +kernel
theorem dX7_init_37 : decode cX7_init 37 = .ok (.aload_n 0, 1) := by decide +kernel
theorem dX7_init_38 : decode cX7_init 38 = .ok (.bipush 8, 2) := by decide +kernel
theorem dX7_init_40 : decode cX7_init 40 = .ok (.newarray .int, 2) := by decide +kernel
theorem dX7_init_42 : decode cX7_init 42 = .ok (.putfield 22, 3) := by decide +kernel
theorem dX7_init_45 : decode cX7_init 45 = .ok (.aload_n 0, 1) := by decide +kernel
theorem dX7_init_46 : decode cX7_init 46 = .ok (.iconst 4, 1) := by decide +kernel
theorem dX7_init_47 : decode cX7_init 47 = .ok (.newarray .int, 2) := by decide +kernel
theorem dX7_init_49 : decode cX7_init 49 = .ok (.putfield 25, 3) := by decide +kernel
theorem dX7_init_52 : decode cX7_init 52 = .ok (.aload_n 0, 1) := by decide +kernel
theorem dX7_init_53 : decode cX7_init 53 = .ok (.iconst 4, 1) := by decide +kernel
theorem dX7_init_54 : decode cX7_init 54 = .ok (.newarray .int, 2) := by decide +kernel
theorem dX7_init_56 : decode cX7_init 56 = .ok (.putfield 28, 3) := by decide +kernel
theorem dX7_init_59 : decode cX7_init 59 = .ok (.aload_n 0, 1) := by decide +kernel
theorem dX7_init_60 : decode cX7_init 60 = .ok (.bipush 14, 2) := by decide +kernel
theorem dX7_init_62 : decode cX7_init 62 = .ok (.newarray .int, 2) := by decide +kernel
theorem dX7_init_64 : decode cX7_init 64 = .ok (.putfield 31, 3) := by decide +kernel
theorem dX7_init_67 : decode cX7_init 67 = .ok (.aload_n 0, 1) := by decide +kernel
theorem dX7_init_68 : decode cX7_init 68 = .ok (.bipush 14, 2) := by decide +kernel
theorem dX7_init_70 : decode cX7_init 70 = .ok (.newarray .int, 2) := by decide +kernel
theorem dX7_init_72 : decode cX7_init 72 = .ok (.putfield 34, 3) := by decide +kernel
theorem dX7_init_75 : decode cX7_init 75 = .ok (.aload_n 0, 1) := by decide +kernel
theorem dX7_init_76 : decode cX7_init 76 = .ok (.iconst 2, 1) := by decide +kernel
theorem dX7_init_77 : decode cX7_init 77 = .ok (.newarray .int, 2) := by decide +kernel
theorem dX7_init_79 : decode cX7_init 79 = .ok (.putfield 37, 3) := by decide +kernel
theorem dX7_init_82 : decode cX7_init 82 = .ok (.aload_n 0, 1) := by decide +kernel
theorem dX7_init_83 : decode cX7_init 83 = .ok (.bipush 8, 2) := by decide +kernel
theorem dX7_init_85 : decode cX7_init 85 = .ok (.newarray .int, 2) := by decide +kernel
theorem dX7_init_87 : decode cX7_init 87 = .ok (.putfield 40, 3) := by decide +kernel
theorem dX7_init_90 : decode cX7_init 90 = .ok (.aload_n 0, 1) := by decide +kernel
theorem dX7_init_91 : decode cX7_init 91 = .ok (.bipush 8, 2) := by decide +kernel
theorem dX7_init_93 : decode cX7_init 93 = .ok (.newarray .int, 2) := by decide +kernel
theorem dX7_init_95 : decode cX7_init 95 = .ok (.putfield 43, 3) := by decide +kernel
theorem dX7_init_98 : decode cX7_init 98 = .ok (.aload_n 0, 1) := by decide +kernel
theorem dX7_init_99 : decode cX7_init 99 = .ok (.iconst 4, 1) := by decide +kernel
theorem dX7_init_100 : decode cX7_init 100 = .ok (.newarray .int, 2) := by decide +kernel
theorem dX7_init_102 : decode cX7_init 102 = .ok (.putfield 46, 3) := by decide +kernel
theorem dX7_init_105 : decode cX7_init 105 = .ok (.aload_n 0, 1) := by decide +kernel
theorem dX7_init_106 : decode cX7_init 106 = .ok (.iconst 4, 1) := by decide +kernel
theorem dX7_init_107 : decode cX7_init 107 = .ok (.newarray .int, 2) := by decide +kernel
theorem dX7_init_109 : decode cX7_init 109 = .ok (.putfield 49, 3) := by decide +kernel
theorem dX7_init_112 : decode cX7_init 112 = .ok (.aload_n 0, 1) := by decide +kernel
theorem dX7_init_113 : decode cX7_init 113 = .ok (.sipush 336, 3) := by decide +kernel
theorem dX7_init_116 : decode cX7_init 116 = .ok (.newarray .int, 2) := by decide +kernel
theorem dX7_init_118 : decode cX7_init 118 = .ok (.putfield 52, 3) := by decide +kernel
theorem dX7_init_121 : decode cX7_init 121 = .ok (.aload_n 0, 1) := by decide +kernel
theorem dX7_init_122 : decode cX7_init 122 = .ok (.bipush 8, 2) := by decide +kernel
theorem dX7_init_124 : decode cX7_init 124 = .ok (.newarray .int, 2) := by decide +kernel
theorem dX7_init_126 : decode cX7_init 126 = .ok (.putfield 55, 3) := by decide +kernel
theorem dX7_init_129 : decode cX7_init 129 = .ok (.aload_n 0, 1) := by decide +kernel
theorem dX7_init_130 : decode cX7_init 130 = .ok (.iconst 2, 1) := by decide +kernel
theorem dX7_init_131 : decode cX7_init 131 = .ok (.newarray .boolean, 2) := by decide +kernel
theorem dX7_init_133 : decode cX7_init 133 = .ok (.putfield 58, 3) := by decide +kernel
theorem dX7_init_136 : decode cX7_init 136 = .ok (.aload_n 0, 1) := by decide +kernel
theorem dX7_init_137 : decode cX7_init 137 = .ok (.bipush 10, 2) := by decide +kernel
theorem dX7_init_139 : decode cX7_init 139 = .ok (.newarray .int, 2) := by decide +kernel
theorem dX7_init_141 : decode cX7_init 141 = .ok (.putfield 62, 3) := by decide +kernel
theorem dX7_init_144 : decode cX7_init 144 = .ok (.aload_n 0, 1) := by decide +kernel
theorem dX7_init_145 : decode cX7_init 145 = .ok (.bipush 16, 2) := by decide +kernel
theorem dX7_init_147 : decode cX7_init 147 = .ok (.newarray .int, 2) := by decide +kernel
theorem dX7_init_149 : decode cX7_init 149 = .ok (.putfield 65, 3) := by decide +kernel
theorem dX7_init_152 : decode cX7_init 152 = .ok (.aload_n 0, 1) := by decide +kernel
theorem dX7_init_153 : decode cX7_init 153 = .ok (.bipush 8, 2) := by decide +kernel
theorem dX7_init_155 : decode cX7_init 155 = .ok (.newarray .int, 2) := by decide +kernel
theorem dX7_init_157 : decode cX7_init 157 = .ok (.putfield 68, 3) := by decide +kernel
theorem dX7_init_160 : decode cX7_init 160 = .ok (.aload_n 0, 1) := by decide +kernel
theorem dX7_init_161 : decode cX7_init 161 = .ok (.bipush 8, 2) := by decide +kernel
theorem dX7_init_163 : decode cX7_init 163 = .ok (.newarray .int, 2) := by decide +kernel
theorem dX7_init_165 : decode cX7_init 165 = .ok (.putfield 71, 3) := by decide +kernel
theorem dX7_init_168 : decode cX7_init 168 = .ok (.aload_n 0, 1) := by decide +kernel
theorem dX7_init_169 : decode cX7_init 169 = .ok (.bipush 28, 2) := by decide +kernel
theorem dX7_init_171 : decode cX7_init 171 = .ok (.newarray .int, 2) := by decide +kernel
theorem dX7_init_173 : decode cX7_init 173 = .ok (.putfield 74, 3) := by decide +kernel
theorem dX7_init_176 : decode cX7_init 176 = .ok (.aload_n 0, 1) := by decide +kernel
theorem dX7_init_177 : decode cX7_init 177 = .ok (.bipush 16, 2) := by decide +kernel
theorem dX7_init_179 : decode cX7_init 179 = .ok (.newarray .int, 2) := by decide +kernel
theorem dX7_init_181 : decode cX7_init 181 = .ok (.putfield 77, 3) := by decide +kernel
theorem dX7_init_184 : decode cX7_init 184 = .ok (.iconst 0, 1) := by decide +kernel
theorem dX7_init_185 : decode cX7_init 185 = .ok (.istore_n 1, 1) := by decide +kernel
theorem dX7_init_186 : decode cX7_init 186 = .ok (.iload_n 1, 1) := by decide +kernel
theorem dX7_init_187 : decode cX7_init 187 = .ok (.bipush 8, 2) := by decide +kernel
theorem dX7_init_189 : decode cX7_init 189 = .ok (.if_icmp .ge 16, 3) := by decide +kernel
theorem dX7_init_192 : decode cX7_init 192 = .ok (.aload_n 0, 1) := by decide +kernel
theorem dX7_init_193 : decode cX7_init 193 = .ok (.getfield 7, 3) := by decide +kernel
theorem dX7_init_196 : decode cX7_init 196 = .ok (.iload_n 1, 1) := by decide +kernel
theorem dX7_init_197 : decode cX7_init 197 = .ok (.iconst (-1), 1) := by decide +kernel
theorem dX7_init_198 : decode cX7_init 198 = .ok (.iastore, 1) := by decide +kernel
theorem dX7_init_199 : decode cX7_init 199 = .ok (.iinc 1 1, 3) := by decide +kernel
theorem dX7_init_202 : decode cX7_init 202 = .ok (.goto (-16), 3) := by decide +kernel
theorem dX7_init_205 : decode cX7_init 205 = .ok (.return_, 1) := by decide +kernel
theorem dX7_in_0 : decode cX7_in 0 = .ok (.iload_n 0, 1) := by decide +kernel
theorem dX7_in_1 : decode cX7_in 1 = .ok (.iload_n 1, 1) := by decide +kernel
theorem dX7_in_2 : decode cX7_in 2 = .ok (.if_icmp .lt 12, 3) := by decide +kernel
theorem dX7_in_5 : decode cX7_in 5 = .ok (.iload_n 0, 1) := by decide +kernel
theorem dX7_in_6 : decode cX7_in 6 = .ok (.iload_n 2, 1) := by decide +kernel
theorem dX7_in_7 : decode cX7_in 7 = .ok (.if_icmp .gt 7, 3) := by decide +kernel
theorem dX7_in_10 : decode cX7_in 10 = .ok (.iconst 1, 1) := by decide +kernel
theorem dX7_in_11 : decode cX7_in 11 = .ok (.goto 4, 3) := by decide +kernel
theorem dX7_in_14 : decode cX7_in 14 = .ok (.iconst 0, 1) := by decide +kernel
theorem dX7_in_15 : decode cX7_in 15 = .ok (.ireturn, 1) := by decide +kernel
theorem dX7_has_0 : decode cX7_has 0 = .ok (.iload_n 0, 1) := by decide +kernel
theorem dX7_has_1 : decode cX7_has 1 = .ok (.iload_n 1, 1) := by decide +kernel
theorem dX7_has_2 : decode cX7_has 2 = .ok (.ishr, 1) := by decide +kernel
theorem dX7_has_3 : decode cX7_has 3 = .ok (.iconst 1, 1) := by decide +kernel
theorem dX7_has_4 : decode cX7_has 4 = .ok (.iand, 1) := by decide +kernel
theorem dX7_has_5 : decode cX7_has 5 = .ok (.iconst 1, 1) := by decide +kernel
theorem dX7_has_6 : decode cX7_has 6 = .ok (.if_icmp .ne 7, 3) := by decide +kernel
theorem dX7_has_9 : decode cX7_has 9 = .ok (.iconst 1, 1) := by decide +kernel
theorem dX7_has_10 : decode cX7_has 10 = .ok (.goto 4, 3) := by decide +kernel
theorem dX7_has_13 : decode cX7_has 13 = .ok (.iconst 0, 1) := by decide +kernel
theorem dX7_has_14 : decode cX7_has 14 = .ok (.ireturn, 1) := by decide +kernel
theorem dX7_bits_0 : decode cX7_bits 0 = .ok (.iconst 0, 1) := by decide +kernel
theorem dX7_bits_1 : decode cX7_bits 1 = .ok (.istore_n 1, 1) := by decide +kernel
theorem dX7_bits_2 : decode cX7_bits 2 = .ok (.iload_n 0, 1) := by decide +kernel
theorem dX7_bits_3 : decode cX7_bits 3 = .ok (.istore_n 2, 1) := by decide +kernel
theorem dX7_bits_4 : decode cX7_bits 4 = .ok (.iload_n 2, 1) := by decide +kernel
theorem dX7_bits_5 : decode cX7_bits 5 = .ok (.ifCond .eq 15, 3) := by decide +kernel
theorem dX7_bits_8 : decode cX7_bits 8 = .ok (.iinc 1 1, 3) := by decide +kernel
theorem dX7_bits_11 : decode cX7_bits 11 = .ok (.iload_n 2, 1) := by decide +kernel
theorem dX7_bits_12 : decode cX7_bits 12 = .ok (.iload_n 2, 1) := by decide +kernel
theorem dX7_bits_13 : decode cX7_bits 13 = .ok (.iconst 1, 1) := by decide +kernel
theorem dX7_bits_14 : decode cX7_bits 14 = .ok (.isub, 1) := by decide +kernel
theorem dX7_bits_15 : decode cX7_bits 15 = .ok (.iand, 1) := by decide +kernel
theorem dX7_bits_16 : decode cX7_bits 16 = .ok (.istore_n 2, 1) := by decide +kernel
theorem dX7_bits_17 : decode cX7_bits 17 = .ok (.goto (-13), 3) := by decide +kernel
theorem dX7_bits_20 : decode cX7_bits 20 = .ok (.iload_n 1, 1) := by decide +kernel
theorem dX7_bits_21 : decode cX7_bits 21 = .ok (.ireturn, 1) := by decide +kernel
theorem dX7_least_0 : decode cX7_least 0 = .ok (.iload_n 0, 1) := by decide +kernel
theorem dX7_least_1 : decode cX7_least 1 = .ok (.iload_n 1, 1) := by decide +kernel
theorem dX7_least_2 : decode cX7_least 2 = .ok (.if_icmp .ge 7, 3) := by decide +kernel
theorem dX7_least_5 : decode cX7_least 5 = .ok (.iload_n 0, 1) := by decide +kernel
theorem dX7_least_6 : decode cX7_least 6 = .ok (.goto 4, 3) := by decide +kernel
theorem dX7_least_9 : decode cX7_least 9 = .ok (.iload_n 1, 1) := by decide +kernel
theorem dX7_least_10 : decode cX7_least 10 = .ok (.ireturn, 1) := by decide +kernel
theorem dX7_meets_0 : decode cX7_meets 0 = .ok (.aload_n 0, 1) := by decide +kernel
theorem dX7_meets_1 : decode cX7_meets 1 = .ok (.iload_n 1, 1) := by decide +kernel
theorem dX7_meets_2 : decode cX7_meets 2 = .ok (.putfield 80, 3) := by decide +kernel
theorem dX7_meets_5 : decode cX7_meets 5 = .ok (.ldc 84, 2) := by decide +kernel
theorem dX7_meets_7 : decode cX7_meets 7 = .ok (.iload_n 1, 1) := by decide +kernel
theorem dX7_meets_8 : decode cX7_meets 8 = .ok (.isub, 1) := by decide +kernel
theorem dX7_meets_9 : decode cX7_meets 9 = .ok (.ireturn, 1) := by decide +kernel
theorem dX7_well_0 : decode cX7_well 0 = .ok (.aload_n 0, 1) := by decide +kernel
theorem dX7_well_1 : decode cX7_well 1 = .ok (.iconst 0, 1) := by decide +kernel
theorem dX7_well_2 : decode cX7_well 2 = .ok (.putfield 80, 3) := by decide +kernel
theorem dX7_well_5 : decode cX7_well 5 = .ok (.iload_n 1, 1) := by decide +kernel
theorem dX7_well_6 : decode cX7_well 6 = .ok (.ireturn, 1) := by decide +kernel
theorem dX7_status_0 : decode cX7_status 0 = .ok (.aload_n 0, 1) := by decide +kernel
theorem dX7_status_1 : decode cX7_status 1 = .ok (.getfield 80, 3) := by decide +kernel
theorem dX7_status_4 : decode cX7_status 4 = .ok (.ireturn, 1) := by decide +kernel
theorem dX7_isRow_0 : decode cX7_isRow 0 = .ok (.iload_n 0, 1) := by decide +kernel
theorem dX7_isRow_1 : decode cX7_isRow 1 = .ok (.iconst 0, 1) := by decide +kernel
theorem dX7_isRow_2 : decode cX7_isRow 2 = .ok (.bipush 7, 2) := by decide +kernel
theorem dX7_isRow_4 : decode cX7_isRow 4 = .ok (.invokestatic 85, 3) := by decide +kernel
theorem dX7_isRow_7 : decode cX7_isRow 7 = .ok (.ireturn, 1) := by decide +kernel
theorem dX7_cut_0 : decode cX7_cut 0 = .ok (.iload_n 0, 1) := by decide +kernel
theorem dX7_cut_1 : decode cX7_cut 1 = .ok (.ifCond .ne 8, 3) := by decide +kernel
theorem dX7_cut_4 : decode cX7_cut 4 = .ok (.iload_n 1, 1) := by decide +kernel
theorem dX7_cut_5 : decode cX7_cut 5 = .ok (.i2b, 1) := by decide +kernel
theorem dX7_cut_6 : decode cX7_cut 6 = .ok (.goto 14, 3) := by decide +kernel
theorem dX7_cut_9 : decode cX7_cut 9 = .ok (.iload_n 0, 1) := by decide +kernel
theorem dX7_cut_10 : decode cX7_cut 10 = .ok (.iconst 1, 1) := by decide +kernel
theorem dX7_cut_11 : decode cX7_cut 11 = .ok (.if_icmp .ne 8, 3) := by decide +kernel
theorem dX7_cut_14 : decode cX7_cut 14 = .ok (.iload_n 1, 1) := by decide +kernel
theorem dX7_cut_15 : decode cX7_cut 15 = .ok (.i2s, 1) := by decide +kernel
theorem dX7_cut_16 : decode cX7_cut 16 = .ok (.goto 4, 3) := by decide +kernel
theorem dX7_cut_19 : decode cX7_cut 19 = .ok (.iload_n 1, 1) := by decide +kernel
theorem dX7_cut_20 : decode cX7_cut 20 = .ok (.ireturn, 1) := by decide +kernel
theorem dX7_row_0 : decode cX7_row 0 = .ok (.iload_n 1, 1) := by decide +kernel
theorem dX7_row_1 : decode cX7_row 1 = .ok (.invokestatic 89, 3) := by decide +kernel
theorem dX7_row_4 : decode cX7_row 4 = .ok (.ifCond .eq 18, 3) := by decide +kernel
theorem dX7_row_7 : decode cX7_row 7 = .ok (.iload_n 2, 1) := by decide +kernel
theorem dX7_row_8 : decode cX7_row 8 = .ok (.iconst 0, 1) := by decide +kernel
theorem dX7_row_9 : decode cX7_row 9 = .ok (.iconst 2, 1) := by decide +kernel
theorem dX7_row_10 : decode cX7_row 10 = .ok (.invokestatic 85, 3) := by decide +kernel
theorem dX7_row_13 : decode cX7_row 13 = .ok (.ifCond .eq 9, 3) := by decide +kernel
theorem dX7_row_16 : decode cX7_row 16 = .ok (.iload_n 3, 1) := by decide +kernel
theorem dX7_row_17 : decode cX7_row 17 = .ok (.bipush 40, 2) := by decide +kernel
theorem dX7_row_19 : decode cX7_row 19 = .ok (.if_icmp .le 6, 3) := by decide +kernel
theorem dX7_row_22 : decode cX7_row 22 = .ok (.ldc 93, 2) := by decide +kernel
theorem dX7_row_24 : decode cX7_row 24 = .ok (.ireturn, 1) := by decide +kernel
theorem dX7_row_25 : decode cX7_row 25 = .ok (.iload_n 3, 1) := by decide +kernel
theorem dX7_row_26 : decode cX7_row 26 = .ok (.ifCond .ge 9, 3) := by decide +kernel
theorem dX7_row_29 : decode cX7_row 29 = .ok (.aload_n 0, 1) := by decide +kernel
theorem dX7_row_30 : decode cX7_row 30 = .ok (.iconst 4, 1) := by decide +kernel
theorem dX7_row_31 : decode cX7_row 31 = .ok (.invokevirtual 94, 3) := by decide +kernel
theorem dX7_row_34 : decode cX7_row 34 = .ok (.ireturn, 1) := by decide +kernel
theorem dX7_row_35 : decode cX7_row 35 = .ok (.aload_n 0, 1) := by decide +kernel
theorem dX7_row_36 : decode cX7_row 36 = .ok (.getfield 7, 3) := by decide +kernel
theorem dX7_row_39 : decode cX7_row 39 = .ok (.iload_n 1, 1) := by decide +kernel
theorem dX7_row_40 : decode cX7_row 40 = .ok (.iload_n 3, 1) := by decide +kernel
theorem dX7_row_41 : decode cX7_row 41 = .ok (.iastore, 1) := by decide +kernel
theorem dX7_row_42 : decode cX7_row 42 = .ok (.aload_n 0, 1) := by decide +kernel
theorem dX7_row_43 : decode cX7_row 43 = .ok (.getfield 13, 3) := by decide +kernel
theorem dX7_row_46 : decode cX7_row 46 = .ok (.iload_n 1, 1) := by decide +kernel
theorem dX7_row_47 : decode cX7_row 47 = .ok (.iload_n 2, 1) := by decide +kernel
theorem dX7_row_48 : decode cX7_row 48 = .ok (.iastore, 1) := by decide +kernel
theorem dX7_row_49 : decode cX7_row 49 = .ok (.iconst 0, 1) := by decide +kernel
theorem dX7_row_50 : decode cX7_row 50 = .ok (.istore 4, 2) := by decide +kernel
theorem dX7_row_52 : decode cX7_row 52 = .ok (.iload 4, 2) := by decide +kernel
theorem dX7_row_54 : decode cX7_row 54 = .ok (.bipush 40, 2) := by decide +kernel
theorem dX7_row_56 : decode cX7_row 56 = .ok (.if_icmp .ge 22, 3) := by decide +kernel
theorem dX7_row_59 : decode cX7_row 59 = .ok (.aload_n 0, 1) := by decide +kernel
theorem dX7_row_60 : decode cX7_row 60 = .ok (.getfield 16, 3) := by decide +kernel
theorem dX7_row_63 : decode cX7_row 63 = .ok (.bipush 40, 2) := by decide +kernel
theorem dX7_row_65 : decode cX7_row 65 = .ok (.iload_n 1, 1) := by decide +kernel
theorem dX7_row_66 : decode cX7_row 66 = .ok (.imul, 1) := by decide +kernel
theorem dX7_row_67 : decode cX7_row 67 = .ok (.iload 4, 2) := by decide +kernel
theorem dX7_row_69 : decode cX7_row 69 = .ok (.iadd, 1) := by decide +kernel
theorem dX7_row_70 : decode cX7_row 70 = .ok (.iconst 0, 1) := by decide +kernel
theorem dX7_row_71 : decode cX7_row 71 = .ok (.iastore, 1) := by decide +kernel
theorem dX7_row_72 : decode cX7_row 72 = .ok (.iinc 4 1, 3) := by decide +kernel
theorem dX7_row_75 : decode cX7_row 75 = .ok (.goto (-23), 3) := by decide +kernel
theorem dX7_row_78 : decode cX7_row 78 = .ok (.aload_n 0, 1) := by decide +kernel
theorem dX7_row_79 : decode cX7_row 79 = .ok (.iload_n 3, 1) := by decide +kernel
theorem dX7_row_80 : decode cX7_row 80 = .ok (.invokevirtual 98, 3) := by decide +kernel
theorem dX7_row_83 : decode cX7_row 83 = .ok (.ireturn, 1) := by decide +kernel
theorem dX7_set_0 : decode cX7_set 0 = .ok (.iload_n 1, 1) := by decide +kernel
theorem dX7_set_1 : decode cX7_set 1 = .ok (.invokestatic 89, 3) := by decide +kernel
theorem dX7_set_4 : decode cX7_set 4 = .ok (.ifCond .ne 6, 3) := by decide +kernel
theorem dX7_set_7 : decode cX7_set 7 = .ok (.ldc 93, 2) := by decide +kernel
theorem dX7_set_9 : decode cX7_set 9 = .ok (.ireturn, 1) := by decide +kernel
theorem dX7_set_10 : decode cX7_set 10 = .ok (.aload_n 0, 1) := by decide +kernel
theorem dX7_set_11 : decode cX7_set 11 = .ok (.getfield 7, 3) := by decide +kernel
theorem dX7_set_14 : decode cX7_set 14 = .ok (.iload_n 1, 1) := by decide +kernel
theorem dX7_set_15 : decode cX7_set 15 = .ok (.iaload, 1) := by decide +kernel
theorem dX7_set_16 : decode cX7_set 16 = .ok (.ifCond .ge 9, 3) := by decide +kernel
theorem dX7_set_19 : decode cX7_set 19 = .ok (.aload_n 0, 1) := by decide +kernel
theorem dX7_set_20 : decode cX7_set 20 = .ok (.iconst 1, 1) := by decide +kernel
theorem dX7_set_21 : decode cX7_set 21 = .ok (.invokevirtual 94, 3) := by decide +kernel
theorem dX7_set_24 : decode cX7_set 24 = .ok (.ireturn, 1) := by decide +kernel
theorem dX7_set_25 : decode cX7_set 25 = .ok (.iload_n 2, 1) := by decide +kernel
theorem dX7_set_26 : decode cX7_set 26 = .ok (.iconst 0, 1) := by decide +kernel
theorem dX7_set_27 : decode cX7_set 27 = .ok (.aload_n 0, 1) := by decide +kernel
theorem dX7_set_28 : decode cX7_set 28 = .ok (.getfield 7, 3) := by decide +kernel
theorem dX7_set_31 : decode cX7_set 31 = .ok (.iload_n 1, 1) := by decide +kernel
theorem dX7_set_32 : decode cX7_set 32 = .ok (.iaload, 1) := by decide +kernel
theorem dX7_set_33 : decode cX7_set 33 = .ok (.iconst 1, 1) := by decide +kernel
theorem dX7_set_34 : decode cX7_set 34 = .ok (.isub, 1) := by decide +kernel
theorem dX7_set_35 : decode cX7_set 35 = .ok (.invokestatic 85, 3) := by decide +kernel
theorem dX7_set_38 : decode cX7_set 38 = .ok (.ifCond .ne 9, 3) := by decide +kernel
theorem dX7_set_41 : decode cX7_set 41 = .ok (.aload_n 0, 1) := by decide +kernel
theorem dX7_set_42 : decode cX7_set 42 = .ok (.iconst 2, 1) := by decide +kernel
theorem dX7_set_43 : decode cX7_set 43 = .ok (.invokevirtual 94, 3) := by decide +kernel
theorem dX7_set_46 : decode cX7_set 46 = .ok (.ireturn, 1) := by decide +kernel
theorem dX7_set_47 : decode cX7_set 47 = .ok (.aload_n 0, 1) := by decide +kernel
theorem dX7_set_48 : decode cX7_set 48 = .ok (.getfield 16, 3) := by decide +kernel
theorem dX7_set_51 : decode cX7_set 51 = .ok (.bipush 40, 2) := by decide +kernel
theorem dX7_set_53 : decode cX7_set 53 = .ok (.iload_n 1, 1) := by decide +kernel
theorem dX7_set_54 : decode cX7_set 54 = .ok (.imul, 1) := by decide +kernel
theorem dX7_set_55 : decode cX7_set 55 = .ok (.iload_n 2, 1) := by decide +kernel
theorem dX7_set_56 : decode cX7_set 56 = .ok (.iadd, 1) := by decide +kernel
theorem dX7_set_57 : decode cX7_set 57 = .ok (.aload_n 0, 1) := by decide +kernel
theorem dX7_set_58 : decode cX7_set 58 = .ok (.getfield 13, 3) := by decide +kernel
theorem dX7_set_61 : decode cX7_set 61 = .ok (.iload_n 1, 1) := by decide +kernel
theorem dX7_set_62 : decode cX7_set 62 = .ok (.iaload, 1) := by decide +kernel
theorem dX7_set_63 : decode cX7_set 63 = .ok (.iload_n 3, 1) := by decide +kernel
theorem dX7_set_64 : decode cX7_set 64 = .ok (.invokestatic 101, 3) := by decide +kernel
theorem dX7_set_67 : decode cX7_set 67 = .ok (.iastore, 1) := by decide +kernel
theorem dX7_set_68 : decode cX7_set 68 = .ok (.aload_n 0, 1) := by decide +kernel
theorem dX7_set_69 : decode cX7_set 69 = .ok (.aload_n 0, 1) := by decide +kernel
theorem dX7_set_70 : decode cX7_set 70 = .ok (.getfield 16, 3) := by decide +kernel
theorem dX7_set_73 : decode cX7_set 73 = .ok (.bipush 40, 2) := by decide +kernel
theorem dX7_set_75 : decode cX7_set 75 = .ok (.iload_n 1, 1) := by decide +kernel
theorem dX7_set_76 : decode cX7_set 76 = .ok (.imul, 1) := by decide +kernel
theorem dX7_set_77 : decode cX7_set 77 = .ok (.iload_n 2, 1) := by decide +kernel
theorem dX7_set_78 : decode cX7_set 78 = .ok (.iadd, 1) := by decide +kernel
theorem dX7_set_79 : decode cX7_set 79 = .ok (.iaload, 1) := by decide +kernel
theorem dX7_set_80 : decode cX7_set 80 = .ok (.invokevirtual 98, 3) := by decide +kernel
theorem dX7_set_83 : decode cX7_set 83 = .ok (.ireturn, 1) := by decide +kernel
theorem dX7_isPart_0 : decode cX7_isPart 0 = .ok (.iload_n 2, 1) := by decide +kernel
theorem dX7_isPart_1 : decode cX7_isPart 1 = .ok (.ifCond .lt 33, 3) := by decide +kernel
theorem dX7_isPart_4 : decode cX7_isPart 4 = .ok (.iload_n 3, 1) := by decide +kernel
theorem dX7_isPart_5 : decode cX7_isPart 5 = .ok (.ifCond .lt 29, 3) := by decide +kernel
theorem dX7_isPart_8 : decode cX7_isPart 8 = .ok (.iload_n 2, 1) := by decide +kernel
theorem dX7_isPart_9 : decode cX7_isPart 9 = .ok (.aload_n 0, 1) := by decide +kernel
theorem dX7_isPart_10 : decode cX7_isPart 10 = .ok (.getfield 7, 3) := by decide +kernel
theorem dX7_isPart_13 : decode cX7_isPart 13 = .ok (.iload_n 1, 1) := by decide +kernel
theorem dX7_isPart_14 : decode cX7_isPart 14 = .ok (.iaload, 1) := by decide +kernel
theorem dX7_isPart_15 : decode cX7_isPart 15 = .ok (.if_icmp .gt 19, 3) := by decide +kernel
theorem dX7_isPart_18 : decode cX7_isPart 18 = .ok (.iload_n 3, 1) := by decide +kernel
theorem dX7_isPart_19 : decode cX7_isPart 19 = .ok (.aload_n 0, 1) := by decide +kernel
theorem dX7_isPart_20 : decode cX7_isPart 20 = .ok (.getfield 7, 3) := by decide +kernel
theorem dX7_isPart_23 : decode cX7_isPart 23 = .ok (.iload_n 1, 1) := by decide +kernel
theorem dX7_isPart_24 : decode cX7_isPart 24 = .ok (.iaload, 1) := by decide +kernel
theorem dX7_isPart_25 : decode cX7_isPart 25 = .ok (.iload_n 2, 1) := by decide +kernel
theorem dX7_isPart_26 : decode cX7_isPart 26 = .ok (.isub, 1) := by decide +kernel
theorem dX7_isPart_27 : decode cX7_isPart 27 = .ok (.if_icmp .gt 7, 3) := by decide +kernel
theorem dX7_isPart_30 : decode cX7_isPart 30 = .ok (.iconst 1, 1) := by decide +kernel
theorem dX7_isPart_31 : decode cX7_isPart 31 = .ok (.goto 4, 3) := by decide +kernel
theorem dX7_isPart_34 : decode cX7_isPart 34 = .ok (.iconst 0, 1) := by decide +kernel
theorem dX7_isPart_35 : decode cX7_isPart 35 = .ok (.ireturn, 1) := by decide +kernel
theorem dX7_copy_0 : decode cX7_copy 0 = .ok (.iload_n 1, 1) := by decide +kernel
theorem dX7_copy_1 : decode cX7_copy 1 = .ok (.invokestatic 89, 3) := by decide +kernel
theorem dX7_copy_4 : decode cX7_copy 4 = .ok (.ifCond .eq 10, 3) := by decide +kernel
theorem dX7_copy_7 : decode cX7_copy 7 = .ok (.iload_n 3, 1) := by decide +kernel
theorem dX7_copy_8 : decode cX7_copy 8 = .ok (.invokestatic 89, 3) := by decide +kernel
theorem dX7_copy_11 : decode cX7_copy 11 = .ok (.ifCond .ne 6, 3) := by decide +kernel
theorem dX7_copy_14 : decode cX7_copy 14 = .ok (.ldc 93, 2) := by decide +kernel
theorem dX7_copy_16 : decode cX7_copy 16 = .ok (.ireturn, 1) := by decide +kernel
theorem dX7_copy_17 : decode cX7_copy 17 = .ok (.aload_n 0, 1) := by decide +kernel
theorem dX7_copy_18 : decode cX7_copy 18 = .ok (.getfield 7, 3) := by decide +kernel
theorem dX7_copy_21 : decode cX7_copy 21 = .ok (.iload_n 1, 1) := by decide +kernel
theorem dX7_copy_22 : decode cX7_copy 22 = .ok (.iaload, 1) := by decide +kernel
theorem dX7_copy_23 : decode cX7_copy 23 = .ok (.ifCond .lt 12, 3) := by decide +kernel
theorem dX7_copy_26 : decode cX7_copy 26 = .ok (.aload_n 0, 1) := by decide +kernel
theorem dX7_copy_27 : decode cX7_copy 27 = .ok (.getfield 7, 3) := by decide +kernel
theorem dX7_copy_30 : decode cX7_copy 30 = .ok (.iload_n 3, 1) := by decide +kernel
theorem dX7_copy_31 : decode cX7_copy 31 = .ok (.iaload, 1) := by decide +kernel
theorem dX7_copy_32 : decode cX7_copy 32 = .ok (.ifCond .ge 9, 3) := by decide +kernel
theorem dX7_copy_35 : decode cX7_copy 35 = .ok (.aload_n 0, 1) := by decide +kernel
theorem dX7_copy_36 : decode cX7_copy 36 = .ok (.iconst 1, 1) := by decide +kernel
theorem dX7_copy_37 : decode cX7_copy 37 = .ok (.invokevirtual 94, 3) := by decide +kernel
theorem dX7_copy_40 : decode cX7_copy 40 = .ok (.ireturn, 1) := by decide +kernel
theorem dX7_copy_41 : decode cX7_copy 41 = .ok (.aload_n 0, 1) := by decide +kernel
theorem dX7_copy_42 : decode cX7_copy 42 = .ok (.getfield 13, 3) := by decide +kernel
theorem dX7_copy_45 : decode cX7_copy 45 = .ok (.iload_n 1, 1) := by decide +kernel
theorem dX7_copy_46 : decode cX7_copy 46 = .ok (.iaload, 1) := by decide +kernel
theorem dX7_copy_47 : decode cX7_copy 47 = .ok (.aload_n 0, 1) := by decide +kernel
theorem dX7_copy_48 : decode cX7_copy 48 = .ok (.getfield 13, 3) := by decide +kernel
theorem dX7_copy_51 : decode cX7_copy 51 = .ok (.iload_n 3, 1) := by decide +kernel
theorem dX7_copy_52 : decode cX7_copy 52 = .ok (.iaload, 1) := by decide +kernel
theorem dX7_copy_53 : decode cX7_copy 53 = .ok (.if_icmp .eq 9, 3) := by decide +kernel
theorem dX7_copy_56 : decode cX7_copy 56 = .ok (.aload_n 0, 1) := by decide +kernel
theorem dX7_copy_57 : decode cX7_copy 57 = .ok (.iconst 5, 1) := by decide +kernel
theorem dX7_copy_58 : decode cX7_copy 58 = .ok (.invokevirtual 94, 3) := by decide +kernel
theorem dX7_copy_61 : decode cX7_copy 61 = .ok (.ireturn, 1) := by decide +kernel
theorem dX7_copy_62 : decode cX7_copy 62 = .ok (.aload_n 0, 1) := by decide +kernel
theorem dX7_copy_63 : decode cX7_copy 63 = .ok (.iload_n 1, 1) := by decide +kernel
theorem dX7_copy_64 : decode cX7_copy 64 = .ok (.iload_n 2, 1) := by decide +kernel
theorem dX7_copy_65 : decode cX7_copy 65 = .ok (.iload 5, 2) := by decide +kernel
theorem dX7_copy_67 : decode cX7_copy 67 = .ok (.invokevirtual 105, 3) := by decide +kernel
theorem dX7_copy_70 : decode cX7_copy 70 = .ok (.ifCond .eq 15, 3) := by decide +kernel
theorem dX7_copy_73 : decode cX7_copy 73 = .ok (.aload_n 0, 1) := by decide +kernel
theorem dX7_copy_74 : decode cX7_copy 74 = .ok (.iload_n 3, 1) := by decide +kernel
theorem dX7_copy_75 : decode cX7_copy 75 = .ok (.iload 4, 2) := by decide +kernel
theorem dX7_copy_77 : decode cX7_copy 77 = .ok (.iload 5, 2) := by decide +kernel
theorem dX7_copy_79 : decode cX7_copy 79 = .ok (.invokevirtual 105, 3) := by decide +kernel
theorem dX7_copy_82 : decode cX7_copy 82 = .ok (.ifCond .ne 9, 3) := by decide +kernel
theorem dX7_copy_85 : decode cX7_copy 85 = .ok (.aload_n 0, 1) := by decide +kernel
theorem dX7_copy_86 : decode cX7_copy 86 = .ok (.iconst 2, 1) := by decide +kernel
theorem dX7_copy_87 : decode cX7_copy 87 = .ok (.invokevirtual 94, 3) := by decide +kernel
theorem dX7_copy_90 : decode cX7_copy 90 = .ok (.ireturn, 1) := by decide +kernel
theorem dX7_copy_91 : decode cX7_copy 91 = .ok (.iload_n 1, 1) := by decide +kernel
theorem dX7_copy_92 : decode cX7_copy 92 = .ok (.iload_n 3, 1) := by decide +kernel
theorem dX7_copy_93 : decode cX7_copy 93 = .ok (.if_icmp .ne 13, 3) := by decide +kernel
theorem dX7_copy_96 : decode cX7_copy 96 = .ok (.iload_n 2, 1) := by decide +kernel
theorem dX7_copy_97 : decode cX7_copy 97 = .ok (.iload 4, 2) := by decide +kernel
theorem dX7_copy_99 : decode cX7_copy 99 = .ok (.if_icmp .ge 7, 3) := by decide +kernel
theorem dX7_copy_102 : decode cX7_copy 102 = .ok (.iconst 1, 1) := by decide +kernel
theorem dX7_copy_103 : decode cX7_copy 103 = .ok (.goto 4, 3) := by decide +kernel
theorem dX7_copy_106 : decode cX7_copy 106 = .ok (.iconst 0, 1) := by decide +kernel
theorem dX7_copy_107 : decode cX7_copy 107 = .ok (.istore 6, 2) := by decide +kernel
theorem dX7_copy_109 : decode cX7_copy 109 = .ok (.iconst 0, 1) := by decide +kernel
theorem dX7_copy_110 : decode cX7_copy 110 = .ok (.istore 7, 2) := by decide +kernel
theorem dX7_copy_112 : decode cX7_copy 112 = .ok (.iload 7, 2) := by decide +kernel
theorem dX7_copy_114 : decode cX7_copy 114 = .ok (.iload 5, 2) := by decide +kernel
theorem dX7_copy_116 : decode cX7_copy 116 = .ok (.if_icmp .ge 57, 3) := by decide +kernel
theorem dX7_copy_119 : decode cX7_copy 119 = .ok (.iload 6, 2) := by decide +kernel
theorem dX7_copy_121 : decode cX7_copy 121 = .ok (.ifCond .eq 13, 3) := by decide +kernel
theorem dX7_copy_124 : decode cX7_copy 124 = .ok (.iload 5, 2) := by decide +kernel
theorem dX7_copy_126 : decode cX7_copy 126 = .ok (.iconst 1, 1) := by decide +kernel
theorem dX7_copy_127 : decode cX7_copy 127 = .ok (.isub, 1) := by decide +kernel
theorem dX7_copy_128 : decode cX7_copy 128 = .ok (.iload 7, 2) := by decide +kernel
theorem dX7_copy_130 : decode cX7_copy 130 = .ok (.isub, 1) := by decide +kernel
theorem dX7_copy_131 : decode cX7_copy 131 = .ok (.goto 5, 3) := by decide +kernel
theorem dX7_copy_134 : decode cX7_copy 134 = .ok (.iload 7, 2) := by decide +kernel
theorem dX7_copy_136 : decode cX7_copy 136 = .ok (.istore 8, 2) := by decide +kernel
theorem dX7_copy_138 : decode cX7_copy 138 = .ok (.aload_n 0, 1) := by decide +kernel
theorem dX7_copy_139 : decode cX7_copy 139 = .ok (.getfield 16, 3) := by decide +kernel
theorem dX7_copy_142 : decode cX7_copy 142 = .ok (.bipush 40, 2) := by decide +kernel
theorem dX7_copy_144 : decode cX7_copy 144 = .ok (.iload_n 3, 1) := by decide +kernel
theorem dX7_copy_145 : decode cX7_copy 145 = .ok (.imul, 1) := by decide +kernel
theorem dX7_copy_146 : decode cX7_copy 146 = .ok (.iload 4, 2) := by decide +kernel
theorem dX7_copy_148 : decode cX7_copy 148 = .ok (.iadd, 1) := by decide +kernel
theorem dX7_copy_149 : decode cX7_copy 149 = .ok (.iload 8, 2) := by decide +kernel
theorem dX7_copy_151 : decode cX7_copy 151 = .ok (.iadd, 1) := by decide +kernel
theorem dX7_copy_152 : decode cX7_copy 152 = .ok (.aload_n 0, 1) := by decide +kernel
theorem dX7_copy_153 : decode cX7_copy 153 = .ok (.getfield 16, 3) := by decide +kernel
theorem dX7_copy_156 : decode cX7_copy 156 = .ok (.bipush 40, 2) := by decide +kernel
theorem dX7_copy_158 : decode cX7_copy 158 = .ok (.iload_n 1, 1) := by decide +kernel
theorem dX7_copy_159 : decode cX7_copy 159 = .ok (.imul, 1) := by decide +kernel
theorem dX7_copy_160 : decode cX7_copy 160 = .ok (.iload_n 2, 1) := by decide +kernel
theorem dX7_copy_161 : decode cX7_copy 161 = .ok (.iadd, 1) := by decide +kernel
theorem dX7_copy_162 : decode cX7_copy 162 = .ok (.iload 8, 2) := by decide +kernel
theorem dX7_copy_164 : decode cX7_copy 164 = .ok (.iadd, 1) := by decide +kernel
theorem dX7_copy_165 : decode cX7_copy 165 = .ok (.iaload, 1) := by decide +kernel
theorem dX7_copy_166 : decode cX7_copy 166 = .ok (.iastore, 1) := by decide +kernel
theorem dX7_copy_167 : decode cX7_copy 167 = .ok (.iinc 7 1, 3) := by decide +kernel
theorem dX7_copy_170 : decode cX7_copy 170 = .ok (.goto (-58), 3) := by decide +kernel
theorem dX7_copy_173 : decode cX7_copy 173 = .ok (.aload_n 0, 1) := by decide +kernel
theorem dX7_copy_174 : decode cX7_copy 174 = .ok (.iload 5, 2) := by decide +kernel
theorem dX7_copy_176 : decode cX7_copy 176 = .ok (.invokevirtual 98, 3) := by decide +kernel
theorem dX7_copy_179 : decode cX7_copy 179 = .ok (.ireturn, 1) := by decide +kernel
theorem dX7_drop_0 : decode cX7_drop 0 = .ok (.iload_n 1, 1) := by decide +kernel
theorem dX7_drop_1 : decode cX7_drop 1 = .ok (.invokestatic 89, 3) := by decide +kernel
theorem dX7_drop_4 : decode cX7_drop 4 = .ok (.ifCond .ne 6, 3) := by decide +kernel
theorem dX7_drop_7 : decode cX7_drop 7 = .ok (.ldc 93, 2) := by decide +kernel
theorem dX7_drop_9 : decode cX7_drop 9 = .ok (.ireturn, 1) := by decide +kernel
theorem dX7_drop_10 : decode cX7_drop 10 = .ok (.aload_n 0, 1) := by decide +kernel
theorem dX7_drop_11 : decode cX7_drop 11 = .ok (.getfield 7, 3) := by decide +kernel
theorem dX7_drop_14 : decode cX7_drop 14 = .ok (.iload_n 1, 1) := by decide +kernel
theorem dX7_drop_15 : decode cX7_drop 15 = .ok (.iaload, 1) := by decide +kernel
theorem dX7_drop_16 : decode cX7_drop 16 = .ok (.ifCond .ge 9, 3) := by decide +kernel
theorem dX7_drop_19 : decode cX7_drop 19 = .ok (.aload_n 0, 1) := by decide +kernel
theorem dX7_drop_20 : decode cX7_drop 20 = .ok (.iconst 1, 1) := by decide +kernel
theorem dX7_drop_21 : decode cX7_drop 21 = .ok (.invokevirtual 94, 3) := by decide +kernel
theorem dX7_drop_24 : decode cX7_drop 24 = .ok (.ireturn, 1) := by decide +kernel
theorem dX7_drop_25 : decode cX7_drop 25 = .ok (.aload_n 0, 1) := by decide +kernel
theorem dX7_drop_26 : decode cX7_drop 26 = .ok (.getfield 7, 3) := by decide +kernel
theorem dX7_drop_29 : decode cX7_drop 29 = .ok (.iload_n 1, 1) := by decide +kernel
theorem dX7_drop_30 : decode cX7_drop 30 = .ok (.iaload, 1) := by decide +kernel
theorem dX7_drop_31 : decode cX7_drop 31 = .ok (.istore_n 2, 1) := by decide +kernel
theorem dX7_drop_32 : decode cX7_drop 32 = .ok (.aload_n 0, 1) := by decide +kernel
theorem dX7_drop_33 : decode cX7_drop 33 = .ok (.getfield 7, 3) := by decide +kernel
theorem dX7_drop_36 : decode cX7_drop 36 = .ok (.iload_n 1, 1) := by decide +kernel
theorem dX7_drop_37 : decode cX7_drop 37 = .ok (.iconst (-1), 1) := by decide +kernel
theorem dX7_drop_38 : decode cX7_drop 38 = .ok (.iastore, 1) := by decide +kernel
theorem dX7_drop_39 : decode cX7_drop 39 = .ok (.aload_n 0, 1) := by decide +kernel
theorem dX7_drop_40 : decode cX7_drop 40 = .ok (.iload_n 2, 1) := by decide +kernel
theorem dX7_drop_41 : decode cX7_drop 41 = .ok (.invokevirtual 98, 3) := by decide +kernel
theorem dX7_drop_44 : decode cX7_drop 44 = .ok (.ireturn, 1) := by decide +kernel
theorem dX7_itemAt_0 : decode cX7_itemAt 0 = .ok (.aload_n 0, 1) := by decide +kernel
theorem dX7_itemAt_1 : decode cX7_itemAt 1 = .ok (.getfield 16, 3) := by decide +kernel
theorem dX7_itemAt_4 : decode cX7_itemAt 4 = .ok (.bipush 40, 2) := by decide +kernel
theorem dX7_itemAt_6 : decode cX7_itemAt 6 = .ok (.iload_n 1, 1) := by decide +kernel
theorem dX7_itemAt_7 : decode cX7_itemAt 7 = .ok (.imul, 1) := by decide +kernel
theorem dX7_itemAt_8 : decode cX7_itemAt 8 = .ok (.iload_n 2, 1) := by decide +kernel
theorem dX7_itemAt_9 : decode cX7_itemAt 9 = .ok (.iadd, 1) := by decide +kernel
theorem dX7_itemAt_10 : decode cX7_itemAt 10 = .ok (.iaload, 1) := by decide +kernel
theorem dX7_itemAt_11 : decode cX7_itemAt 11 = .ok (.ireturn, 1) := by decide +kernel
theorem dX7_feed_0 : decode cX7_feed 0 = .ok (.iload_n 1, 1) := by decide +kernel
theorem dX7_feed_1 : decode cX7_feed 1 = .ok (.iconst 0, 1) := by decide +kernel
theorem dX7_feed_2 : decode cX7_feed 2 = .ok (.sipush 255, 3) := by decide +kernel
theorem dX7_feed_5 : decode cX7_feed 5 = .ok (.invokestatic 85, 3) := by decide +kernel
theorem dX7_feed_8 : decode cX7_feed 8 = .ok (.ifCond .ne 6, 3) := by decide +kernel
theorem dX7_feed_11 : decode cX7_feed 11 = .ok (.ldc 93, 2) := by decide +kernel
theorem dX7_feed_13 : decode cX7_feed 13 = .ok (.ireturn, 1) := by decide +kernel
theorem dX7_feed_14 : decode cX7_feed 14 = .ok (.aload_n 0, 1) := by decide +kernel
theorem dX7_feed_15 : decode cX7_feed 15 = .ok (.getfield 108, 3) := by decide +kernel
theorem dX7_feed_18 : decode cX7_feed 18 = .ok (.bipush 120, 2) := by decide +kernel
theorem dX7_feed_20 : decode cX7_feed 20 = .ok (.if_icmp .ne 6, 3) := by decide +kernel
theorem dX7_feed_23 : decode cX7_feed 23 = .ok (.ldc 111, 2) := by decide +kernel
theorem dX7_feed_25 : decode cX7_feed 25 = .ok (.ireturn, 1) := by decide +kernel
theorem dX7_feed_26 : decode cX7_feed 26 = .ok (.aload_n 0, 1) := by decide +kernel
theorem dX7_feed_27 : decode cX7_feed 27 = .ok (.getfield 19, 3) := by decide +kernel
theorem dX7_feed_30 : decode cX7_feed 30 = .ok (.aload_n 0, 1) := by decide +kernel
theorem dX7_feed_31 : decode cX7_feed 31 = .ok (.getfield 108, 3) := by decide +kernel
theorem dX7_feed_34 : decode cX7_feed 34 = .ok (.iload_n 1, 1) := by decide +kernel
theorem dX7_feed_35 : decode cX7_feed 35 = .ok (.iastore, 1) := by decide +kernel
theorem dX7_feed_36 : decode cX7_feed 36 = .ok (.aload_n 0, 1) := by decide +kernel
theorem dX7_feed_37 : decode cX7_feed 37 = .ok (.dup, 1) := by decide +kernel
theorem dX7_feed_38 : decode cX7_feed 38 = .ok (.getfield 108, 3) := by decide +kernel
theorem dX7_feed_41 : decode cX7_feed 41 = .ok (.iconst 1, 1) := by decide +kernel
theorem dX7_feed_42 : decode cX7_feed 42 = .ok (.iadd, 1) := by decide +kernel
theorem dX7_feed_43 : decode cX7_feed 43 = .ok (.putfield 108, 3) := by decide +kernel
theorem dX7_feed_46 : decode cX7_feed 46 = .ok (.aload_n 0, 1) := by decide +kernel
theorem dX7_feed_47 : decode cX7_feed 47 = .ok (.getfield 108, 3) := by decide +kernel
theorem dX7_feed_50 : decode cX7_feed 50 = .ok (.ireturn, 1) := by decide +kernel
theorem dX7_fault_0 : decode cX7_fault 0 = .ok (.aload_n 0, 1) := by decide +kernel
theorem dX7_fault_1 : decode cX7_fault 1 = .ok (.getfield 112, 3) := by decide +kernel
theorem dX7_fault_4 : decode cX7_fault 4 = .ok (.ireturn, 1) := by decide +kernel
theorem dX7_here_0 : decode cX7_here 0 = .ok (.aload_n 0, 1) := by decide +kernel
theorem dX7_here_1 : decode cX7_here 1 = .ok (.getfield 115, 3) := by decide +kernel
theorem dX7_here_4 : decode cX7_here 4 = .ok (.aload_n 0, 1) := by decide +kernel
theorem dX7_here_5 : decode cX7_here 5 = .ok (.getfield 108, 3) := by decide +kernel
theorem dX7_here_8 : decode cX7_here 8 = .ok (.if_icmp .ge 15, 3) := by decide +kernel
theorem dX7_here_11 : decode cX7_here 11 = .ok (.aload_n 0, 1) := by decide +kernel
theorem dX7_here_12 : decode cX7_here 12 = .ok (.getfield 19, 3) := by decide +kernel
theorem dX7_here_15 : decode cX7_here 15 = .ok (.aload_n 0, 1) := by decide +kernel
theorem dX7_here_16 : decode cX7_here 16 = .ok (.getfield 115, 3) := by decide +kernel
theorem dX7_here_19 : decode cX7_here 19 = .ok (.iaload, 1) := by decide +kernel
theorem dX7_here_20 : decode cX7_here 20 = .ok (.goto 4, 3) := by decide +kernel
theorem dX7_here_23 : decode cX7_here 23 = .ok (.iconst (-1), 1) := by decide +kernel
theorem dX7_here_24 : decode cX7_here 24 = .ok (.ireturn, 1) := by decide +kernel
theorem dX7_isFigure_0 : decode cX7_isFigure 0 = .ok (.iload_n 1, 1) := by decide +kernel
theorem dX7_isFigure_1 : decode cX7_isFigure 1 = .ok (.aload_n 0, 1) := by decide +kernel
theorem dX7_isFigure_2 : decode cX7_isFigure 2 = .ok (.getfield 108, 3) := by decide +kernel
theorem dX7_isFigure_5 : decode cX7_isFigure 5 = .ok (.if_icmp .ge 23, 3) := by decide +kernel
theorem dX7_isFigure_8 : decode cX7_isFigure 8 = .ok (.aload_n 0, 1) := by decide +kernel
theorem dX7_isFigure_9 : decode cX7_isFigure 9 = .ok (.getfield 19, 3) := by decide +kernel
theorem dX7_isFigure_12 : decode cX7_isFigure 12 = .ok (.iload_n 1, 1) := by decide +kernel
theorem dX7_isFigure_13 : decode cX7_isFigure 13 = .ok (.iaload, 1) := by decide +kernel
theorem dX7_isFigure_14 : decode cX7_isFigure 14 = .ok (.bipush 48, 2) := by decide +kernel
theorem dX7_isFigure_16 : decode cX7_isFigure 16 = .ok (.bipush 57, 2) := by decide +kernel
theorem dX7_isFigure_18 : decode cX7_isFigure 18 = .ok (.invokestatic 85, 3) := by decide +kernel
theorem dX7_isFigure_21 : decode cX7_isFigure 21 = .ok (.ifCond .eq 7, 3) := by decide +kernel
theorem dX7_isFigure_24 : decode cX7_isFigure 24 = .ok (.iconst 1, 1) := by decide +kernel
theorem dX7_isFigure_25 : decode cX7_isFigure 25 = .ok (.goto 4, 3) := by decide +kernel
theorem dX7_isFigure_28 : decode cX7_isFigure 28 = .ok (.iconst 0, 1) := by decide +kernel
theorem dX7_isFigure_29 : decode cX7_isFigure 29 = .ok (.ireturn, 1) := by decide +kernel
theorem dX7_run_0 : decode cX7_run 0 = .ok (.iconst 0, 1) := by decide +kernel
theorem dX7_run_1 : decode cX7_run 1 = .ok (.istore_n 1, 1) := by decide +kernel
theorem dX7_run_2 : decode cX7_run 2 = .ok (.aload_n 0, 1) := by decide +kernel
theorem dX7_run_3 : decode cX7_run 3 = .ok (.aload_n 0, 1) := by decide +kernel
theorem dX7_run_4 : decode cX7_run 4 = .ok (.getfield 115, 3) := by decide +kernel
theorem dX7_run_7 : decode cX7_run 7 = .ok (.iload_n 1, 1) := by decide +kernel
theorem dX7_run_8 : decode cX7_run 8 = .ok (.iadd, 1) := by decide +kernel
theorem dX7_run_9 : decode cX7_run 9 = .ok (.invokevirtual 118, 3) := by decide +kernel
theorem dX7_run_12 : decode cX7_run 12 = .ok (.ifCond .eq 9, 3) := by decide +kernel
theorem dX7_run_15 : decode cX7_run 15 = .ok (.iinc 1 1, 3) := by decide +kernel
theorem dX7_run_18 : decode cX7_run 18 = .ok (.goto (-16), 3) := by decide +kernel
theorem dX7_run_21 : decode cX7_run 21 = .ok (.iload_n 1, 1) := by decide +kernel
theorem dX7_run_22 : decode cX7_run 22 = .ok (.ireturn, 1) := by decide +kernel
theorem dX7_fails_0 : decode cX7_fails 0 = .ok (.aload_n 0, 1) := by decide +kernel
theorem dX7_fails_1 : decode cX7_fails 1 = .ok (.iload_n 1, 1) := by decide +kernel
theorem dX7_fails_2 : decode cX7_fails 2 = .ok (.putfield 121, 3) := by decide +kernel
theorem dX7_fails_5 : decode cX7_fails 5 = .ok (.iconst 0, 1) := by decide +kernel
theorem dX7_fails_6 : decode cX7_fails 6 = .ok (.ireturn, 1) := by decide +kernel
theorem dX7_readsSign_0 : decode cX7_readsSign 0 = .ok (.aload_n 0, 1) := by decide +kernel
theorem dX7_readsSign_1 : decode cX7_readsSign 1 = .ok (.invokevirtual 124, 3) := by decide +kernel
theorem dX7_readsSign_4 : decode cX7_readsSign 4 = .ok (.iload_n 1, 1) := by decide +kernel
theorem dX7_readsSign_5 : decode cX7_readsSign 5 = .ok (.if_icmp .eq 9, 3) := by decide +kernel
theorem dX7_readsSign_8 : decode cX7_readsSign 8 = .ok (.aload_n 0, 1) := by decide +kernel
theorem dX7_readsSign_9 : decode cX7_readsSign 9 = .ok (.iconst 1, 1) := by decide +kernel
theorem dX7_readsSign_10 : decode cX7_readsSign 10 = .ok (.invokevirtual 128, 3) := by decide +kernel
theorem dX7_readsSign_13 : decode cX7_readsSign 13 = .ok (.ireturn, 1) := by decide +kernel
theorem dX7_readsSign_14 : decode cX7_readsSign 14 = .ok (.aload_n 0, 1) := by decide +kernel
theorem dX7_readsSign_15 : decode cX7_readsSign 15 = .ok (.dup, 1) := by decide +kernel
theorem dX7_readsSign_16 : decode cX7_readsSign 16 = .ok (.getfield 115, 3) := by decide +kernel
theorem dX7_readsSign_19 : decode cX7_readsSign 19 = .ok (.iconst 1, 1) := by decide +kernel
theorem dX7_readsSign_20 : decode cX7_readsSign 20 = .ok (.iadd, 1) := by decide +kernel
theorem dX7_readsSign_21 : decode cX7_readsSign 21 = .ok (.putfield 115, 3) := by decide +kernel
theorem dX7_readsSign_24 : decode cX7_readsSign 24 = .ok (.iconst 1, 1) := by decide +kernel
theorem dX7_readsSign_25 : decode cX7_readsSign 25 = .ok (.ireturn, 1) := by decide +kernel
theorem dX7_number_0 : decode cX7_number 0 = .ok (.aload_n 0, 1) := by decide +kernel
theorem dX7_number_1 : decode cX7_number 1 = .ok (.invokevirtual 131, 3) := by decide +kernel
theorem dX7_number_4 : decode cX7_number 4 = .ok (.istore_n 3, 1) := by decide +kernel
theorem dX7_number_5 : decode cX7_number 5 = .ok (.iload_n 3, 1) := by decide +kernel
theorem dX7_number_6 : decode cX7_number 6 = .ok (.ifCond .eq 8, 3) := by decide +kernel
theorem dX7_number_9 : decode cX7_number 9 = .ok (.iload_n 3, 1) := by decide +kernel
theorem dX7_number_10 : decode cX7_number 10 = .ok (.iconst 2, 1) := by decide +kernel
theorem dX7_number_11 : decode cX7_number 11 = .ok (.if_icmp .le 11, 3) := by decide +kernel
theorem dX7_number_14 : decode cX7_number 14 = .ok (.aload_n 0, 1) := by decide +kernel
theorem dX7_number_15 : decode cX7_number 15 = .ok (.iconst 1, 1) := by decide +kernel
theorem dX7_number_16 : decode cX7_number 16 = .ok (.invokevirtual 128, 3) := by decide +kernel
theorem dX7_number_19 : decode cX7_number 19 = .ok (.pop, 1) := by decide +kernel
theorem dX7_number_20 : decode cX7_number 20 = .ok (.iconst (-1), 1) := by decide +kernel
theorem dX7_number_21 : decode cX7_number 21 = .ok (.ireturn, 1) := by decide +kernel
theorem dX7_number_22 : decode cX7_number 22 = .ok (.aload_n 0, 1) := by decide +kernel
theorem dX7_number_23 : decode cX7_number 23 = .ok (.getfield 19, 3) := by decide +kernel
theorem dX7_number_26 : decode cX7_number 26 = .ok (.aload_n 0, 1) := by decide +kernel
theorem dX7_number_27 : decode cX7_number 27 = .ok (.getfield 115, 3) := by decide +kernel
theorem dX7_number_30 : decode cX7_number 30 = .ok (.iaload, 1) := by decide +kernel
theorem dX7_number_31 : decode cX7_number 31 = .ok (.bipush 48, 2) := by decide +kernel
theorem dX7_number_33 : decode cX7_number 33 = .ok (.isub, 1) := by decide +kernel
theorem dX7_number_34 : decode cX7_number 34 = .ok (.istore 4, 2) := by decide +kernel
theorem dX7_number_36 : decode cX7_number 36 = .ok (.iload_n 3, 1) := by decide +kernel
theorem dX7_number_37 : decode cX7_number 37 = .ok (.iconst 2, 1) := by decide +kernel
theorem dX7_number_38 : decode cX7_number 38 = .ok (.if_icmp .ne 26, 3) := by decide +kernel
theorem dX7_number_41 : decode cX7_number 41 = .ok (.bipush 10, 2) := by decide +kernel
theorem dX7_number_43 : decode cX7_number 43 = .ok (.iload 4, 2) := by decide +kernel
theorem dX7_number_45 : decode cX7_number 45 = .ok (.imul, 1) := by decide +kernel
theorem dX7_number_46 : decode cX7_number 46 = .ok (.aload_n 0, 1) := by decide +kernel
theorem dX7_number_47 : decode cX7_number 47 = .ok (.getfield 19, 3) := by decide +kernel
theorem dX7_number_50 : decode cX7_number 50 = .ok (.aload_n 0, 1) := by decide +kernel
theorem dX7_number_51 : decode cX7_number 51 = .ok (.getfield 115, 3) := by decide +kernel
theorem dX7_number_54 : decode cX7_number 54 = .ok (.iconst 1, 1) := by decide +kernel
theorem dX7_number_55 : decode cX7_number 55 = .ok (.iadd, 1) := by decide +kernel
theorem dX7_number_56 : decode cX7_number 56 = .ok (.iaload, 1) := by decide +kernel
theorem dX7_number_57 : decode cX7_number 57 = .ok (.iadd, 1) := by decide +kernel
theorem dX7_number_58 : decode cX7_number 58 = .ok (.bipush 48, 2) := by decide +kernel
theorem dX7_number_60 : decode cX7_number 60 = .ok (.isub, 1) := by decide +kernel
theorem dX7_number_61 : decode cX7_number 61 = .ok (.goto 5, 3) := by decide +kernel
theorem dX7_number_64 : decode cX7_number 64 = .ok (.iload 4, 2) := by decide +kernel
theorem dX7_number_66 : decode cX7_number 66 = .ok (.istore 4, 2) := by decide +kernel
theorem dX7_number_68 : decode cX7_number 68 = .ok (.iload 4, 2) := by decide +kernel
theorem dX7_number_70 : decode cX7_number 70 = .ok (.iload_n 1, 1) := by decide +kernel
theorem dX7_number_71 : decode cX7_number 71 = .ok (.iload_n 2, 1) := by decide +kernel
theorem dX7_number_72 : decode cX7_number 72 = .ok (.invokestatic 85, 3) := by decide +kernel
theorem dX7_number_75 : decode cX7_number 75 = .ok (.ifCond .ne 11, 3) := by decide +kernel
theorem dX7_number_78 : decode cX7_number 78 = .ok (.aload_n 0, 1) := by decide +kernel
theorem dX7_number_79 : decode cX7_number 79 = .ok (.iconst 2, 1) := by decide +kernel
theorem dX7_number_80 : decode cX7_number 80 = .ok (.invokevirtual 128, 3) := by decide +kernel
theorem dX7_number_83 : decode cX7_number 83 = .ok (.pop, 1) := by decide +kernel
theorem dX7_number_84 : decode cX7_number 84 = .ok (.iconst (-1), 1) := by decide +kernel
theorem dX7_number_85 : decode cX7_number 85 = .ok (.ireturn, 1) := by decide +kernel
theorem dX7_number_86 : decode cX7_number 86 = .ok (.aload_n 0, 1) := by decide +kernel
theorem dX7_number_87 : decode cX7_number 87 = .ok (.dup, 1) := by decide +kernel
theorem dX7_number_88 : decode cX7_number 88 = .ok (.getfield 115, 3) := by decide +kernel
theorem dX7_number_91 : decode cX7_number 91 = .ok (.iload_n 3, 1) := by decide +kernel
theorem dX7_number_92 : decode cX7_number 92 = .ok (.iadd, 1) := by decide +kernel
theorem dX7_number_93 : decode cX7_number 93 = .ok (.putfield 115, 3) := by decide +kernel
theorem dX7_number_96 : decode cX7_number 96 = .ok (.iload 4, 2) := by decide +kernel
theorem dX7_number_98 : decode cX7_number 98 = .ok (.ireturn, 1) := by decide +kernel
theorem dX7_readsLaw_0 : decode cX7_readsLaw 0 = .ok (.aload_n 0, 1) := by decide +kernel
theorem dX7_readsLaw_1 : decode cX7_readsLaw 1 = .ok (.bipush 107, 2) := by decide +kernel
theorem dX7_readsLaw_3 : decode cX7_readsLaw 3 = .ok (.invokevirtual 134, 3) := by decide +kernel
theorem dX7_readsLaw_6 : decode cX7_readsLaw 6 = .ok (.ifCond .ne 5, 3) := by decide +kernel
theorem dX7_readsLaw_9 : decode cX7_readsLaw 9 = .ok (.iconst 0, 1) := by decide +kernel
theorem dX7_readsLaw_10 : decode cX7_readsLaw 10 = .ok (.ireturn, 1) := by decide +kernel
theorem dX7_readsLaw_11 : decode cX7_readsLaw 11 = .ok (.aload_n 0, 1) := by decide +kernel
theorem dX7_readsLaw_12 : decode cX7_readsLaw 12 = .ok (.getfield 37, 3) := by decide +kernel
theorem dX7_readsLaw_15 : decode cX7_readsLaw 15 = .ok (.iconst 0, 1) := by decide +kernel
theorem dX7_readsLaw_16 : decode cX7_readsLaw 16 = .ok (.aload_n 0, 1) := by decide +kernel
theorem dX7_readsLaw_17 : decode cX7_readsLaw 17 = .ok (.iconst 1, 1) := by decide +kernel
theorem dX7_readsLaw_18 : decode cX7_readsLaw 18 = .ok (.bipush 9, 2) := by decide +kernel
theorem dX7_readsLaw_20 : decode cX7_readsLaw 20 = .ok (.invokevirtual 137, 3) := by decide +kernel
theorem dX7_readsLaw_23 : decode cX7_readsLaw 23 = .ok (.iastore, 1) := by decide +kernel
theorem dX7_readsLaw_24 : decode cX7_readsLaw 24 = .ok (.aload_n 0, 1) := by decide +kernel
theorem dX7_readsLaw_25 : decode cX7_readsLaw 25 = .ok (.getfield 37, 3) := by decide +kernel
theorem dX7_readsLaw_28 : decode cX7_readsLaw 28 = .ok (.iconst 0, 1) := by decide +kernel
theorem dX7_readsLaw_29 : decode cX7_readsLaw 29 = .ok (.iaload, 1) := by decide +kernel
theorem dX7_readsLaw_30 : decode cX7_readsLaw 30 = .ok (.ifCond .lt 12, 3) := by decide +kernel
theorem dX7_readsLaw_33 : decode cX7_readsLaw 33 = .ok (.aload_n 0, 1) := by decide +kernel
theorem dX7_readsLaw_34 : decode cX7_readsLaw 34 = .ok (.bipush 44, 2) := by decide +kernel
theorem dX7_readsLaw_36 : decode cX7_readsLaw 36 = .ok (.invokevirtual 134, 3) := by decide +kernel
theorem dX7_readsLaw_39 : decode cX7_readsLaw 39 = .ok (.ifCond .ne 5, 3) := by decide +kernel
theorem dX7_readsLaw_42 : decode cX7_readsLaw 42 = .ok (.iconst 0, 1) := by decide +kernel
theorem dX7_readsLaw_43 : decode cX7_readsLaw 43 = .ok (.ireturn, 1) := by decide +kernel
theorem dX7_readsLaw_44 : decode cX7_readsLaw 44 = .ok (.aload_n 0, 1) := by decide +kernel
theorem dX7_readsLaw_45 : decode cX7_readsLaw 45 = .ok (.getfield 37, 3) := by decide +kernel
theorem dX7_readsLaw_48 : decode cX7_readsLaw 48 = .ok (.iconst 1, 1) := by decide +kernel
theorem dX7_readsLaw_49 : decode cX7_readsLaw 49 = .ok (.aload_n 0, 1) := by decide +kernel
theorem dX7_readsLaw_50 : decode cX7_readsLaw 50 = .ok (.iconst 0, 1) := by decide +kernel
theorem dX7_readsLaw_51 : decode cX7_readsLaw 51 = .ok (.bipush 10, 2) := by decide +kernel
theorem dX7_readsLaw_53 : decode cX7_readsLaw 53 = .ok (.invokevirtual 137, 3) := by decide +kernel
theorem dX7_readsLaw_56 : decode cX7_readsLaw 56 = .ok (.iastore, 1) := by decide +kernel
theorem dX7_readsLaw_57 : decode cX7_readsLaw 57 = .ok (.aload_n 0, 1) := by decide +kernel
theorem dX7_readsLaw_58 : decode cX7_readsLaw 58 = .ok (.getfield 37, 3) := by decide +kernel
theorem dX7_readsLaw_61 : decode cX7_readsLaw 61 = .ok (.iconst 1, 1) := by decide +kernel
theorem dX7_readsLaw_62 : decode cX7_readsLaw 62 = .ok (.iaload, 1) := by decide +kernel
theorem dX7_readsLaw_63 : decode cX7_readsLaw 63 = .ok (.ifCond .lt 16, 3) := by decide +kernel
theorem dX7_readsLaw_66 : decode cX7_readsLaw 66 = .ok (.aload_n 0, 1) := by decide +kernel
theorem dX7_readsLaw_67 : decode cX7_readsLaw 67 = .ok (.bipush 59, 2) := by decide +kernel
theorem dX7_readsLaw_69 : decode cX7_readsLaw 69 = .ok (.invokevirtual 134, 3) := by decide +kernel
theorem dX7_readsLaw_72 : decode cX7_readsLaw 72 = .ok (.ifCond .eq 7, 3) := by decide +kernel
theorem dX7_readsLaw_75 : decode cX7_readsLaw 75 = .ok (.iconst 1, 1) := by decide +kernel
theorem dX7_readsLaw_76 : decode cX7_readsLaw 76 = .ok (.goto 4, 3) := by decide +kernel
theorem dX7_readsLaw_79 : decode cX7_readsLaw 79 = .ok (.iconst 0, 1) := by decide +kernel
theorem dX7_readsLaw_80 : decode cX7_readsLaw 80 = .ok (.ireturn, 1) := by decide +kernel
theorem dX7_readsBlock_0 : decode cX7_readsBlock 0 = .ok (.aload_n 0, 1) := by decide +kernel
theorem dX7_readsBlock_1 : decode cX7_readsBlock 1 = .ok (.getfield 140, 3) := by decide +kernel
theorem dX7_readsBlock_4 : decode cX7_readsBlock 4 = .ok (.bipush 8, 2) := by decide +kernel
theorem dX7_readsBlock_6 : decode cX7_readsBlock 6 = .ok (.if_icmp .ne 9, 3) := by decide +kernel
theorem dX7_readsBlock_9 : decode cX7_readsBlock 9 = .ok (.aload_n 0, 1) := by decide +kernel
theorem dX7_readsBlock_10 : decode cX7_readsBlock 10 = .ok (.iconst 3, 1) := by decide +kernel
theorem dX7_readsBlock_11 : decode cX7_readsBlock 11 = .ok (.invokevirtual 128, 3) := by decide +kernel
theorem dX7_readsBlock_14 : decode cX7_readsBlock 14 = .ok (.ireturn, 1) := by decide +kernel
theorem dX7_readsBlock_15 : decode cX7_readsBlock 15 = .ok (.aload_n 0, 1) := by decide +kernel
theorem dX7_readsBlock_16 : decode cX7_readsBlock 16 = .ok (.dup, 1) := by decide +kernel
theorem dX7_readsBlock_17 : decode cX7_readsBlock 17 = .ok (.getfield 115, 3) := by decide +kernel
theorem dX7_readsBlock_20 : decode cX7_readsBlock 20 = .ok (.iconst 1, 1) := by decide +kernel
theorem dX7_readsBlock_21 : decode cX7_readsBlock 21 = .ok (.iadd, 1) := by decide +kernel
theorem dX7_readsBlock_22 : decode cX7_readsBlock 22 = .ok (.putfield 115, 3) := by decide +kernel
theorem dX7_readsBlock_25 : decode cX7_readsBlock 25 = .ok (.aload_n 0, 1) := by decide +kernel
theorem dX7_readsBlock_26 : decode cX7_readsBlock 26 = .ok (.iconst 1, 1) := by decide +kernel
theorem dX7_readsBlock_27 : decode cX7_readsBlock 27 = .ok (.bipush 30, 2) := by decide +kernel
theorem dX7_readsBlock_29 : decode cX7_readsBlock 29 = .ok (.invokevirtual 137, 3) := by decide +kernel
theorem dX7_readsBlock_32 : decode cX7_readsBlock 32 = .ok (.istore_n 1, 1) := by decide +kernel
theorem dX7_readsBlock_33 : decode cX7_readsBlock 33 = .ok (.iload_n 1, 1) := by decide +kernel
theorem dX7_readsBlock_34 : decode cX7_readsBlock 34 = .ok (.ifCond .lt 12, 3) := by decide +kernel
theorem dX7_readsBlock_37 : decode cX7_readsBlock 37 = .ok (.aload_n 0, 1) := by decide +kernel
theorem dX7_readsBlock_38 : decode cX7_readsBlock 38 = .ok (.bipush 59, 2) := by decide +kernel
theorem dX7_readsBlock_40 : decode cX7_readsBlock 40 = .ok (.invokevirtual 134, 3) := by decide +kernel
theorem dX7_readsBlock_43 : decode cX7_readsBlock 43 = .ok (.ifCond .ne 5, 3) := by decide +kernel
theorem dX7_readsBlock_46 : decode cX7_readsBlock 46 = .ok (.iconst 0, 1) := by decide +kernel
theorem dX7_readsBlock_47 : decode cX7_readsBlock 47 = .ok (.ireturn, 1) := by decide +kernel
theorem dX7_readsBlock_48 : decode cX7_readsBlock 48 = .ok (.aload_n 0, 1) := by decide +kernel
theorem dX7_readsBlock_49 : decode cX7_readsBlock 49 = .ok (.getfield 40, 3) := by decide +kernel
theorem dX7_readsBlock_52 : decode cX7_readsBlock 52 = .ok (.aload_n 0, 1) := by decide +kernel
theorem dX7_readsBlock_53 : decode cX7_readsBlock 53 = .ok (.getfield 140, 3) := by decide +kernel
theorem dX7_readsBlock_56 : decode cX7_readsBlock 56 = .ok (.iload_n 1, 1) := by decide +kernel
theorem dX7_readsBlock_57 : decode cX7_readsBlock 57 = .ok (.iastore, 1) := by decide +kernel
theorem dX7_readsBlock_58 : decode cX7_readsBlock 58 = .ok (.aload_n 0, 1) := by decide +kernel
theorem dX7_readsBlock_59 : decode cX7_readsBlock 59 = .ok (.getfield 43, 3) := by decide +kernel
theorem dX7_readsBlock_62 : decode cX7_readsBlock 62 = .ok (.aload_n 0, 1) := by decide +kernel
theorem dX7_readsBlock_63 : decode cX7_readsBlock 63 = .ok (.getfield 140, 3) := by decide +kernel
theorem dX7_readsBlock_66 : decode cX7_readsBlock 66 = .ok (.iconst 0, 1) := by decide +kernel
theorem dX7_readsBlock_67 : decode cX7_readsBlock 67 = .ok (.iastore, 1) := by decide +kernel
theorem dX7_readsBlock_68 : decode cX7_readsBlock 68 = .ok (.aload_n 0, 1) := by decide +kernel
theorem dX7_readsBlock_69 : decode cX7_readsBlock 69 = .ok (.dup, 1) := by decide +kernel
theorem dX7_readsBlock_70 : decode cX7_readsBlock 70 = .ok (.getfield 140, 3) := by decide +kernel
theorem dX7_readsBlock_73 : decode cX7_readsBlock 73 = .ok (.iconst 1, 1) := by decide +kernel
theorem dX7_readsBlock_74 : decode cX7_readsBlock 74 = .ok (.iadd, 1) := by decide +kernel
theorem dX7_readsBlock_75 : decode cX7_readsBlock 75 = .ok (.putfield 140, 3) := by decide +kernel
theorem dX7_readsBlock_78 : decode cX7_readsBlock 78 = .ok (.iconst 1, 1) := by decide +kernel
theorem dX7_readsBlock_79 : decode cX7_readsBlock 79 = .ok (.ireturn, 1) := by decide +kernel
theorem dX7_readsRest_0 : decode cX7_readsRest 0 = .ok (.aload_n 0, 1) := by decide +kernel
theorem dX7_readsRest_1 : decode cX7_readsRest 1 = .ok (.getfield 143, 3) := by decide +kernel
theorem dX7_readsRest_4 : decode cX7_readsRest 4 = .ok (.bipush 12, 2) := by decide +kernel
theorem dX7_readsRest_6 : decode cX7_readsRest 6 = .ok (.if_icmp .ne 9, 3) := by decide +kernel
theorem dX7_readsRest_9 : decode cX7_readsRest 9 = .ok (.aload_n 0, 1) := by decide +kernel
theorem dX7_readsRest_10 : decode cX7_readsRest 10 = .ok (.iconst 3, 1) := by decide +kernel
theorem dX7_readsRest_11 : decode cX7_readsRest 11 = .ok (.invokevirtual 128, 3) := by decide +kernel
theorem dX7_readsRest_14 : decode cX7_readsRest 14 = .ok (.ireturn, 1) := by decide +kernel
theorem dX7_readsRest_15 : decode cX7_readsRest 15 = .ok (.aload_n 0, 1) := by decide +kernel
theorem dX7_readsRest_16 : decode cX7_readsRest 16 = .ok (.dup, 1) := by decide +kernel
theorem dX7_readsRest_17 : decode cX7_readsRest 17 = .ok (.getfield 115, 3) := by decide +kernel
theorem dX7_readsRest_20 : decode cX7_readsRest 20 = .ok (.iconst 1, 1) := by decide +kernel
theorem dX7_readsRest_21 : decode cX7_readsRest 21 = .ok (.iadd, 1) := by decide +kernel
theorem dX7_readsRest_22 : decode cX7_readsRest 22 = .ok (.putfield 115, 3) := by decide +kernel
theorem dX7_readsRest_25 : decode cX7_readsRest 25 = .ok (.aload_n 0, 1) := by decide +kernel
theorem dX7_readsRest_26 : decode cX7_readsRest 26 = .ok (.iconst 0, 1) := by decide +kernel
theorem dX7_readsRest_27 : decode cX7_readsRest 27 = .ok (.aload_n 0, 1) := by decide +kernel
theorem dX7_readsRest_28 : decode cX7_readsRest 28 = .ok (.getfield 140, 3) := by decide +kernel
theorem dX7_readsRest_31 : decode cX7_readsRest 31 = .ok (.iconst 1, 1) := by decide +kernel
theorem dX7_readsRest_32 : decode cX7_readsRest 32 = .ok (.isub, 1) := by decide +kernel
theorem dX7_readsRest_33 : decode cX7_readsRest 33 = .ok (.invokevirtual 137, 3) := by decide +kernel
theorem dX7_readsRest_36 : decode cX7_readsRest 36 = .ok (.istore_n 1, 1) := by decide +kernel
theorem dX7_readsRest_37 : decode cX7_readsRest 37 = .ok (.iload_n 1, 1) := by decide +kernel
theorem dX7_readsRest_38 : decode cX7_readsRest 38 = .ok (.ifCond .lt 12, 3) := by decide +kernel
theorem dX7_readsRest_41 : decode cX7_readsRest 41 = .ok (.aload_n 0, 1) := by decide +kernel
theorem dX7_readsRest_42 : decode cX7_readsRest 42 = .ok (.bipush 44, 2) := by decide +kernel
theorem dX7_readsRest_44 : decode cX7_readsRest 44 = .ok (.invokevirtual 134, 3) := by decide +kernel
theorem dX7_readsRest_47 : decode cX7_readsRest 47 = .ok (.ifCond .ne 5, 3) := by decide +kernel
theorem dX7_readsRest_50 : decode cX7_readsRest 50 = .ok (.iconst 0, 1) := by decide +kernel
theorem dX7_readsRest_51 : decode cX7_readsRest 51 = .ok (.ireturn, 1) := by decide +kernel
theorem dX7_readsRest_52 : decode cX7_readsRest 52 = .ok (.aload_n 0, 1) := by decide +kernel
theorem dX7_readsRest_53 : decode cX7_readsRest 53 = .ok (.getfield 115, 3) := by decide +kernel
theorem dX7_readsRest_56 : decode cX7_readsRest 56 = .ok (.istore_n 2, 1) := by decide +kernel
theorem dX7_readsRest_57 : decode cX7_readsRest 57 = .ok (.aload_n 0, 1) := by decide +kernel
theorem dX7_readsRest_58 : decode cX7_readsRest 58 = .ok (.iconst 0, 1) := by decide +kernel
theorem dX7_readsRest_59 : decode cX7_readsRest 59 = .ok (.iload_n 1, 1) := by decide +kernel
theorem dX7_readsRest_60 : decode cX7_readsRest 60 = .ok (.iconst 1, 1) := by decide +kernel
theorem dX7_readsRest_61 : decode cX7_readsRest 61 = .ok (.isub, 1) := by decide +kernel
theorem dX7_readsRest_62 : decode cX7_readsRest 62 = .ok (.invokevirtual 137, 3) := by decide +kernel
theorem dX7_readsRest_65 : decode cX7_readsRest 65 = .ok (.istore_n 3, 1) := by decide +kernel
theorem dX7_readsRest_66 : decode cX7_readsRest 66 = .ok (.iload_n 3, 1) := by decide +kernel
theorem dX7_readsRest_67 : decode cX7_readsRest 67 = .ok (.ifCond .ge 5, 3) := by decide +kernel
theorem dX7_readsRest_70 : decode cX7_readsRest 70 = .ok (.iconst 0, 1) := by decide +kernel
theorem dX7_readsRest_71 : decode cX7_readsRest 71 = .ok (.ireturn, 1) := by decide +kernel
theorem dX7_readsRest_72 : decode cX7_readsRest 72 = .ok (.aload_n 0, 1) := by decide +kernel
theorem dX7_readsRest_73 : decode cX7_readsRest 73 = .ok (.getfield 43, 3) := by decide +kernel
theorem dX7_readsRest_76 : decode cX7_readsRest 76 = .ok (.iload_n 1, 1) := by decide +kernel
theorem dX7_readsRest_77 : decode cX7_readsRest 77 = .ok (.iaload, 1) := by decide +kernel
theorem dX7_readsRest_78 : decode cX7_readsRest 78 = .ok (.iload_n 3, 1) := by decide +kernel
theorem dX7_readsRest_79 : decode cX7_readsRest 79 = .ok (.invokestatic 146, 3) := by decide +kernel
theorem dX7_readsRest_82 : decode cX7_readsRest 82 = .ok (.ifCond .eq 14, 3) := by decide +kernel
theorem dX7_readsRest_85 : decode cX7_readsRest 85 = .ok (.aload_n 0, 1) := by decide +kernel
theorem dX7_readsRest_86 : decode cX7_readsRest 86 = .ok (.iload_n 2, 1) := by decide +kernel
theorem dX7_readsRest_87 : decode cX7_readsRest 87 = .ok (.putfield 115, 3) := by decide +kernel
theorem dX7_readsRest_90 : decode cX7_readsRest 90 = .ok (.aload_n 0, 1) := by decide +kernel
theorem dX7_readsRest_91 : decode cX7_readsRest 91 = .ok (.iconst 2, 1) := by decide +kernel
theorem dX7_readsRest_92 : decode cX7_readsRest 92 = .ok (.invokevirtual 128, 3) := by decide +kernel
theorem dX7_readsRest_95 : decode cX7_readsRest 95 = .ok (.ireturn, 1) := by decide +kernel
theorem dX7_readsRest_96 : decode cX7_readsRest 96 = .ok (.aload_n 0, 1) := by decide +kernel
theorem dX7_readsRest_97 : decode cX7_readsRest 97 = .ok (.getfield 43, 3) := by decide +kernel
theorem dX7_readsRest_100 : decode cX7_readsRest 100 = .ok (.iload_n 1, 1) := by decide +kernel
theorem dX7_readsRest_101 : decode cX7_readsRest 101 = .ok (.dup2, 1) := by decide +kernel
theorem dX7_readsRest_102 : decode cX7_readsRest 102 = .ok (.iaload, 1) := by decide +kernel
theorem dX7_readsRest_103 : decode cX7_readsRest 103 = .ok (.iconst 1, 1) := by decide +kernel
theorem dX7_readsRest_104 : decode cX7_readsRest 104 = .ok (.iload_n 3, 1) := by decide +kernel
theorem dX7_readsRest_105 : decode cX7_readsRest 105 = .ok (.ishl, 1) := by decide +kernel
theorem dX7_readsRest_106 : decode cX7_readsRest 106 = .ok (.ior, 1) := by decide +kernel
theorem dX7_readsRest_107 : decode cX7_readsRest 107 = .ok (.iastore, 1) := by decide +kernel
theorem dX7_readsRest_108 : decode cX7_readsRest 108 = .ok (.aload_n 0, 1) := by decide +kernel
theorem dX7_readsRest_109 : decode cX7_readsRest 109 = .ok (.dup, 1) := by decide +kernel
theorem dX7_readsRest_110 : decode cX7_readsRest 110 = .ok (.getfield 143, 3) := by decide +kernel
theorem dX7_readsRest_113 : decode cX7_readsRest 113 = .ok (.iconst 1, 1) := by decide +kernel
theorem dX7_readsRest_114 : decode cX7_readsRest 114 = .ok (.iadd, 1) := by decide +kernel
theorem dX7_readsRest_115 : decode cX7_readsRest 115 = .ok (.putfield 143, 3) := by decide +kernel
theorem dX7_readsRest_118 : decode cX7_readsRest 118 = .ok (.aload_n 0, 1) := by decide +kernel
theorem dX7_readsRest_119 : decode cX7_readsRest 119 = .ok (.bipush 59, 2) := by decide +kernel
theorem dX7_readsRest_121 : decode cX7_readsRest 121 = .ok (.invokevirtual 134, 3) := by decide +kernel
theorem dX7_readsRest_124 : decode cX7_readsRest 124 = .ok (.ireturn, 1) := by decide +kernel
theorem dX7_kindOf_0 : decode cX7_kindOf 0 = .ok (.iload_n 0, 1) := by decide +kernel
theorem dX7_kindOf_1 : decode cX7_kindOf 1 = .ok (.lookupswitch 61 #[(99, 51), (108, 59), (112, 55), (115, 53), (121, 57)], 51) := by decide +kernel
theorem dX7_kindOf_52 : decode cX7_kindOf 52 = .ok (.iconst 1, 1) := by decide +kernel
theorem dX7_kindOf_53 : decode cX7_kindOf 53 = .ok (.ireturn, 1) := by decide +kernel
theorem dX7_kindOf_54 : decode cX7_kindOf 54 = .ok (.iconst 2, 1) := by decide +kernel
theorem dX7_kindOf_55 : decode cX7_kindOf 55 = .ok (.ireturn, 1) := by decide +kernel
theorem dX7_kindOf_56 : decode cX7_kindOf 56 = .ok (.iconst 3, 1) := by decide +kernel
theorem dX7_kindOf_57 : decode cX7_kindOf 57 = .ok (.ireturn, 1) := by decide +kernel
theorem dX7_kindOf_58 : decode cX7_kindOf 58 = .ok (.iconst 4, 1) := by decide +kernel
theorem dX7_kindOf_59 : decode cX7_kindOf 59 = .ok (.ireturn, 1) := by decide +kernel
theorem dX7_kindOf_60 : decode cX7_kindOf 60 = .ok (.iconst 5, 1) := by decide +kernel
theorem dX7_kindOf_61 : decode cX7_kindOf 61 = .ok (.ireturn, 1) := by decide +kernel
theorem dX7_kindOf_62 : decode cX7_kindOf 62 = .ok (.ldc 150, 2) := by decide +kernel
theorem dX7_kindOf_64 : decode cX7_kindOf 64 = .ok (.ireturn, 1) := by decide +kernel
theorem dX7_readsClerk_0 : decode cX7_readsClerk 0 = .ok (.aload_n 0, 1) := by decide +kernel
theorem dX7_readsClerk_1 : decode cX7_readsClerk 1 = .ok (.invokevirtual 124, 3) := by decide +kernel
theorem dX7_readsClerk_4 : decode cX7_readsClerk 4 = .ok (.invokestatic 151, 3) := by decide +kernel
theorem dX7_readsClerk_7 : decode cX7_readsClerk 7 = .ok (.istore_n 1, 1) := by decide +kernel
theorem dX7_readsClerk_8 : decode cX7_readsClerk 8 = .ok (.iload_n 1, 1) := by decide +kernel
theorem dX7_readsClerk_9 : decode cX7_readsClerk 9 = .ok (.ldc 150, 2) := by decide +kernel
theorem dX7_readsClerk_11 : decode cX7_readsClerk 11 = .ok (.if_icmp .ne 9, 3) := by decide +kernel
theorem dX7_readsClerk_14 : decode cX7_readsClerk 14 = .ok (.aload_n 0, 1) := by decide +kernel
theorem dX7_readsClerk_15 : decode cX7_readsClerk 15 = .ok (.iconst 1, 1) := by decide +kernel
theorem dX7_readsClerk_16 : decode cX7_readsClerk 16 = .ok (.invokevirtual 128, 3) := by decide +kernel
theorem dX7_readsClerk_19 : decode cX7_readsClerk 19 = .ok (.ireturn, 1) := by decide +kernel
theorem dX7_readsClerk_20 : decode cX7_readsClerk 20 = .ok (.aload_n 0, 1) := by decide +kernel
theorem dX7_readsClerk_21 : decode cX7_readsClerk 21 = .ok (.getfield 154, 3) := by decide +kernel
theorem dX7_readsClerk_24 : decode cX7_readsClerk 24 = .ok (.iconst 4, 1) := by decide +kernel
theorem dX7_readsClerk_25 : decode cX7_readsClerk 25 = .ok (.if_icmp .ne 9, 3) := by decide +kernel
theorem dX7_readsClerk_28 : decode cX7_readsClerk 28 = .ok (.aload_n 0, 1) := by decide +kernel
theorem dX7_readsClerk_29 : decode cX7_readsClerk 29 = .ok (.iconst 3, 1) := by decide +kernel
theorem dX7_readsClerk_30 : decode cX7_readsClerk 30 = .ok (.invokevirtual 128, 3) := by decide +kernel
theorem dX7_readsClerk_33 : decode cX7_readsClerk 33 = .ok (.ireturn, 1) := by decide +kernel
theorem dX7_readsClerk_34 : decode cX7_readsClerk 34 = .ok (.aload_n 0, 1) := by decide +kernel
theorem dX7_readsClerk_35 : decode cX7_readsClerk 35 = .ok (.dup, 1) := by decide +kernel
theorem dX7_readsClerk_36 : decode cX7_readsClerk 36 = .ok (.getfield 115, 3) := by decide +kernel
theorem dX7_readsClerk_39 : decode cX7_readsClerk 39 = .ok (.iconst 1, 1) := by decide +kernel
theorem dX7_readsClerk_40 : decode cX7_readsClerk 40 = .ok (.iadd, 1) := by decide +kernel
theorem dX7_readsClerk_41 : decode cX7_readsClerk 41 = .ok (.putfield 115, 3) := by decide +kernel
theorem dX7_readsClerk_44 : decode cX7_readsClerk 44 = .ok (.aload_n 0, 1) := by decide +kernel
theorem dX7_readsClerk_45 : decode cX7_readsClerk 45 = .ok (.iconst 1, 1) := by decide +kernel
theorem dX7_readsClerk_46 : decode cX7_readsClerk 46 = .ok (.bipush 9, 2) := by decide +kernel
theorem dX7_readsClerk_48 : decode cX7_readsClerk 48 = .ok (.invokevirtual 137, 3) := by decide +kernel
theorem dX7_readsClerk_51 : decode cX7_readsClerk 51 = .ok (.istore_n 2, 1) := by decide +kernel
theorem dX7_readsClerk_52 : decode cX7_readsClerk 52 = .ok (.iload_n 2, 1) := by decide +kernel
theorem dX7_readsClerk_53 : decode cX7_readsClerk 53 = .ok (.ifCond .lt 12, 3) := by decide +kernel
theorem dX7_readsClerk_56 : decode cX7_readsClerk 56 = .ok (.aload_n 0, 1) := by decide +kernel
theorem dX7_readsClerk_57 : decode cX7_readsClerk 57 = .ok (.bipush 59, 2) := by decide +kernel
theorem dX7_readsClerk_59 : decode cX7_readsClerk 59 = .ok (.invokevirtual 134, 3) := by decide +kernel
theorem dX7_readsClerk_62 : decode cX7_readsClerk 62 = .ok (.ifCond .ne 5, 3) := by decide +kernel
theorem dX7_readsClerk_65 : decode cX7_readsClerk 65 = .ok (.iconst 0, 1) := by decide +kernel
theorem dX7_readsClerk_66 : decode cX7_readsClerk 66 = .ok (.ireturn, 1) := by decide +kernel
theorem dX7_readsClerk_67 : decode cX7_readsClerk 67 = .ok (.aload_n 0, 1) := by decide +kernel
theorem dX7_readsClerk_68 : decode cX7_readsClerk 68 = .ok (.getfield 49, 3) := by decide +kernel
theorem dX7_readsClerk_71 : decode cX7_readsClerk 71 = .ok (.aload_n 0, 1) := by decide +kernel
theorem dX7_readsClerk_72 : decode cX7_readsClerk 72 = .ok (.getfield 154, 3) := by decide +kernel
theorem dX7_readsClerk_75 : decode cX7_readsClerk 75 = .ok (.iload_n 1, 1) := by decide +kernel
theorem dX7_readsClerk_76 : decode cX7_readsClerk 76 = .ok (.iastore, 1) := by decide +kernel
theorem dX7_readsClerk_77 : decode cX7_readsClerk 77 = .ok (.aload_n 0, 1) := by decide +kernel
theorem dX7_readsClerk_78 : decode cX7_readsClerk 78 = .ok (.getfield 46, 3) := by decide +kernel
theorem dX7_readsClerk_81 : decode cX7_readsClerk 81 = .ok (.aload_n 0, 1) := by decide +kernel
theorem dX7_readsClerk_82 : decode cX7_readsClerk 82 = .ok (.getfield 154, 3) := by decide +kernel
theorem dX7_readsClerk_85 : decode cX7_readsClerk 85 = .ok (.iload_n 2, 1) := by decide +kernel
theorem dX7_readsClerk_86 : decode cX7_readsClerk 86 = .ok (.iastore, 1) := by decide +kernel
theorem dX7_readsClerk_87 : decode cX7_readsClerk 87 = .ok (.aload_n 0, 1) := by decide +kernel
theorem dX7_readsClerk_88 : decode cX7_readsClerk 88 = .ok (.dup, 1) := by decide +kernel
theorem dX7_readsClerk_89 : decode cX7_readsClerk 89 = .ok (.getfield 154, 3) := by decide +kernel
theorem dX7_readsClerk_92 : decode cX7_readsClerk 92 = .ok (.iconst 1, 1) := by decide +kernel
theorem dX7_readsClerk_93 : decode cX7_readsClerk 93 = .ok (.iadd, 1) := by decide +kernel
theorem dX7_readsClerk_94 : decode cX7_readsClerk 94 = .ok (.putfield 154, 3) := by decide +kernel
theorem dX7_readsClerk_97 : decode cX7_readsClerk 97 = .ok (.iconst 1, 1) := by decide +kernel
theorem dX7_readsClerk_98 : decode cX7_readsClerk 98 = .ok (.ireturn, 1) := by decide +kernel
theorem dX7_readsItem_0 : decode cX7_readsItem 0 = .ok (.aload_n 0, 1) := by decide +kernel
theorem dX7_readsItem_1 : decode cX7_readsItem 1 = .ok (.getfield 143, 3) := by decide +kernel
theorem dX7_readsItem_4 : decode cX7_readsItem 4 = .ok (.ifCond .ne 14, 3) := by decide +kernel
theorem dX7_readsItem_7 : decode cX7_readsItem 7 = .ok (.aload_n 0, 1) := by decide +kernel
theorem dX7_readsItem_8 : decode cX7_readsItem 8 = .ok (.getfield 154, 3) := by decide +kernel
theorem dX7_readsItem_11 : decode cX7_readsItem 11 = .ok (.ifCond .ne 7, 3) := by decide +kernel
theorem dX7_readsItem_14 : decode cX7_readsItem 14 = .ok (.iconst 1, 1) := by decide +kernel
theorem dX7_readsItem_15 : decode cX7_readsItem 15 = .ok (.goto 4, 3) := by decide +kernel
theorem dX7_readsItem_18 : decode cX7_readsItem 18 = .ok (.iconst 0, 1) := by decide +kernel
theorem dX7_readsItem_19 : decode cX7_readsItem 19 = .ok (.istore_n 1, 1) := by decide +kernel
theorem dX7_readsItem_20 : decode cX7_readsItem 20 = .ok (.aload_n 0, 1) := by decide +kernel
theorem dX7_readsItem_21 : decode cX7_readsItem 21 = .ok (.invokevirtual 124, 3) := by decide +kernel
theorem dX7_readsItem_24 : decode cX7_readsItem 24 = .ok (.bipush 98, 2) := by decide +kernel
theorem dX7_readsItem_26 : decode cX7_readsItem 26 = .ok (.if_icmp .ne 12, 3) := by decide +kernel
theorem dX7_readsItem_29 : decode cX7_readsItem 29 = .ok (.iload_n 1, 1) := by decide +kernel
theorem dX7_readsItem_30 : decode cX7_readsItem 30 = .ok (.ifCond .eq 8, 3) := by decide +kernel
theorem dX7_readsItem_33 : decode cX7_readsItem 33 = .ok (.aload_n 0, 1) := by decide +kernel
theorem dX7_readsItem_34 : decode cX7_readsItem 34 = .ok (.invokevirtual 157, 3) := by decide +kernel
theorem dX7_readsItem_37 : decode cX7_readsItem 37 = .ok (.ireturn, 1) := by decide +kernel
theorem dX7_readsItem_38 : decode cX7_readsItem 38 = .ok (.aload_n 0, 1) := by decide +kernel
theorem dX7_readsItem_39 : decode cX7_readsItem 39 = .ok (.invokevirtual 124, 3) := by decide +kernel
theorem dX7_readsItem_42 : decode cX7_readsItem 42 = .ok (.bipush 114, 2) := by decide +kernel
theorem dX7_readsItem_44 : decode cX7_readsItem 44 = .ok (.if_icmp .ne 22, 3) := by decide +kernel
theorem dX7_readsItem_47 : decode cX7_readsItem 47 = .ok (.aload_n 0, 1) := by decide +kernel
theorem dX7_readsItem_48 : decode cX7_readsItem 48 = .ok (.getfield 140, 3) := by decide +kernel
theorem dX7_readsItem_51 : decode cX7_readsItem 51 = .ok (.ifCond .le 15, 3) := by decide +kernel
theorem dX7_readsItem_54 : decode cX7_readsItem 54 = .ok (.aload_n 0, 1) := by decide +kernel
theorem dX7_readsItem_55 : decode cX7_readsItem 55 = .ok (.getfield 154, 3) := by decide +kernel
theorem dX7_readsItem_58 : decode cX7_readsItem 58 = .ok (.ifCond .ne 8, 3) := by decide +kernel
theorem dX7_readsItem_61 : decode cX7_readsItem 61 = .ok (.aload_n 0, 1) := by decide +kernel
theorem dX7_readsItem_62 : decode cX7_readsItem 62 = .ok (.invokevirtual 161, 3) := by decide +kernel
theorem dX7_readsItem_65 : decode cX7_readsItem 65 = .ok (.ireturn, 1) := by decide +kernel
theorem dX7_readsItem_66 : decode cX7_readsItem 66 = .ok (.aload_n 0, 1) := by decide +kernel
theorem dX7_readsItem_67 : decode cX7_readsItem 67 = .ok (.getfield 140, 3) := by decide +kernel
theorem dX7_readsItem_70 : decode cX7_readsItem 70 = .ok (.ifCond .le 10, 3) := by decide +kernel
theorem dX7_readsItem_73 : decode cX7_readsItem 73 = .ok (.aload_n 0, 1) := by decide +kernel
theorem dX7_readsItem_74 : decode cX7_readsItem 74 = .ok (.invokevirtual 164, 3) := by decide +kernel
theorem dX7_readsItem_77 : decode cX7_readsItem 77 = .ok (.goto 8, 3) := by decide +kernel
theorem dX7_readsItem_80 : decode cX7_readsItem 80 = .ok (.aload_n 0, 1) := by decide +kernel
theorem dX7_readsItem_81 : decode cX7_readsItem 81 = .ok (.iconst 1, 1) := by decide +kernel
theorem dX7_readsItem_82 : decode cX7_readsItem 82 = .ok (.invokevirtual 128, 3) := by decide +kernel
theorem dX7_readsItem_85 : decode cX7_readsItem 85 = .ok (.ireturn, 1) := by decide +kernel
theorem dX7_reads_0 : decode cX7_reads 0 = .ok (.aload_n 0, 1) := by decide +kernel
theorem dX7_reads_1 : decode cX7_reads 1 = .ok (.iconst 0, 1) := by decide +kernel
theorem dX7_reads_2 : decode cX7_reads 2 = .ok (.putfield 115, 3) := by decide +kernel
theorem dX7_reads_5 : decode cX7_reads 5 = .ok (.aload_n 0, 1) := by decide +kernel
theorem dX7_reads_6 : decode cX7_reads 6 = .ok (.iconst 0, 1) := by decide +kernel
theorem dX7_reads_7 : decode cX7_reads 7 = .ok (.putfield 140, 3) := by decide +kernel
theorem dX7_reads_10 : decode cX7_reads 10 = .ok (.aload_n 0, 1) := by decide +kernel
theorem dX7_reads_11 : decode cX7_reads 11 = .ok (.iconst 0, 1) := by decide +kernel
theorem dX7_reads_12 : decode cX7_reads 12 = .ok (.putfield 143, 3) := by decide +kernel
theorem dX7_reads_15 : decode cX7_reads 15 = .ok (.aload_n 0, 1) := by decide +kernel
theorem dX7_reads_16 : decode cX7_reads 16 = .ok (.iconst 0, 1) := by decide +kernel
theorem dX7_reads_17 : decode cX7_reads 17 = .ok (.putfield 154, 3) := by decide +kernel
theorem dX7_reads_20 : decode cX7_reads 20 = .ok (.aload_n 0, 1) := by decide +kernel
theorem dX7_reads_21 : decode cX7_reads 21 = .ok (.invokevirtual 167, 3) := by decide +kernel
theorem dX7_reads_24 : decode cX7_reads 24 = .ok (.istore_n 1, 1) := by decide +kernel
theorem dX7_reads_25 : decode cX7_reads 25 = .ok (.iload_n 1, 1) := by decide +kernel
theorem dX7_reads_26 : decode cX7_reads 26 = .ok (.ifCond .eq 29, 3) := by decide +kernel
theorem dX7_reads_29 : decode cX7_reads 29 = .ok (.aload_n 0, 1) := by decide +kernel
theorem dX7_reads_30 : decode cX7_reads 30 = .ok (.getfield 140, 3) := by decide +kernel
theorem dX7_reads_33 : decode cX7_reads 33 = .ok (.ifCond .eq 14, 3) := by decide +kernel
theorem dX7_reads_36 : decode cX7_reads 36 = .ok (.aload_n 0, 1) := by decide +kernel
theorem dX7_reads_37 : decode cX7_reads 37 = .ok (.getfield 115, 3) := by decide +kernel
theorem dX7_reads_40 : decode cX7_reads 40 = .ok (.aload_n 0, 1) := by decide +kernel
theorem dX7_reads_41 : decode cX7_reads 41 = .ok (.getfield 108, 3) := by decide +kernel
theorem dX7_reads_44 : decode cX7_reads 44 = .ok (.if_icmp .ge 11, 3) := by decide +kernel
theorem dX7_reads_47 : decode cX7_reads 47 = .ok (.aload_n 0, 1) := by decide +kernel
theorem dX7_reads_48 : decode cX7_reads 48 = .ok (.invokevirtual 170, 3) := by decide +kernel
theorem dX7_reads_51 : decode cX7_reads 51 = .ok (.istore_n 1, 1) := by decide +kernel
theorem dX7_reads_52 : decode cX7_reads 52 = .ok (.goto (-27), 3) := by decide +kernel
theorem dX7_reads_55 : decode cX7_reads 55 = .ok (.iload_n 1, 1) := by decide +kernel
theorem dX7_reads_56 : decode cX7_reads 56 = .ok (.ireturn, 1) := by decide +kernel
theorem dX7_castle_0 : decode cX7_castle 0 = .ok (.aload_n 0, 1) := by decide +kernel
theorem dX7_castle_1 : decode cX7_castle 1 = .ok (.invokevirtual 173, 3) := by decide +kernel
theorem dX7_castle_4 : decode cX7_castle 4 = .ok (.istore_n 1, 1) := by decide +kernel
theorem dX7_castle_5 : decode cX7_castle 5 = .ok (.aload_n 0, 1) := by decide +kernel
theorem dX7_castle_6 : decode cX7_castle 6 = .ok (.iconst 0, 1) := by decide +kernel
theorem dX7_castle_7 : decode cX7_castle 7 = .ok (.putfield 108, 3) := by decide +kernel
theorem dX7_castle_10 : decode cX7_castle 10 = .ok (.iload_n 1, 1) := by decide +kernel
theorem dX7_castle_11 : decode cX7_castle 11 = .ok (.ifCond .ne 19, 3) := by decide +kernel
theorem dX7_castle_14 : decode cX7_castle 14 = .ok (.aload_n 0, 1) := by decide +kernel
theorem dX7_castle_15 : decode cX7_castle 15 = .ok (.aload_n 0, 1) := by decide +kernel
theorem dX7_castle_16 : decode cX7_castle 16 = .ok (.getfield 121, 3) := by decide +kernel
theorem dX7_castle_19 : decode cX7_castle 19 = .ok (.putfield 112, 3) := by decide +kernel
theorem dX7_castle_22 : decode cX7_castle 22 = .ok (.ldc 176, 2) := by decide +kernel
theorem dX7_castle_24 : decode cX7_castle 24 = .ok (.aload_n 0, 1) := by decide +kernel
theorem dX7_castle_25 : decode cX7_castle 25 = .ok (.getfield 115, 3) := by decide +kernel
theorem dX7_castle_28 : decode cX7_castle 28 = .ok (.isub, 1) := by decide +kernel
theorem dX7_castle_29 : decode cX7_castle 29 = .ok (.ireturn, 1) := by decide +kernel
theorem dX7_castle_30 : decode cX7_castle 30 = .ok (.aload_n 0, 1) := by decide +kernel
theorem dX7_castle_31 : decode cX7_castle 31 = .ok (.aload_n 0, 1) := by decide +kernel
theorem dX7_castle_32 : decode cX7_castle 32 = .ok (.getfield 140, 3) := by decide +kernel
theorem dX7_castle_35 : decode cX7_castle 35 = .ok (.putfield 177, 3) := by decide +kernel
theorem dX7_castle_38 : decode cX7_castle 38 = .ok (.aload_n 0, 1) := by decide +kernel
theorem dX7_castle_39 : decode cX7_castle 39 = .ok (.aload_n 0, 1) := by decide +kernel
theorem dX7_castle_40 : decode cX7_castle 40 = .ok (.getfield 143, 3) := by decide +kernel
theorem dX7_castle_43 : decode cX7_castle 43 = .ok (.putfield 180, 3) := by decide +kernel
theorem dX7_castle_46 : decode cX7_castle 46 = .ok (.aload_n 0, 1) := by decide +kernel
theorem dX7_castle_47 : decode cX7_castle 47 = .ok (.aload_n 0, 1) := by decide +kernel
theorem dX7_castle_48 : decode cX7_castle 48 = .ok (.getfield 154, 3) := by decide +kernel
theorem dX7_castle_51 : decode cX7_castle 51 = .ok (.putfield 183, 3) := by decide +kernel
theorem dX7_castle_54 : decode cX7_castle 54 = .ok (.aload_n 0, 1) := by decide +kernel
theorem dX7_castle_55 : decode cX7_castle 55 = .ok (.aload_n 0, 1) := by decide +kernel
theorem dX7_castle_56 : decode cX7_castle 56 = .ok (.getfield 37, 3) := by decide +kernel
theorem dX7_castle_59 : decode cX7_castle 59 = .ok (.iconst 0, 1) := by decide +kernel
theorem dX7_castle_60 : decode cX7_castle 60 = .ok (.iaload, 1) := by decide +kernel
theorem dX7_castle_61 : decode cX7_castle 61 = .ok (.putfield 186, 3) := by decide +kernel
theorem dX7_castle_64 : decode cX7_castle 64 = .ok (.aload_n 0, 1) := by decide +kernel
theorem dX7_castle_65 : decode cX7_castle 65 = .ok (.aload_n 0, 1) := by decide +kernel
theorem dX7_castle_66 : decode cX7_castle 66 = .ok (.getfield 37, 3) := by decide +kernel
theorem dX7_castle_69 : decode cX7_castle 69 = .ok (.iconst 1, 1) := by decide +kernel
theorem dX7_castle_70 : decode cX7_castle 70 = .ok (.iaload, 1) := by decide +kernel
theorem dX7_castle_71 : decode cX7_castle 71 = .ok (.putfield 189, 3) := by decide +kernel
theorem dX7_castle_74 : decode cX7_castle 74 = .ok (.iconst 0, 1) := by decide +kernel
theorem dX7_castle_75 : decode cX7_castle 75 = .ok (.istore_n 2, 1) := by decide +kernel
theorem dX7_castle_76 : decode cX7_castle 76 = .ok (.iload_n 2, 1) := by decide +kernel
theorem dX7_castle_77 : decode cX7_castle 77 = .ok (.bipush 14, 2) := by decide +kernel
theorem dX7_castle_79 : decode cX7_castle 79 = .ok (.if_icmp .ge 16, 3) := by decide +kernel
theorem dX7_castle_82 : decode cX7_castle 82 = .ok (.aload_n 0, 1) := by decide +kernel
theorem dX7_castle_83 : decode cX7_castle 83 = .ok (.getfield 31, 3) := by decide +kernel
theorem dX7_castle_86 : decode cX7_castle 86 = .ok (.iload_n 2, 1) := by decide +kernel
theorem dX7_castle_87 : decode cX7_castle 87 = .ok (.iconst 0, 1) := by decide +kernel
theorem dX7_castle_88 : decode cX7_castle 88 = .ok (.iastore, 1) := by decide +kernel
theorem dX7_castle_89 : decode cX7_castle 89 = .ok (.iinc 2 1, 3) := by decide +kernel
theorem dX7_castle_92 : decode cX7_castle 92 = .ok (.goto (-16), 3) := by decide +kernel
theorem dX7_castle_95 : decode cX7_castle 95 = .ok (.iconst 0, 1) := by decide +kernel
theorem dX7_castle_96 : decode cX7_castle 96 = .ok (.istore_n 2, 1) := by decide +kernel
theorem dX7_castle_97 : decode cX7_castle 97 = .ok (.iload_n 2, 1) := by decide +kernel
theorem dX7_castle_98 : decode cX7_castle 98 = .ok (.bipush 8, 2) := by decide +kernel
theorem dX7_castle_100 : decode cX7_castle 100 = .ok (.if_icmp .ge 57, 3) := by decide +kernel
theorem dX7_castle_103 : decode cX7_castle 103 = .ok (.aload_n 0, 1) := by decide +kernel
theorem dX7_castle_104 : decode cX7_castle 104 = .ok (.getfield 31, 3) := by decide +kernel
theorem dX7_castle_107 : decode cX7_castle 107 = .ok (.iload_n 2, 1) := by decide +kernel
theorem dX7_castle_108 : decode cX7_castle 108 = .ok (.iload_n 2, 1) := by decide +kernel
theorem dX7_castle_109 : decode cX7_castle 109 = .ok (.aload_n 0, 1) := by decide +kernel
theorem dX7_castle_110 : decode cX7_castle 110 = .ok (.getfield 177, 3) := by decide +kernel
theorem dX7_castle_113 : decode cX7_castle 113 = .ok (.if_icmp .ge 12, 3) := by decide +kernel
theorem dX7_castle_116 : decode cX7_castle 116 = .ok (.aload_n 0, 1) := by decide +kernel
theorem dX7_castle_117 : decode cX7_castle 117 = .ok (.getfield 40, 3) := by decide +kernel
theorem dX7_castle_120 : decode cX7_castle 120 = .ok (.iload_n 2, 1) := by decide +kernel
theorem dX7_castle_121 : decode cX7_castle 121 = .ok (.iaload, 1) := by decide +kernel
theorem dX7_castle_122 : decode cX7_castle 122 = .ok (.goto 4, 3) := by decide +kernel
theorem dX7_castle_125 : decode cX7_castle 125 = .ok (.iconst 0, 1) := by decide +kernel
theorem dX7_castle_126 : decode cX7_castle 126 = .ok (.iastore, 1) := by decide +kernel
theorem dX7_castle_127 : decode cX7_castle 127 = .ok (.aload_n 0, 1) := by decide +kernel
theorem dX7_castle_128 : decode cX7_castle 128 = .ok (.getfield 22, 3) := by decide +kernel
theorem dX7_castle_131 : decode cX7_castle 131 = .ok (.iload_n 2, 1) := by decide +kernel
theorem dX7_castle_132 : decode cX7_castle 132 = .ok (.iload_n 2, 1) := by decide +kernel
theorem dX7_castle_133 : decode cX7_castle 133 = .ok (.aload_n 0, 1) := by decide +kernel
theorem dX7_castle_134 : decode cX7_castle 134 = .ok (.getfield 177, 3) := by decide +kernel
theorem dX7_castle_137 : decode cX7_castle 137 = .ok (.if_icmp .ge 12, 3) := by decide +kernel
theorem dX7_castle_140 : decode cX7_castle 140 = .ok (.aload_n 0, 1) := by decide +kernel
theorem dX7_castle_141 : decode cX7_castle 141 = .ok (.getfield 43, 3) := by decide +kernel
theorem dX7_castle_144 : decode cX7_castle 144 = .ok (.iload_n 2, 1) := by decide +kernel
theorem dX7_castle_145 : decode cX7_castle 145 = .ok (.iaload, 1) := by decide +kernel
theorem dX7_castle_146 : decode cX7_castle 146 = .ok (.goto 4, 3) := by decide +kernel
theorem dX7_castle_149 : decode cX7_castle 149 = .ok (.iconst 0, 1) := by decide +kernel
theorem dX7_castle_150 : decode cX7_castle 150 = .ok (.iastore, 1) := by decide +kernel
theorem dX7_castle_151 : decode cX7_castle 151 = .ok (.iinc 2 1, 3) := by decide +kernel
theorem dX7_castle_154 : decode cX7_castle 154 = .ok (.goto (-57), 3) := by decide +kernel
theorem dX7_castle_157 : decode cX7_castle 157 = .ok (.iconst 0, 1) := by decide +kernel
theorem dX7_castle_158 : decode cX7_castle 158 = .ok (.istore_n 2, 1) := by decide +kernel
theorem dX7_castle_159 : decode cX7_castle 159 = .ok (.iload_n 2, 1) := by decide +kernel
theorem dX7_castle_160 : decode cX7_castle 160 = .ok (.aload_n 0, 1) := by decide +kernel
theorem dX7_castle_161 : decode cX7_castle 161 = .ok (.getfield 183, 3) := by decide +kernel
theorem dX7_castle_164 : decode cX7_castle 164 = .ok (.if_icmp .ge 33, 3) := by decide +kernel
theorem dX7_castle_167 : decode cX7_castle 167 = .ok (.aload_n 0, 1) := by decide +kernel
theorem dX7_castle_168 : decode cX7_castle 168 = .ok (.getfield 25, 3) := by decide +kernel
theorem dX7_castle_171 : decode cX7_castle 171 = .ok (.iload_n 2, 1) := by decide +kernel
theorem dX7_castle_172 : decode cX7_castle 172 = .ok (.aload_n 0, 1) := by decide +kernel
theorem dX7_castle_173 : decode cX7_castle 173 = .ok (.getfield 46, 3) := by decide +kernel
theorem dX7_castle_176 : decode cX7_castle 176 = .ok (.iload_n 2, 1) := by decide +kernel
theorem dX7_castle_177 : decode cX7_castle 177 = .ok (.iaload, 1) := by decide +kernel
theorem dX7_castle_178 : decode cX7_castle 178 = .ok (.iastore, 1) := by decide +kernel
theorem dX7_castle_179 : decode cX7_castle 179 = .ok (.aload_n 0, 1) := by decide +kernel
theorem dX7_castle_180 : decode cX7_castle 180 = .ok (.getfield 28, 3) := by decide +kernel
theorem dX7_castle_183 : decode cX7_castle 183 = .ok (.iload_n 2, 1) := by decide +kernel
theorem dX7_castle_184 : decode cX7_castle 184 = .ok (.aload_n 0, 1) := by decide +kernel
theorem dX7_castle_185 : decode cX7_castle 185 = .ok (.getfield 49, 3) := by decide +kernel
theorem dX7_castle_188 : decode cX7_castle 188 = .ok (.iload_n 2, 1) := by decide +kernel
theorem dX7_castle_189 : decode cX7_castle 189 = .ok (.iaload, 1) := by decide +kernel
theorem dX7_castle_190 : decode cX7_castle 190 = .ok (.iastore, 1) := by decide +kernel
theorem dX7_castle_191 : decode cX7_castle 191 = .ok (.iinc 2 1, 3) := by decide +kernel
theorem dX7_castle_194 : decode cX7_castle 194 = .ok (.goto (-35), 3) := by decide +kernel
theorem dX7_castle_197 : decode cX7_castle 197 = .ok (.aload_n 0, 1) := by decide +kernel
theorem dX7_castle_198 : decode cX7_castle 198 = .ok (.iconst 0, 1) := by decide +kernel
theorem dX7_castle_199 : decode cX7_castle 199 = .ok (.putfield 192, 3) := by decide +kernel
theorem dX7_castle_202 : decode cX7_castle 202 = .ok (.aload_n 0, 1) := by decide +kernel
theorem dX7_castle_203 : decode cX7_castle 203 = .ok (.getfield 177, 3) := by decide +kernel
theorem dX7_castle_206 : decode cX7_castle 206 = .ok (.ireturn, 1) := by decide +kernel
theorem dX7_isBlock_0 : decode cX7_isBlock 0 = .ok (.iload_n 1, 1) := by decide +kernel
theorem dX7_isBlock_1 : decode cX7_isBlock 1 = .ok (.iconst 0, 1) := by decide +kernel
theorem dX7_isBlock_2 : decode cX7_isBlock 2 = .ok (.aload_n 0, 1) := by decide +kernel
theorem dX7_isBlock_3 : decode cX7_isBlock 3 = .ok (.getfield 177, 3) := by decide +kernel
theorem dX7_isBlock_6 : decode cX7_isBlock 6 = .ok (.iconst 1, 1) := by decide +kernel
theorem dX7_isBlock_7 : decode cX7_isBlock 7 = .ok (.isub, 1) := by decide +kernel
theorem dX7_isBlock_8 : decode cX7_isBlock 8 = .ok (.invokestatic 85, 3) := by decide +kernel
theorem dX7_isBlock_11 : decode cX7_isBlock 11 = .ok (.ireturn, 1) := by decide +kernel
theorem dX7_isClerk_0 : decode cX7_isClerk 0 = .ok (.iload_n 1, 1) := by decide +kernel
theorem dX7_isClerk_1 : decode cX7_isClerk 1 = .ok (.iconst 0, 1) := by decide +kernel
theorem dX7_isClerk_2 : decode cX7_isClerk 2 = .ok (.aload_n 0, 1) := by decide +kernel
theorem dX7_isClerk_3 : decode cX7_isClerk 3 = .ok (.getfield 183, 3) := by decide +kernel
theorem dX7_isClerk_6 : decode cX7_isClerk 6 = .ok (.iconst 1, 1) := by decide +kernel
theorem dX7_isClerk_7 : decode cX7_isClerk 7 = .ok (.isub, 1) := by decide +kernel
theorem dX7_isClerk_8 : decode cX7_isClerk 8 = .ok (.invokestatic 85, 3) := by decide +kernel
theorem dX7_isClerk_11 : decode cX7_isClerk 11 = .ok (.ireturn, 1) := by decide +kernel
theorem dX7_isBlocks_0 : decode cX7_isBlocks 0 = .ok (.iload_n 1, 1) := by decide +kernel
theorem dX7_isBlocks_1 : decode cX7_isBlocks 1 = .ok (.iconst 0, 1) := by decide +kernel
theorem dX7_isBlocks_2 : decode cX7_isBlocks 2 = .ok (.iconst 1, 1) := by decide +kernel
theorem dX7_isBlocks_3 : decode cX7_isBlocks 3 = .ok (.aload_n 0, 1) := by decide +kernel
theorem dX7_isBlocks_4 : decode cX7_isBlocks 4 = .ok (.getfield 177, 3) := by decide +kernel
theorem dX7_isBlocks_7 : decode cX7_isBlocks 7 = .ok (.ishl, 1) := by decide +kernel
theorem dX7_isBlocks_8 : decode cX7_isBlocks 8 = .ok (.iconst 1, 1) := by decide +kernel
theorem dX7_isBlocks_9 : decode cX7_isBlocks 9 = .ok (.isub, 1) := by decide +kernel
theorem dX7_isBlocks_10 : decode cX7_isBlocks 10 = .ok (.invokestatic 85, 3) := by decide +kernel
theorem dX7_isBlocks_13 : decode cX7_isBlocks 13 = .ok (.ireturn, 1) := by decide +kernel
theorem dX7_remember_0 : decode cX7_remember 0 = .ok (.iconst 0, 1) := by decide +kernel
theorem dX7_remember_1 : decode cX7_remember 1 = .ok (.istore_n 1, 1) := by decide +kernel
theorem dX7_remember_2 : decode cX7_remember 2 = .ok (.iload_n 1, 1) := by decide +kernel
theorem dX7_remember_3 : decode cX7_remember 3 = .ok (.bipush 14, 2) := by decide +kernel
theorem dX7_remember_5 : decode cX7_remember 5 = .ok (.if_icmp .ge 29, 3) := by decide +kernel
theorem dX7_remember_8 : decode cX7_remember 8 = .ok (.aload_n 0, 1) := by decide +kernel
theorem dX7_remember_9 : decode cX7_remember 9 = .ok (.getfield 52, 3) := by decide +kernel
theorem dX7_remember_12 : decode cX7_remember 12 = .ok (.bipush 14, 2) := by decide +kernel
theorem dX7_remember_14 : decode cX7_remember 14 = .ok (.aload_n 0, 1) := by decide +kernel
theorem dX7_remember_15 : decode cX7_remember 15 = .ok (.getfield 195, 3) := by decide +kernel
theorem dX7_remember_18 : decode cX7_remember 18 = .ok (.imul, 1) := by decide +kernel
theorem dX7_remember_19 : decode cX7_remember 19 = .ok (.iload_n 1, 1) := by decide +kernel
theorem dX7_remember_20 : decode cX7_remember 20 = .ok (.iadd, 1) := by decide +kernel
theorem dX7_remember_21 : decode cX7_remember 21 = .ok (.aload_n 0, 1) := by decide +kernel
theorem dX7_remember_22 : decode cX7_remember 22 = .ok (.getfield 31, 3) := by decide +kernel
theorem dX7_remember_25 : decode cX7_remember 25 = .ok (.iload_n 1, 1) := by decide +kernel
theorem dX7_remember_26 : decode cX7_remember 26 = .ok (.iaload, 1) := by decide +kernel
theorem dX7_remember_27 : decode cX7_remember 27 = .ok (.iastore, 1) := by decide +kernel
theorem dX7_remember_28 : decode cX7_remember 28 = .ok (.iinc 1 1, 3) := by decide +kernel
theorem dX7_remember_31 : decode cX7_remember 31 = .ok (.goto (-29), 3) := by decide +kernel
theorem dX7_remember_34 : decode cX7_remember 34 = .ok (.aload_n 0, 1) := by decide +kernel
theorem dX7_remember_35 : decode cX7_remember 35 = .ok (.aload_n 0, 1) := by decide +kernel
theorem dX7_remember_36 : decode cX7_remember 36 = .ok (.getfield 195, 3) := by decide +kernel
theorem dX7_remember_39 : decode cX7_remember 39 = .ok (.iconst 1, 1) := by decide +kernel
theorem dX7_remember_40 : decode cX7_remember 40 = .ok (.iadd, 1) := by decide +kernel
theorem dX7_remember_41 : decode cX7_remember 41 = .ok (.bipush 24, 2) := by decide +kernel
theorem dX7_remember_43 : decode cX7_remember 43 = .ok (.irem, 1) := by decide +kernel
theorem dX7_remember_44 : decode cX7_remember 44 = .ok (.putfield 195, 3) := by decide +kernel
theorem dX7_remember_47 : decode cX7_remember 47 = .ok (.aload_n 0, 1) := by decide +kernel
theorem dX7_remember_48 : decode cX7_remember 48 = .ok (.aload_n 0, 1) := by decide +kernel
theorem dX7_remember_49 : decode cX7_remember 49 = .ok (.getfield 192, 3) := by decide +kernel
theorem dX7_remember_52 : decode cX7_remember 52 = .ok (.iconst 1, 1) := by decide +kernel
theorem dX7_remember_53 : decode cX7_remember 53 = .ok (.iadd, 1) := by decide +kernel
theorem dX7_remember_54 : decode cX7_remember 54 = .ok (.bipush 24, 2) := by decide +kernel
theorem dX7_remember_56 : decode cX7_remember 56 = .ok (.invokestatic 198, 3) := by decide +kernel
theorem dX7_remember_59 : decode cX7_remember 59 = .ok (.putfield 192, 3) := by decide +kernel
theorem dX7_remember_62 : decode cX7_remember 62 = .ok (.return_, 1) := by decide +kernel
theorem dX7_undo_0 : decode cX7_undo 0 = .ok (.aload_n 0, 1) := by decide +kernel
theorem dX7_undo_1 : decode cX7_undo 1 = .ok (.getfield 192, 3) := by decide +kernel
theorem dX7_undo_4 : decode cX7_undo 4 = .ok (.ifCond .ne 6, 3) := by decide +kernel
theorem dX7_undo_7 : decode cX7_undo 7 = .ok (.ldc 201, 2) := by decide +kernel
theorem dX7_undo_9 : decode cX7_undo 9 = .ok (.ireturn, 1) := by decide +kernel
theorem dX7_undo_10 : decode cX7_undo 10 = .ok (.aload_n 0, 1) := by decide +kernel
theorem dX7_undo_11 : decode cX7_undo 11 = .ok (.aload_n 0, 1) := by decide +kernel
theorem dX7_undo_12 : decode cX7_undo 12 = .ok (.getfield 195, 3) := by decide +kernel
theorem dX7_undo_15 : decode cX7_undo 15 = .ok (.bipush 24, 2) := by decide +kernel
theorem dX7_undo_17 : decode cX7_undo 17 = .ok (.iadd, 1) := by decide +kernel
theorem dX7_undo_18 : decode cX7_undo 18 = .ok (.iconst 1, 1) := by decide +kernel
theorem dX7_undo_19 : decode cX7_undo 19 = .ok (.isub, 1) := by decide +kernel
theorem dX7_undo_20 : decode cX7_undo 20 = .ok (.bipush 24, 2) := by decide +kernel
theorem dX7_undo_22 : decode cX7_undo 22 = .ok (.irem, 1) := by decide +kernel
theorem dX7_undo_23 : decode cX7_undo 23 = .ok (.putfield 195, 3) := by decide +kernel
theorem dX7_undo_26 : decode cX7_undo 26 = .ok (.aload_n 0, 1) := by decide +kernel
theorem dX7_undo_27 : decode cX7_undo 27 = .ok (.dup, 1) := by decide +kernel
theorem dX7_undo_28 : decode cX7_undo 28 = .ok (.getfield 192, 3) := by decide +kernel
theorem dX7_undo_31 : decode cX7_undo 31 = .ok (.iconst 1, 1) := by decide +kernel
theorem dX7_undo_32 : decode cX7_undo 32 = .ok (.isub, 1) := by decide +kernel
theorem dX7_undo_33 : decode cX7_undo 33 = .ok (.putfield 192, 3) := by decide +kernel
theorem dX7_undo_36 : decode cX7_undo 36 = .ok (.iconst 0, 1) := by decide +kernel
theorem dX7_undo_37 : decode cX7_undo 37 = .ok (.istore_n 1, 1) := by decide +kernel
theorem dX7_undo_38 : decode cX7_undo 38 = .ok (.iload_n 1, 1) := by decide +kernel
theorem dX7_undo_39 : decode cX7_undo 39 = .ok (.bipush 14, 2) := by decide +kernel
theorem dX7_undo_41 : decode cX7_undo 41 = .ok (.if_icmp .ge 29, 3) := by decide +kernel
theorem dX7_undo_44 : decode cX7_undo 44 = .ok (.aload_n 0, 1) := by decide +kernel
theorem dX7_undo_45 : decode cX7_undo 45 = .ok (.getfield 31, 3) := by decide +kernel
theorem dX7_undo_48 : decode cX7_undo 48 = .ok (.iload_n 1, 1) := by decide +kernel
theorem dX7_undo_49 : decode cX7_undo 49 = .ok (.aload_n 0, 1) := by decide +kernel
theorem dX7_undo_50 : decode cX7_undo 50 = .ok (.getfield 52, 3) := by decide +kernel
theorem dX7_undo_53 : decode cX7_undo 53 = .ok (.bipush 14, 2) := by decide +kernel
theorem dX7_undo_55 : decode cX7_undo 55 = .ok (.aload_n 0, 1) := by decide +kernel
theorem dX7_undo_56 : decode cX7_undo 56 = .ok (.getfield 195, 3) := by decide +kernel
theorem dX7_undo_59 : decode cX7_undo 59 = .ok (.imul, 1) := by decide +kernel
theorem dX7_undo_60 : decode cX7_undo 60 = .ok (.iload_n 1, 1) := by decide +kernel
theorem dX7_undo_61 : decode cX7_undo 61 = .ok (.iadd, 1) := by decide +kernel
theorem dX7_undo_62 : decode cX7_undo 62 = .ok (.iaload, 1) := by decide +kernel
theorem dX7_undo_63 : decode cX7_undo 63 = .ok (.iastore, 1) := by decide +kernel
theorem dX7_undo_64 : decode cX7_undo 64 = .ok (.iinc 1 1, 3) := by decide +kernel
theorem dX7_undo_67 : decode cX7_undo 67 = .ok (.goto (-29), 3) := by decide +kernel
theorem dX7_undo_70 : decode cX7_undo 70 = .ok (.aload_n 0, 1) := by decide +kernel
theorem dX7_undo_71 : decode cX7_undo 71 = .ok (.getfield 192, 3) := by decide +kernel
theorem dX7_undo_74 : decode cX7_undo 74 = .ok (.ireturn, 1) := by decide +kernel
theorem dX7_standing_0 : decode cX7_standing 0 = .ok (.iconst 0, 1) := by decide +kernel
theorem dX7_standing_1 : decode cX7_standing 1 = .ok (.istore_n 2, 1) := by decide +kernel
theorem dX7_standing_2 : decode cX7_standing 2 = .ok (.iconst 0, 1) := by decide +kernel
theorem dX7_standing_3 : decode cX7_standing 3 = .ok (.istore_n 3, 1) := by decide +kernel
theorem dX7_standing_4 : decode cX7_standing 4 = .ok (.iload_n 3, 1) := by decide +kernel
theorem dX7_standing_5 : decode cX7_standing 5 = .ok (.aload_n 0, 1) := by decide +kernel
theorem dX7_standing_6 : decode cX7_standing 6 = .ok (.getfield 177, 3) := by decide +kernel
theorem dX7_standing_9 : decode cX7_standing 9 = .ok (.if_icmp .ge 45, 3) := by decide +kernel
theorem dX7_standing_12 : decode cX7_standing 12 = .ok (.iload_n 2, 1) := by decide +kernel
theorem dX7_standing_13 : decode cX7_standing 13 = .ok (.aload_n 1, 1) := by decide +kernel
theorem dX7_standing_14 : decode cX7_standing 14 = .ok (.iload_n 3, 1) := by decide +kernel
theorem dX7_standing_15 : decode cX7_standing 15 = .ok (.iaload, 1) := by decide +kernel
theorem dX7_standing_16 : decode cX7_standing 16 = .ok (.ifCond .le 29, 3) := by decide +kernel
theorem dX7_standing_19 : decode cX7_standing 19 = .ok (.aload_n 0, 1) := by decide +kernel
theorem dX7_standing_20 : decode cX7_standing 20 = .ok (.getfield 22, 3) := by decide +kernel
theorem dX7_standing_23 : decode cX7_standing 23 = .ok (.iload_n 3, 1) := by decide +kernel
theorem dX7_standing_24 : decode cX7_standing 24 = .ok (.iaload, 1) := by decide +kernel
theorem dX7_standing_25 : decode cX7_standing 25 = .ok (.ifCond .eq 14, 3) := by decide +kernel
theorem dX7_standing_28 : decode cX7_standing 28 = .ok (.aload_n 0, 1) := by decide +kernel
theorem dX7_standing_29 : decode cX7_standing 29 = .ok (.getfield 22, 3) := by decide +kernel
theorem dX7_standing_32 : decode cX7_standing 32 = .ok (.iload_n 3, 1) := by decide +kernel
theorem dX7_standing_33 : decode cX7_standing 33 = .ok (.iaload, 1) := by decide +kernel
theorem dX7_standing_34 : decode cX7_standing 34 = .ok (.iload_n 2, 1) := by decide +kernel
theorem dX7_standing_35 : decode cX7_standing 35 = .ok (.iand, 1) := by decide +kernel
theorem dX7_standing_36 : decode cX7_standing 36 = .ok (.ifCond .eq 9, 3) := by decide +kernel
theorem dX7_standing_39 : decode cX7_standing 39 = .ok (.iconst 1, 1) := by decide +kernel
theorem dX7_standing_40 : decode cX7_standing 40 = .ok (.iload_n 3, 1) := by decide +kernel
theorem dX7_standing_41 : decode cX7_standing 41 = .ok (.ishl, 1) := by decide +kernel
theorem dX7_standing_42 : decode cX7_standing 42 = .ok (.goto 4, 3) := by decide +kernel
theorem dX7_standing_45 : decode cX7_standing 45 = .ok (.iconst 0, 1) := by decide +kernel
theorem dX7_standing_46 : decode cX7_standing 46 = .ok (.ior, 1) := by decide +kernel
theorem dX7_standing_47 : decode cX7_standing 47 = .ok (.istore_n 2, 1) := by decide +kernel
theorem dX7_standing_48 : decode cX7_standing 48 = .ok (.iinc 3 1, 3) := by decide +kernel
theorem dX7_standing_51 : decode cX7_standing 51 = .ok (.goto (-47), 3) := by decide +kernel
theorem dX7_standing_54 : decode cX7_standing 54 = .ok (.iload_n 2, 1) := by decide +kernel
theorem dX7_standing_55 : decode cX7_standing 55 = .ok (.ireturn, 1) := by decide +kernel
theorem dX7_fallen_0 : decode cX7_fallen 0 = .ok (.aload_n 0, 1) := by decide +kernel
theorem dX7_fallen_1 : decode cX7_fallen 1 = .ok (.aload_n 1, 1) := by decide +kernel
theorem dX7_fallen_2 : decode cX7_fallen 2 = .ok (.invokevirtual 202, 3) := by decide +kernel
theorem dX7_fallen_5 : decode cX7_fallen 5 = .ok (.istore_n 2, 1) := by decide +kernel
theorem dX7_fallen_6 : decode cX7_fallen 6 = .ok (.iconst 0, 1) := by decide +kernel
theorem dX7_fallen_7 : decode cX7_fallen 7 = .ok (.istore_n 3, 1) := by decide +kernel
theorem dX7_fallen_8 : decode cX7_fallen 8 = .ok (.iconst 0, 1) := by decide +kernel
theorem dX7_fallen_9 : decode cX7_fallen 9 = .ok (.istore 4, 2) := by decide +kernel
theorem dX7_fallen_11 : decode cX7_fallen 11 = .ok (.iload 4, 2) := by decide +kernel
theorem dX7_fallen_13 : decode cX7_fallen 13 = .ok (.aload_n 0, 1) := by decide +kernel
theorem dX7_fallen_14 : decode cX7_fallen 14 = .ok (.getfield 177, 3) := by decide +kernel
theorem dX7_fallen_17 : decode cX7_fallen 17 = .ok (.if_icmp .ge 36, 3) := by decide +kernel
theorem dX7_fallen_20 : decode cX7_fallen 20 = .ok (.iload_n 3, 1) := by decide +kernel
theorem dX7_fallen_21 : decode cX7_fallen 21 = .ok (.aload_n 1, 1) := by decide +kernel
theorem dX7_fallen_22 : decode cX7_fallen 22 = .ok (.iload 4, 2) := by decide +kernel
theorem dX7_fallen_24 : decode cX7_fallen 24 = .ok (.iaload, 1) := by decide +kernel
theorem dX7_fallen_25 : decode cX7_fallen 25 = .ok (.ifCond .le 19, 3) := by decide +kernel
theorem dX7_fallen_28 : decode cX7_fallen 28 = .ok (.iload_n 2, 1) := by decide +kernel
theorem dX7_fallen_29 : decode cX7_fallen 29 = .ok (.iload 4, 2) := by decide +kernel
theorem dX7_fallen_31 : decode cX7_fallen 31 = .ok (.invokestatic 146, 3) := by decide +kernel
theorem dX7_fallen_34 : decode cX7_fallen 34 = .ok (.ifCond .ne 10, 3) := by decide +kernel
theorem dX7_fallen_37 : decode cX7_fallen 37 = .ok (.iconst 1, 1) := by decide +kernel
theorem dX7_fallen_38 : decode cX7_fallen 38 = .ok (.iload 4, 2) := by decide +kernel
theorem dX7_fallen_40 : decode cX7_fallen 40 = .ok (.ishl, 1) := by decide +kernel
theorem dX7_fallen_41 : decode cX7_fallen 41 = .ok (.goto 4, 3) := by decide +kernel
theorem dX7_fallen_44 : decode cX7_fallen 44 = .ok (.iconst 0, 1) := by decide +kernel
theorem dX7_fallen_45 : decode cX7_fallen 45 = .ok (.ior, 1) := by decide +kernel
theorem dX7_fallen_46 : decode cX7_fallen 46 = .ok (.istore_n 3, 1) := by decide +kernel
theorem dX7_fallen_47 : decode cX7_fallen 47 = .ok (.iinc 4 1, 3) := by decide +kernel
theorem dX7_fallen_50 : decode cX7_fallen 50 = .ok (.goto (-39), 3) := by decide +kernel
theorem dX7_fallen_53 : decode cX7_fallen 53 = .ok (.iload_n 3, 1) := by decide +kernel
theorem dX7_fallen_54 : decode cX7_fallen 54 = .ok (.ireturn, 1) := by decide +kernel
theorem dX7_takesBy_0 : decode cX7_takesBy 0 = .ok (.iload_n 1, 1) := by decide +kernel
theorem dX7_takesBy_1 : decode cX7_takesBy 1 = .ok (.tableswitch 59 1 4 #[31, 35, 43, 49], 31) := by decide +kernel
theorem dX7_takesBy_32 : decode cX7_takesBy 32 = .ok (.iload_n 2, 1) := by decide +kernel
theorem dX7_takesBy_33 : decode cX7_takesBy 33 = .ok (.iload_n 3, 1) := by decide +kernel
theorem dX7_takesBy_34 : decode cX7_takesBy 34 = .ok (.imul, 1) := by decide +kernel
theorem dX7_takesBy_35 : decode cX7_takesBy 35 = .ok (.ireturn, 1) := by decide +kernel
theorem dX7_takesBy_36 : decode cX7_takesBy 36 = .ok (.iload_n 2, 1) := by decide +kernel
theorem dX7_takesBy_37 : decode cX7_takesBy 37 = .ok (.iload_n 3, 1) := by decide +kernel
theorem dX7_takesBy_38 : decode cX7_takesBy 38 = .ok (.imul, 1) := by decide +kernel
theorem dX7_takesBy_39 : decode cX7_takesBy 39 = .ok (.iconst 1, 1) := by decide +kernel
theorem dX7_takesBy_40 : decode cX7_takesBy 40 = .ok (.iadd, 1) := by decide +kernel
theorem dX7_takesBy_41 : decode cX7_takesBy 41 = .ok (.iconst 2, 1) := by decide +kernel
theorem dX7_takesBy_42 : decode cX7_takesBy 42 = .ok (.idiv, 1) := by decide +kernel
theorem dX7_takesBy_43 : decode cX7_takesBy 43 = .ok (.ireturn, 1) := by decide +kernel
theorem dX7_takesBy_44 : decode cX7_takesBy 44 = .ok (.iconst 2, 1) := by decide +kernel
theorem dX7_takesBy_45 : decode cX7_takesBy 45 = .ok (.iload_n 2, 1) := by decide +kernel
theorem dX7_takesBy_46 : decode cX7_takesBy 46 = .ok (.imul, 1) := by decide +kernel
theorem dX7_takesBy_47 : decode cX7_takesBy 47 = .ok (.iload_n 3, 1) := by decide +kernel
theorem dX7_takesBy_48 : decode cX7_takesBy 48 = .ok (.imul, 1) := by decide +kernel
theorem dX7_takesBy_49 : decode cX7_takesBy 49 = .ok (.ireturn, 1) := by decide +kernel
theorem dX7_takesBy_50 : decode cX7_takesBy 50 = .ok (.iload_n 3, 1) := by decide +kernel
theorem dX7_takesBy_51 : decode cX7_takesBy 51 = .ok (.iload 4, 2) := by decide +kernel
theorem dX7_takesBy_53 : decode cX7_takesBy 53 = .ok (.bipush 9, 2) := by decide +kernel
theorem dX7_takesBy_55 : decode cX7_takesBy 55 = .ok (.invokestatic 198, 3) := by decide +kernel
theorem dX7_takesBy_58 : decode cX7_takesBy 58 = .ok (.iadd, 1) := by decide +kernel
theorem dX7_takesBy_59 : decode cX7_takesBy 59 = .ok (.ireturn, 1) := by decide +kernel
theorem dX7_takesBy_60 : decode cX7_takesBy 60 = .ok (.iload_n 3, 1) := by decide +kernel
theorem dX7_takesBy_61 : decode cX7_takesBy 61 = .ok (.iload 4, 2) := by decide +kernel
theorem dX7_takesBy_63 : decode cX7_takesBy 63 = .ok (.bipush 9, 2) := by decide +kernel
theorem dX7_takesBy_65 : decode cX7_takesBy 65 = .ok (.invokestatic 198, 3) := by decide +kernel
theorem dX7_takesBy_68 : decode cX7_takesBy 68 = .ok (.iadd, 1) := by decide +kernel
theorem dX7_takesBy_69 : decode cX7_takesBy 69 = .ok (.iload_n 2, 1) := by decide +kernel
theorem dX7_takesBy_70 : decode cX7_takesBy 70 = .ok (.iadd, 1) := by decide +kernel
theorem dX7_takesBy_71 : decode cX7_takesBy 71 = .ok (.ireturn, 1) := by decide +kernel
theorem dX7_takesOf_0 : decode cX7_takesOf 0 = .ok (.aload_n 0, 1) := by decide +kernel
theorem dX7_takesOf_1 : decode cX7_takesOf 1 = .ok (.aload_n 0, 1) := by decide +kernel
theorem dX7_takesOf_2 : decode cX7_takesOf 2 = .ok (.getfield 28, 3) := by decide +kernel
theorem dX7_takesOf_5 : decode cX7_takesOf 5 = .ok (.iload_n 2, 1) := by decide +kernel
theorem dX7_takesOf_6 : decode cX7_takesOf 6 = .ok (.iaload, 1) := by decide +kernel
theorem dX7_takesOf_7 : decode cX7_takesOf 7 = .ok (.aload_n 0, 1) := by decide +kernel
theorem dX7_takesOf_8 : decode cX7_takesOf 8 = .ok (.getfield 25, 3) := by decide +kernel
theorem dX7_takesOf_11 : decode cX7_takesOf 11 = .ok (.iload_n 2, 1) := by decide +kernel
theorem dX7_takesOf_12 : decode cX7_takesOf 12 = .ok (.iaload, 1) := by decide +kernel
theorem dX7_takesOf_13 : decode cX7_takesOf 13 = .ok (.iload_n 3, 1) := by decide +kernel
theorem dX7_takesOf_14 : decode cX7_takesOf 14 = .ok (.aload_n 1, 1) := by decide +kernel
theorem dX7_takesOf_15 : decode cX7_takesOf 15 = .ok (.bipush 13, 2) := by decide +kernel
theorem dX7_takesOf_17 : decode cX7_takesOf 17 = .ok (.iaload, 1) := by decide +kernel
theorem dX7_takesOf_18 : decode cX7_takesOf 18 = .ok (.invokevirtual 206, 3) := by decide +kernel
theorem dX7_takesOf_21 : decode cX7_takesOf 21 = .ok (.ireturn, 1) := by decide +kernel
theorem dX7_writes_0 : decode cX7_writes 0 = .ok (.aload_n 0, 1) := by decide +kernel
theorem dX7_writes_1 : decode cX7_writes 1 = .ok (.aload_n 1, 1) := by decide +kernel
theorem dX7_writes_2 : decode cX7_writes 2 = .ok (.iload_n 2, 1) := by decide +kernel
theorem dX7_writes_3 : decode cX7_writes 3 = .ok (.iload_n 3, 1) := by decide +kernel
theorem dX7_writes_4 : decode cX7_writes 4 = .ok (.invokevirtual 210, 3) := by decide +kernel
theorem dX7_writes_7 : decode cX7_writes 7 = .ok (.istore 5, 2) := by decide +kernel
theorem dX7_writes_9 : decode cX7_writes 9 = .ok (.aload_n 1, 1) := by decide +kernel
theorem dX7_writes_10 : decode cX7_writes 10 = .ok (.iload 4, 2) := by decide +kernel
theorem dX7_writes_12 : decode cX7_writes 12 = .ok (.iaload, 1) := by decide +kernel
theorem dX7_writes_13 : decode cX7_writes 13 = .ok (.iload 5, 2) := by decide +kernel
theorem dX7_writes_15 : decode cX7_writes 15 = .ok (.if_icmp .ge 5, 3) := by decide +kernel
theorem dX7_writes_18 : decode cX7_writes 18 = .ok (.iconst 0, 1) := by decide +kernel
theorem dX7_writes_19 : decode cX7_writes 19 = .ok (.ireturn, 1) := by decide +kernel
theorem dX7_writes_20 : decode cX7_writes 20 = .ok (.aload_n 1, 1) := by decide +kernel
theorem dX7_writes_21 : decode cX7_writes 21 = .ok (.iload 4, 2) := by decide +kernel
theorem dX7_writes_23 : decode cX7_writes 23 = .ok (.dup2, 1) := by decide +kernel
theorem dX7_writes_24 : decode cX7_writes 24 = .ok (.iaload, 1) := by decide +kernel
theorem dX7_writes_25 : decode cX7_writes 25 = .ok (.iload 5, 2) := by decide +kernel
theorem dX7_writes_27 : decode cX7_writes 27 = .ok (.isub, 1) := by decide +kernel
theorem dX7_writes_28 : decode cX7_writes 28 = .ok (.iastore, 1) := by decide +kernel
theorem dX7_writes_29 : decode cX7_writes 29 = .ok (.aload_n 1, 1) := by decide +kernel
theorem dX7_writes_30 : decode cX7_writes 30 = .ok (.bipush 12, 2) := by decide +kernel
theorem dX7_writes_32 : decode cX7_writes 32 = .ok (.dup2, 1) := by decide +kernel
theorem dX7_writes_33 : decode cX7_writes 33 = .ok (.iaload, 1) := by decide +kernel
theorem dX7_writes_34 : decode cX7_writes 34 = .ok (.iload 5, 2) := by decide +kernel
theorem dX7_writes_36 : decode cX7_writes 36 = .ok (.iadd, 1) := by decide +kernel
theorem dX7_writes_37 : decode cX7_writes 37 = .ok (.iastore, 1) := by decide +kernel
theorem dX7_writes_38 : decode cX7_writes 38 = .ok (.aload_n 1, 1) := by decide +kernel
theorem dX7_writes_39 : decode cX7_writes 39 = .ok (.bipush 8, 2) := by decide +kernel
theorem dX7_writes_41 : decode cX7_writes 41 = .ok (.iload_n 2, 1) := by decide +kernel
theorem dX7_writes_42 : decode cX7_writes 42 = .ok (.iadd, 1) := by decide +kernel
theorem dX7_writes_43 : decode cX7_writes 43 = .ok (.dup2, 1) := by decide +kernel
theorem dX7_writes_44 : decode cX7_writes 44 = .ok (.iaload, 1) := by decide +kernel
theorem dX7_writes_45 : decode cX7_writes 45 = .ok (.iload_n 3, 1) := by decide +kernel
theorem dX7_writes_46 : decode cX7_writes 46 = .ok (.iadd, 1) := by decide +kernel
theorem dX7_writes_47 : decode cX7_writes 47 = .ok (.iastore, 1) := by decide +kernel
theorem dX7_writes_48 : decode cX7_writes 48 = .ok (.iconst 1, 1) := by decide +kernel
theorem dX7_writes_49 : decode cX7_writes 49 = .ok (.ireturn, 1) := by decide +kernel
theorem dX7_restingOn_0 : decode cX7_restingOn 0 = .ok (.iconst 0, 1) := by decide +kernel
theorem dX7_restingOn_1 : decode cX7_restingOn 1 = .ok (.istore_n 2, 1) := by decide +kernel
theorem dX7_restingOn_2 : decode cX7_restingOn 2 = .ok (.iconst 0, 1) := by decide +kernel
theorem dX7_restingOn_3 : decode cX7_restingOn 3 = .ok (.istore_n 3, 1) := by decide +kernel
theorem dX7_restingOn_4 : decode cX7_restingOn 4 = .ok (.iload_n 3, 1) := by decide +kernel
theorem dX7_restingOn_5 : decode cX7_restingOn 5 = .ok (.aload_n 0, 1) := by decide +kernel
theorem dX7_restingOn_6 : decode cX7_restingOn 6 = .ok (.getfield 177, 3) := by decide +kernel
theorem dX7_restingOn_9 : decode cX7_restingOn 9 = .ok (.if_icmp .ge 32, 3) := by decide +kernel
theorem dX7_restingOn_12 : decode cX7_restingOn 12 = .ok (.iload_n 2, 1) := by decide +kernel
theorem dX7_restingOn_13 : decode cX7_restingOn 13 = .ok (.aload_n 0, 1) := by decide +kernel
theorem dX7_restingOn_14 : decode cX7_restingOn 14 = .ok (.getfield 22, 3) := by decide +kernel
theorem dX7_restingOn_17 : decode cX7_restingOn 17 = .ok (.iload_n 3, 1) := by decide +kernel
theorem dX7_restingOn_18 : decode cX7_restingOn 18 = .ok (.iaload, 1) := by decide +kernel
theorem dX7_restingOn_19 : decode cX7_restingOn 19 = .ok (.iload_n 1, 1) := by decide +kernel
theorem dX7_restingOn_20 : decode cX7_restingOn 20 = .ok (.invokestatic 146, 3) := by decide +kernel
theorem dX7_restingOn_23 : decode cX7_restingOn 23 = .ok (.ifCond .eq 9, 3) := by decide +kernel
theorem dX7_restingOn_26 : decode cX7_restingOn 26 = .ok (.iconst 1, 1) := by decide +kernel
theorem dX7_restingOn_27 : decode cX7_restingOn 27 = .ok (.iload_n 3, 1) := by decide +kernel
theorem dX7_restingOn_28 : decode cX7_restingOn 28 = .ok (.ishl, 1) := by decide +kernel
theorem dX7_restingOn_29 : decode cX7_restingOn 29 = .ok (.goto 4, 3) := by decide +kernel
theorem dX7_restingOn_32 : decode cX7_restingOn 32 = .ok (.iconst 0, 1) := by decide +kernel
theorem dX7_restingOn_33 : decode cX7_restingOn 33 = .ok (.ior, 1) := by decide +kernel
theorem dX7_restingOn_34 : decode cX7_restingOn 34 = .ok (.istore_n 2, 1) := by decide +kernel
theorem dX7_restingOn_35 : decode cX7_restingOn 35 = .ok (.iinc 3 1, 3) := by decide +kernel
theorem dX7_restingOn_38 : decode cX7_restingOn 38 = .ok (.goto (-34), 3) := by decide +kernel
theorem dX7_restingOn_41 : decode cX7_restingOn 41 = .ok (.iload_n 2, 1) := by decide +kernel
theorem dX7_restingOn_42 : decode cX7_restingOn 42 = .ok (.ireturn, 1) := by decide +kernel
theorem dX7_rainsOn_0 : decode cX7_rainsOn 0 = .ok (.aload_n 0, 1) := by decide +kernel
theorem dX7_rainsOn_1 : decode cX7_rainsOn 1 = .ok (.aload_n 1, 1) := by decide +kernel
theorem dX7_rainsOn_2 : decode cX7_rainsOn 2 = .ok (.invokevirtual 202, 3) := by decide +kernel
theorem dX7_rainsOn_5 : decode cX7_rainsOn 5 = .ok (.istore_n 2, 1) := by decide +kernel
theorem dX7_rainsOn_6 : decode cX7_rainsOn 6 = .ok (.iconst 0, 1) := by decide +kernel
theorem dX7_rainsOn_7 : decode cX7_rainsOn 7 = .ok (.istore_n 3, 1) := by decide +kernel
theorem dX7_rainsOn_8 : decode cX7_rainsOn 8 = .ok (.iload_n 3, 1) := by decide +kernel
theorem dX7_rainsOn_9 : decode cX7_rainsOn 9 = .ok (.aload_n 0, 1) := by decide +kernel
theorem dX7_rainsOn_10 : decode cX7_rainsOn 10 = .ok (.getfield 177, 3) := by decide +kernel
theorem dX7_rainsOn_13 : decode cX7_rainsOn 13 = .ok (.if_icmp .ge 70, 3) := by decide +kernel
theorem dX7_rainsOn_16 : decode cX7_rainsOn 16 = .ok (.iload_n 2, 1) := by decide +kernel
theorem dX7_rainsOn_17 : decode cX7_rainsOn 17 = .ok (.iload_n 3, 1) := by decide +kernel
theorem dX7_rainsOn_18 : decode cX7_rainsOn 18 = .ok (.invokestatic 146, 3) := by decide +kernel
theorem dX7_rainsOn_21 : decode cX7_rainsOn 21 = .ok (.ifCond .eq 17, 3) := by decide +kernel
theorem dX7_rainsOn_24 : decode cX7_rainsOn 24 = .ok (.aload_n 0, 1) := by decide +kernel
theorem dX7_rainsOn_25 : decode cX7_rainsOn 25 = .ok (.iload_n 3, 1) := by decide +kernel
theorem dX7_rainsOn_26 : decode cX7_rainsOn 26 = .ok (.invokevirtual 214, 3) := by decide +kernel
theorem dX7_rainsOn_29 : decode cX7_rainsOn 29 = .ok (.iload_n 2, 1) := by decide +kernel
theorem dX7_rainsOn_30 : decode cX7_rainsOn 30 = .ok (.iand, 1) := by decide +kernel
theorem dX7_rainsOn_31 : decode cX7_rainsOn 31 = .ok (.ifCond .ne 7, 3) := by decide +kernel
theorem dX7_rainsOn_34 : decode cX7_rainsOn 34 = .ok (.iconst 1, 1) := by decide +kernel
theorem dX7_rainsOn_35 : decode cX7_rainsOn 35 = .ok (.goto 4, 3) := by decide +kernel
theorem dX7_rainsOn_38 : decode cX7_rainsOn 38 = .ok (.iconst 0, 1) := by decide +kernel
theorem dX7_rainsOn_39 : decode cX7_rainsOn 39 = .ok (.istore 4, 2) := by decide +kernel
theorem dX7_rainsOn_41 : decode cX7_rainsOn 41 = .ok (.aload_n 1, 1) := by decide +kernel
theorem dX7_rainsOn_42 : decode cX7_rainsOn 42 = .ok (.iload_n 3, 1) := by decide +kernel
theorem dX7_rainsOn_43 : decode cX7_rainsOn 43 = .ok (.iload 4, 2) := by decide +kernel
theorem dX7_rainsOn_45 : decode cX7_rainsOn 45 = .ok (.ifCond .eq 28, 3) := by decide +kernel
theorem dX7_rainsOn_48 : decode cX7_rainsOn 48 = .ok (.aload_n 1, 1) := by decide +kernel
theorem dX7_rainsOn_49 : decode cX7_rainsOn 49 = .ok (.iload_n 3, 1) := by decide +kernel
theorem dX7_rainsOn_50 : decode cX7_rainsOn 50 = .ok (.iaload, 1) := by decide +kernel
theorem dX7_rainsOn_51 : decode cX7_rainsOn 51 = .ok (.aload_n 0, 1) := by decide +kernel
theorem dX7_rainsOn_52 : decode cX7_rainsOn 52 = .ok (.getfield 186, 3) := by decide +kernel
theorem dX7_rainsOn_55 : decode cX7_rainsOn 55 = .ok (.if_icmp .le 14, 3) := by decide +kernel
theorem dX7_rainsOn_58 : decode cX7_rainsOn 58 = .ok (.aload_n 1, 1) := by decide +kernel
theorem dX7_rainsOn_59 : decode cX7_rainsOn 59 = .ok (.iload_n 3, 1) := by decide +kernel
theorem dX7_rainsOn_60 : decode cX7_rainsOn 60 = .ok (.iaload, 1) := by decide +kernel
theorem dX7_rainsOn_61 : decode cX7_rainsOn 61 = .ok (.aload_n 0, 1) := by decide +kernel
theorem dX7_rainsOn_62 : decode cX7_rainsOn 62 = .ok (.getfield 186, 3) := by decide +kernel
theorem dX7_rainsOn_65 : decode cX7_rainsOn 65 = .ok (.isub, 1) := by decide +kernel
theorem dX7_rainsOn_66 : decode cX7_rainsOn 66 = .ok (.goto 10, 3) := by decide +kernel
theorem dX7_rainsOn_69 : decode cX7_rainsOn 69 = .ok (.iconst 0, 1) := by decide +kernel
theorem dX7_rainsOn_70 : decode cX7_rainsOn 70 = .ok (.goto 6, 3) := by decide +kernel
theorem dX7_rainsOn_73 : decode cX7_rainsOn 73 = .ok (.aload_n 1, 1) := by decide +kernel
theorem dX7_rainsOn_74 : decode cX7_rainsOn 74 = .ok (.iload_n 3, 1) := by decide +kernel
theorem dX7_rainsOn_75 : decode cX7_rainsOn 75 = .ok (.iaload, 1) := by decide +kernel
theorem dX7_rainsOn_76 : decode cX7_rainsOn 76 = .ok (.iastore, 1) := by decide +kernel
theorem dX7_rainsOn_77 : decode cX7_rainsOn 77 = .ok (.iinc 3 1, 3) := by decide +kernel
theorem dX7_rainsOn_80 : decode cX7_rainsOn 80 = .ok (.goto (-72), 3) := by decide +kernel
theorem dX7_rainsOn_83 : decode cX7_rainsOn 83 = .ok (.return_, 1) := by decide +kernel
theorem dX7_write_0 : decode cX7_write 0 = .ok (.aload_n 0, 1) := by decide +kernel
theorem dX7_write_1 : decode cX7_write 1 = .ok (.iload_n 1, 1) := by decide +kernel
theorem dX7_write_2 : decode cX7_write 2 = .ok (.invokevirtual 217, 3) := by decide +kernel
theorem dX7_write_5 : decode cX7_write 5 = .ok (.ifCond .eq 21, 3) := by decide +kernel
theorem dX7_write_8 : decode cX7_write 8 = .ok (.iload_n 2, 1) := by decide +kernel
theorem dX7_write_9 : decode cX7_write 9 = .ok (.iconst 1, 1) := by decide +kernel
theorem dX7_write_10 : decode cX7_write 10 = .ok (.bipush 30, 2) := by decide +kernel
theorem dX7_write_12 : decode cX7_write 12 = .ok (.invokestatic 85, 3) := by decide +kernel
theorem dX7_write_15 : decode cX7_write 15 = .ok (.ifCond .eq 11, 3) := by decide +kernel
theorem dX7_write_18 : decode cX7_write 18 = .ok (.aload_n 0, 1) := by decide +kernel
theorem dX7_write_19 : decode cX7_write 19 = .ok (.iload_n 3, 1) := by decide +kernel
theorem dX7_write_20 : decode cX7_write 20 = .ok (.invokevirtual 220, 3) := by decide +kernel
theorem dX7_write_23 : decode cX7_write 23 = .ok (.ifCond .ne 6, 3) := by decide +kernel
theorem dX7_write_26 : decode cX7_write 26 = .ok (.ldc 93, 2) := by decide +kernel
theorem dX7_write_28 : decode cX7_write 28 = .ok (.ireturn, 1) := by decide +kernel
theorem dX7_write_29 : decode cX7_write 29 = .ok (.aload_n 0, 1) := by decide +kernel
theorem dX7_write_30 : decode cX7_write 30 = .ok (.aload_n 0, 1) := by decide +kernel
theorem dX7_write_31 : decode cX7_write 31 = .ok (.getfield 31, 3) := by decide +kernel
theorem dX7_write_34 : decode cX7_write 34 = .ok (.iload_n 1, 1) := by decide +kernel
theorem dX7_write_35 : decode cX7_write 35 = .ok (.iload_n 2, 1) := by decide +kernel
theorem dX7_write_36 : decode cX7_write 36 = .ok (.invokevirtual 210, 3) := by decide +kernel
theorem dX7_write_39 : decode cX7_write 39 = .ok (.istore 4, 2) := by decide +kernel
theorem dX7_write_41 : decode cX7_write 41 = .ok (.aload_n 0, 1) := by decide +kernel
theorem dX7_write_42 : decode cX7_write 42 = .ok (.getfield 31, 3) := by decide +kernel
theorem dX7_write_45 : decode cX7_write 45 = .ok (.iload_n 3, 1) := by decide +kernel
theorem dX7_write_46 : decode cX7_write 46 = .ok (.iaload, 1) := by decide +kernel
theorem dX7_write_47 : decode cX7_write 47 = .ok (.iload 4, 2) := by decide +kernel
theorem dX7_write_49 : decode cX7_write 49 = .ok (.if_icmp .ge 6, 3) := by decide +kernel
theorem dX7_write_52 : decode cX7_write 52 = .ok (.ldc 201, 2) := by decide +kernel
theorem dX7_write_54 : decode cX7_write 54 = .ok (.ireturn, 1) := by decide +kernel
theorem dX7_write_55 : decode cX7_write 55 = .ok (.aload_n 0, 1) := by decide +kernel
theorem dX7_write_56 : decode cX7_write 56 = .ok (.invokevirtual 223, 3) := by decide +kernel
theorem dX7_write_59 : decode cX7_write 59 = .ok (.aload_n 0, 1) := by decide +kernel
theorem dX7_write_60 : decode cX7_write 60 = .ok (.aload_n 0, 1) := by decide +kernel
theorem dX7_write_61 : decode cX7_write 61 = .ok (.getfield 31, 3) := by decide +kernel
theorem dX7_write_64 : decode cX7_write 64 = .ok (.iload_n 1, 1) := by decide +kernel
theorem dX7_write_65 : decode cX7_write 65 = .ok (.iload_n 2, 1) := by decide +kernel
theorem dX7_write_66 : decode cX7_write 66 = .ok (.iload_n 3, 1) := by decide +kernel
theorem dX7_write_67 : decode cX7_write 67 = .ok (.invokevirtual 226, 3) := by decide +kernel
theorem dX7_write_70 : decode cX7_write 70 = .ok (.pop, 1) := by decide +kernel
theorem dX7_write_71 : decode cX7_write 71 = .ok (.iload 4, 2) := by decide +kernel
theorem dX7_write_73 : decode cX7_write 73 = .ok (.ireturn, 1) := by decide +kernel
theorem dX7_rub_0 : decode cX7_rub 0 = .ok (.iload_n 1, 1) := by decide +kernel
theorem dX7_rub_1 : decode cX7_rub 1 = .ok (.iconst 1, 1) := by decide +kernel
theorem dX7_rub_2 : decode cX7_rub 2 = .ok (.bipush 60, 2) := by decide +kernel
theorem dX7_rub_4 : decode cX7_rub 4 = .ok (.invokestatic 85, 3) := by decide +kernel
theorem dX7_rub_7 : decode cX7_rub 7 = .ok (.ifCond .eq 11, 3) := by decide +kernel
theorem dX7_rub_10 : decode cX7_rub 10 = .ok (.aload_n 0, 1) := by decide +kernel
theorem dX7_rub_11 : decode cX7_rub 11 = .ok (.iload_n 2, 1) := by decide +kernel
theorem dX7_rub_12 : decode cX7_rub 12 = .ok (.invokevirtual 220, 3) := by decide +kernel
theorem dX7_rub_15 : decode cX7_rub 15 = .ok (.ifCond .ne 6, 3) := by decide +kernel
theorem dX7_rub_18 : decode cX7_rub 18 = .ok (.ldc 93, 2) := by decide +kernel
theorem dX7_rub_20 : decode cX7_rub 20 = .ok (.ireturn, 1) := by decide +kernel
theorem dX7_rub_21 : decode cX7_rub 21 = .ok (.aload_n 0, 1) := by decide +kernel
theorem dX7_rub_22 : decode cX7_rub 22 = .ok (.getfield 31, 3) := by decide +kernel
theorem dX7_rub_25 : decode cX7_rub 25 = .ok (.bipush 12, 2) := by decide +kernel
theorem dX7_rub_27 : decode cX7_rub 27 = .ok (.iaload, 1) := by decide +kernel
theorem dX7_rub_28 : decode cX7_rub 28 = .ok (.iload_n 1, 1) := by decide +kernel
theorem dX7_rub_29 : decode cX7_rub 29 = .ok (.if_icmp .ge 6, 3) := by decide +kernel
theorem dX7_rub_32 : decode cX7_rub 32 = .ok (.ldc 201, 2) := by decide +kernel
theorem dX7_rub_34 : decode cX7_rub 34 = .ok (.ireturn, 1) := by decide +kernel
theorem dX7_rub_35 : decode cX7_rub 35 = .ok (.aload_n 0, 1) := by decide +kernel
theorem dX7_rub_36 : decode cX7_rub 36 = .ok (.invokevirtual 223, 3) := by decide +kernel
theorem dX7_rub_39 : decode cX7_rub 39 = .ok (.aload_n 0, 1) := by decide +kernel
theorem dX7_rub_40 : decode cX7_rub 40 = .ok (.getfield 31, 3) := by decide +kernel
theorem dX7_rub_43 : decode cX7_rub 43 = .ok (.bipush 12, 2) := by decide +kernel
theorem dX7_rub_45 : decode cX7_rub 45 = .ok (.dup2, 1) := by decide +kernel
theorem dX7_rub_46 : decode cX7_rub 46 = .ok (.iaload, 1) := by decide +kernel
theorem dX7_rub_47 : decode cX7_rub 47 = .ok (.iload_n 1, 1) := by decide +kernel
theorem dX7_rub_48 : decode cX7_rub 48 = .ok (.isub, 1) := by decide +kernel
theorem dX7_rub_49 : decode cX7_rub 49 = .ok (.iastore, 1) := by decide +kernel
theorem dX7_rub_50 : decode cX7_rub 50 = .ok (.aload_n 0, 1) := by decide +kernel
theorem dX7_rub_51 : decode cX7_rub 51 = .ok (.getfield 31, 3) := by decide +kernel
theorem dX7_rub_54 : decode cX7_rub 54 = .ok (.iload_n 2, 1) := by decide +kernel
theorem dX7_rub_55 : decode cX7_rub 55 = .ok (.bipush 30, 2) := by decide +kernel
theorem dX7_rub_57 : decode cX7_rub 57 = .ok (.aload_n 0, 1) := by decide +kernel
theorem dX7_rub_58 : decode cX7_rub 58 = .ok (.getfield 31, 3) := by decide +kernel
theorem dX7_rub_61 : decode cX7_rub 61 = .ok (.iload_n 2, 1) := by decide +kernel
theorem dX7_rub_62 : decode cX7_rub 62 = .ok (.iaload, 1) := by decide +kernel
theorem dX7_rub_63 : decode cX7_rub 63 = .ok (.iload_n 1, 1) := by decide +kernel
theorem dX7_rub_64 : decode cX7_rub 64 = .ok (.aload_n 0, 1) := by decide +kernel
theorem dX7_rub_65 : decode cX7_rub 65 = .ok (.getfield 189, 3) := by decide +kernel
theorem dX7_rub_68 : decode cX7_rub 68 = .ok (.imul, 1) := by decide +kernel
theorem dX7_rub_69 : decode cX7_rub 69 = .ok (.bipush 10, 2) := by decide +kernel
theorem dX7_rub_71 : decode cX7_rub 71 = .ok (.idiv, 1) := by decide +kernel
theorem dX7_rub_72 : decode cX7_rub 72 = .ok (.iadd, 1) := by decide +kernel
theorem dX7_rub_73 : decode cX7_rub 73 = .ok (.invokestatic 198, 3) := by decide +kernel
theorem dX7_rub_76 : decode cX7_rub 76 = .ok (.iastore, 1) := by decide +kernel
theorem dX7_rub_77 : decode cX7_rub 77 = .ok (.aload_n 0, 1) := by decide +kernel
theorem dX7_rub_78 : decode cX7_rub 78 = .ok (.getfield 31, 3) := by decide +kernel
theorem dX7_rub_81 : decode cX7_rub 81 = .ok (.iload_n 2, 1) := by decide +kernel
theorem dX7_rub_82 : decode cX7_rub 82 = .ok (.iaload, 1) := by decide +kernel
theorem dX7_rub_83 : decode cX7_rub 83 = .ok (.ireturn, 1) := by decide +kernel
theorem dX7_rain_0 : decode cX7_rain 0 = .ok (.aload_n 0, 1) := by decide +kernel
theorem dX7_rain_1 : decode cX7_rain 1 = .ok (.getfield 177, 3) := by decide +kernel
theorem dX7_rain_4 : decode cX7_rain 4 = .ok (.ifCond .ne 6, 3) := by decide +kernel
theorem dX7_rain_7 : decode cX7_rain 7 = .ok (.ldc 201, 2) := by decide +kernel
theorem dX7_rain_9 : decode cX7_rain 9 = .ok (.ireturn, 1) := by decide +kernel
theorem dX7_rain_10 : decode cX7_rain 10 = .ok (.aload_n 0, 1) := by decide +kernel
theorem dX7_rain_11 : decode cX7_rain 11 = .ok (.invokevirtual 223, 3) := by decide +kernel
theorem dX7_rain_14 : decode cX7_rain 14 = .ok (.aload_n 0, 1) := by decide +kernel
theorem dX7_rain_15 : decode cX7_rain 15 = .ok (.aload_n 0, 1) := by decide +kernel
theorem dX7_rain_16 : decode cX7_rain 16 = .ok (.getfield 31, 3) := by decide +kernel
theorem dX7_rain_19 : decode cX7_rain 19 = .ok (.invokevirtual 230, 3) := by decide +kernel
theorem dX7_rain_22 : decode cX7_rain 22 = .ok (.aload_n 0, 1) := by decide +kernel
theorem dX7_rain_23 : decode cX7_rain 23 = .ok (.aload_n 0, 1) := by decide +kernel
theorem dX7_rain_24 : decode cX7_rain 24 = .ok (.getfield 31, 3) := by decide +kernel
theorem dX7_rain_27 : decode cX7_rain 27 = .ok (.invokevirtual 202, 3) := by decide +kernel
theorem dX7_rain_30 : decode cX7_rain 30 = .ok (.ireturn, 1) := by decide +kernel
theorem dX7_days_0 : decode cX7_days 0 = .ok (.aload_n 0, 1) := by decide +kernel
theorem dX7_days_1 : decode cX7_days 1 = .ok (.getfield 177, 3) := by decide +kernel
theorem dX7_days_4 : decode cX7_days 4 = .ok (.ifCond .ne 6, 3) := by decide +kernel
theorem dX7_days_7 : decode cX7_days 7 = .ok (.ldc 201, 2) := by decide +kernel
theorem dX7_days_9 : decode cX7_days 9 = .ok (.ireturn, 1) := by decide +kernel
theorem dX7_days_10 : decode cX7_days 10 = .ok (.iload_n 1, 1) := by decide +kernel
theorem dX7_days_11 : decode cX7_days 11 = .ok (.iconst 1, 1) := by decide +kernel
theorem dX7_days_12 : decode cX7_days 12 = .ok (.bipush 24, 2) := by decide +kernel
theorem dX7_days_14 : decode cX7_days 14 = .ok (.invokestatic 85, 3) := by decide +kernel
theorem dX7_days_17 : decode cX7_days 17 = .ok (.ifCond .ne 6, 3) := by decide +kernel
theorem dX7_days_20 : decode cX7_days 20 = .ok (.ldc 93, 2) := by decide +kernel
theorem dX7_days_22 : decode cX7_days 22 = .ok (.ireturn, 1) := by decide +kernel
theorem dX7_days_23 : decode cX7_days 23 = .ok (.aload_n 0, 1) := by decide +kernel
theorem dX7_days_24 : decode cX7_days 24 = .ok (.getfield 31, 3) := by decide +kernel
theorem dX7_days_27 : decode cX7_days 27 = .ok (.bipush 13, 2) := by decide +kernel
theorem dX7_days_29 : decode cX7_days 29 = .ok (.iaload, 1) := by decide +kernel
theorem dX7_days_30 : decode cX7_days 30 = .ok (.iload_n 1, 1) := by decide +kernel
theorem dX7_days_31 : decode cX7_days 31 = .ok (.iadd, 1) := by decide +kernel
theorem dX7_days_32 : decode cX7_days 32 = .ok (.sipush 999, 3) := by decide +kernel
theorem dX7_days_35 : decode cX7_days 35 = .ok (.if_icmp .le 6, 3) := by decide +kernel
theorem dX7_days_38 : decode cX7_days 38 = .ok (.ldc 111, 2) := by decide +kernel
theorem dX7_days_40 : decode cX7_days 40 = .ok (.ireturn, 1) := by decide +kernel
theorem dX7_days_41 : decode cX7_days 41 = .ok (.iconst 0, 1) := by decide +kernel
theorem dX7_days_42 : decode cX7_days 42 = .ok (.istore_n 2, 1) := by decide +kernel
theorem dX7_days_43 : decode cX7_days 43 = .ok (.iload_n 2, 1) := by decide +kernel
theorem dX7_days_44 : decode cX7_days 44 = .ok (.iload_n 1, 1) := by decide +kernel
theorem dX7_days_45 : decode cX7_days 45 = .ok (.if_icmp .ge 24, 3) := by decide +kernel
theorem dX7_days_48 : decode cX7_days 48 = .ok (.aload_n 0, 1) := by decide +kernel
theorem dX7_days_49 : decode cX7_days 49 = .ok (.invokevirtual 223, 3) := by decide +kernel
theorem dX7_days_52 : decode cX7_days 52 = .ok (.aload_n 0, 1) := by decide +kernel
theorem dX7_days_53 : decode cX7_days 53 = .ok (.getfield 31, 3) := by decide +kernel
theorem dX7_days_56 : decode cX7_days 56 = .ok (.bipush 13, 2) := by decide +kernel
theorem dX7_days_58 : decode cX7_days 58 = .ok (.dup2, 1) := by decide +kernel
theorem dX7_days_59 : decode cX7_days 59 = .ok (.iaload, 1) := by decide +kernel
theorem dX7_days_60 : decode cX7_days 60 = .ok (.iconst 1, 1) := by decide +kernel
theorem dX7_days_61 : decode cX7_days 61 = .ok (.iadd, 1) := by decide +kernel
theorem dX7_days_62 : decode cX7_days 62 = .ok (.iastore, 1) := by decide +kernel
theorem dX7_days_63 : decode cX7_days 63 = .ok (.iinc 2 1, 3) := by decide +kernel
theorem dX7_days_66 : decode cX7_days 66 = .ok (.goto (-23), 3) := by decide +kernel
theorem dX7_days_69 : decode cX7_days 69 = .ok (.aload_n 0, 1) := by decide +kernel
theorem dX7_days_70 : decode cX7_days 70 = .ok (.getfield 31, 3) := by decide +kernel
theorem dX7_days_73 : decode cX7_days 73 = .ok (.bipush 13, 2) := by decide +kernel
theorem dX7_days_75 : decode cX7_days 75 = .ok (.iaload, 1) := by decide +kernel
theorem dX7_days_76 : decode cX7_days 76 = .ok (.ireturn, 1) := by decide +kernel
theorem dX7_block_0 : decode cX7_block 0 = .ok (.aload_n 0, 1) := by decide +kernel
theorem dX7_block_1 : decode cX7_block 1 = .ok (.iload_n 1, 1) := by decide +kernel
theorem dX7_block_2 : decode cX7_block 2 = .ok (.invokevirtual 220, 3) := by decide +kernel
theorem dX7_block_5 : decode cX7_block 5 = .ok (.ifCond .eq 12, 3) := by decide +kernel
theorem dX7_block_8 : decode cX7_block 8 = .ok (.iload_n 2, 1) := by decide +kernel
theorem dX7_block_9 : decode cX7_block 9 = .ok (.iconst 0, 1) := by decide +kernel
theorem dX7_block_10 : decode cX7_block 10 = .ok (.iconst 3, 1) := by decide +kernel
theorem dX7_block_11 : decode cX7_block 11 = .ok (.invokestatic 85, 3) := by decide +kernel
theorem dX7_block_14 : decode cX7_block 14 = .ok (.ifCond .ne 6, 3) := by decide +kernel
theorem dX7_block_17 : decode cX7_block 17 = .ok (.ldc 93, 2) := by decide +kernel
theorem dX7_block_19 : decode cX7_block 19 = .ok (.ireturn, 1) := by decide +kernel
theorem dX7_block_20 : decode cX7_block 20 = .ok (.iload_n 2, 1) := by decide +kernel
theorem dX7_block_21 : decode cX7_block 21 = .ok (.tableswitch 54 0 2 #[27, 34, 47], 27) := by decide +kernel
theorem dX7_block_48 : decode cX7_block 48 = .ok (.aload_n 0, 1) := by decide +kernel
theorem dX7_block_49 : decode cX7_block 49 = .ok (.getfield 31, 3) := by decide +kernel
theorem dX7_block_52 : decode cX7_block 52 = .ok (.iload_n 1, 1) := by decide +kernel
theorem dX7_block_53 : decode cX7_block 53 = .ok (.iaload, 1) := by decide +kernel
theorem dX7_block_54 : decode cX7_block 54 = .ok (.ireturn, 1) := by decide +kernel
theorem dX7_block_55 : decode cX7_block 55 = .ok (.aload_n 0, 1) := by decide +kernel
theorem dX7_block_56 : decode cX7_block 56 = .ok (.aload_n 0, 1) := by decide +kernel
theorem dX7_block_57 : decode cX7_block 57 = .ok (.getfield 31, 3) := by decide +kernel
theorem dX7_block_60 : decode cX7_block 60 = .ok (.invokevirtual 202, 3) := by decide +kernel
theorem dX7_block_63 : decode cX7_block 63 = .ok (.iload_n 1, 1) := by decide +kernel
theorem dX7_block_64 : decode cX7_block 64 = .ok (.ishr, 1) := by decide +kernel
theorem dX7_block_65 : decode cX7_block 65 = .ok (.iconst 1, 1) := by decide +kernel
theorem dX7_block_66 : decode cX7_block 66 = .ok (.iand, 1) := by decide +kernel
theorem dX7_block_67 : decode cX7_block 67 = .ok (.ireturn, 1) := by decide +kernel
theorem dX7_block_68 : decode cX7_block 68 = .ok (.aload_n 0, 1) := by decide +kernel
theorem dX7_block_69 : decode cX7_block 69 = .ok (.getfield 22, 3) := by decide +kernel
theorem dX7_block_72 : decode cX7_block 72 = .ok (.iload_n 1, 1) := by decide +kernel
theorem dX7_block_73 : decode cX7_block 73 = .ok (.iaload, 1) := by decide +kernel
theorem dX7_block_74 : decode cX7_block 74 = .ok (.ireturn, 1) := by decide +kernel
theorem dX7_block_75 : decode cX7_block 75 = .ok (.aload_n 0, 1) := by decide +kernel
theorem dX7_block_76 : decode cX7_block 76 = .ok (.iload_n 1, 1) := by decide +kernel
theorem dX7_block_77 : decode cX7_block 77 = .ok (.invokevirtual 214, 3) := by decide +kernel
theorem dX7_block_80 : decode cX7_block 80 = .ok (.ireturn, 1) := by decide +kernel
theorem dX7_clerk_0 : decode cX7_clerk 0 = .ok (.aload_n 0, 1) := by decide +kernel
theorem dX7_clerk_1 : decode cX7_clerk 1 = .ok (.iload_n 1, 1) := by decide +kernel
theorem dX7_clerk_2 : decode cX7_clerk 2 = .ok (.invokevirtual 217, 3) := by decide +kernel
theorem dX7_clerk_5 : decode cX7_clerk 5 = .ok (.ifCond .eq 12, 3) := by decide +kernel
theorem dX7_clerk_8 : decode cX7_clerk 8 = .ok (.iload_n 2, 1) := by decide +kernel
theorem dX7_clerk_9 : decode cX7_clerk 9 = .ok (.iconst 0, 1) := by decide +kernel
theorem dX7_clerk_10 : decode cX7_clerk 10 = .ok (.iconst 1, 1) := by decide +kernel
theorem dX7_clerk_11 : decode cX7_clerk 11 = .ok (.invokestatic 85, 3) := by decide +kernel
theorem dX7_clerk_14 : decode cX7_clerk 14 = .ok (.ifCond .ne 8, 3) := by decide +kernel
theorem dX7_clerk_17 : decode cX7_clerk 17 = .ok (.ldc 93, 2) := by decide +kernel
theorem dX7_clerk_19 : decode cX7_clerk 19 = .ok (.goto 25, 3) := by decide +kernel
theorem dX7_clerk_22 : decode cX7_clerk 22 = .ok (.iload_n 2, 1) := by decide +kernel
theorem dX7_clerk_23 : decode cX7_clerk 23 = .ok (.ifCond .ne 12, 3) := by decide +kernel
theorem dX7_clerk_26 : decode cX7_clerk 26 = .ok (.aload_n 0, 1) := by decide +kernel
theorem dX7_clerk_27 : decode cX7_clerk 27 = .ok (.getfield 25, 3) := by decide +kernel
theorem dX7_clerk_30 : decode cX7_clerk 30 = .ok (.iload_n 1, 1) := by decide +kernel
theorem dX7_clerk_31 : decode cX7_clerk 31 = .ok (.iaload, 1) := by decide +kernel
theorem dX7_clerk_32 : decode cX7_clerk 32 = .ok (.goto 12, 3) := by decide +kernel
theorem dX7_clerk_35 : decode cX7_clerk 35 = .ok (.aload_n 0, 1) := by decide +kernel
theorem dX7_clerk_36 : decode cX7_clerk 36 = .ok (.getfield 31, 3) := by decide +kernel
theorem dX7_clerk_39 : decode cX7_clerk 39 = .ok (.bipush 8, 2) := by decide +kernel
theorem dX7_clerk_41 : decode cX7_clerk 41 = .ok (.iload_n 1, 1) := by decide +kernel
theorem dX7_clerk_42 : decode cX7_clerk 42 = .ok (.iadd, 1) := by decide +kernel
theorem dX7_clerk_43 : decode cX7_clerk 43 = .ok (.iaload, 1) := by decide +kernel
theorem dX7_clerk_44 : decode cX7_clerk 44 = .ok (.ireturn, 1) := by decide +kernel
theorem dX7_takes_0 : decode cX7_takes 0 = .ok (.aload_n 0, 1) := by decide +kernel
theorem dX7_takes_1 : decode cX7_takes 1 = .ok (.iload_n 1, 1) := by decide +kernel
theorem dX7_takes_2 : decode cX7_takes 2 = .ok (.invokevirtual 217, 3) := by decide +kernel
theorem dX7_takes_5 : decode cX7_takes 5 = .ok (.ifCond .eq 26, 3) := by decide +kernel
theorem dX7_takes_8 : decode cX7_takes 8 = .ok (.iload_n 2, 1) := by decide +kernel
theorem dX7_takes_9 : decode cX7_takes 9 = .ok (.iconst 1, 1) := by decide +kernel
theorem dX7_takes_10 : decode cX7_takes 10 = .ok (.bipush 30, 2) := by decide +kernel
theorem dX7_takes_12 : decode cX7_takes 12 = .ok (.invokestatic 85, 3) := by decide +kernel
theorem dX7_takes_15 : decode cX7_takes 15 = .ok (.ifCond .eq 16, 3) := by decide +kernel
theorem dX7_takes_18 : decode cX7_takes 18 = .ok (.aload_n 0, 1) := by decide +kernel
theorem dX7_takes_19 : decode cX7_takes 19 = .ok (.aload_n 0, 1) := by decide +kernel
theorem dX7_takes_20 : decode cX7_takes 20 = .ok (.getfield 31, 3) := by decide +kernel
theorem dX7_takes_23 : decode cX7_takes 23 = .ok (.iload_n 1, 1) := by decide +kernel
theorem dX7_takes_24 : decode cX7_takes 24 = .ok (.iload_n 2, 1) := by decide +kernel
theorem dX7_takes_25 : decode cX7_takes 25 = .ok (.invokevirtual 210, 3) := by decide +kernel
theorem dX7_takes_28 : decode cX7_takes 28 = .ok (.goto 5, 3) := by decide +kernel
theorem dX7_takes_31 : decode cX7_takes 31 = .ok (.ldc 93, 2) := by decide +kernel
theorem dX7_takes_33 : decode cX7_takes 33 = .ok (.ireturn, 1) := by decide +kernel
theorem dX7_allLines_0 : decode cX7_allLines 0 = .ok (.iconst 0, 1) := by decide +kernel
theorem dX7_allLines_1 : decode cX7_allLines 1 = .ok (.istore_n 1, 1) := by decide +kernel
theorem dX7_allLines_2 : decode cX7_allLines 2 = .ok (.iconst 0, 1) := by decide +kernel
theorem dX7_allLines_3 : decode cX7_allLines 3 = .ok (.istore_n 2, 1) := by decide +kernel
theorem dX7_allLines_4 : decode cX7_allLines 4 = .ok (.iload_n 2, 1) := by decide +kernel
theorem dX7_allLines_5 : decode cX7_allLines 5 = .ok (.aload_n 0, 1) := by decide +kernel
theorem dX7_allLines_6 : decode cX7_allLines 6 = .ok (.getfield 183, 3) := by decide +kernel
theorem dX7_allLines_9 : decode cX7_allLines 9 = .ok (.if_icmp .ge 21, 3) := by decide +kernel
theorem dX7_allLines_12 : decode cX7_allLines 12 = .ok (.iload_n 1, 1) := by decide +kernel
theorem dX7_allLines_13 : decode cX7_allLines 13 = .ok (.aload_n 0, 1) := by decide +kernel
theorem dX7_allLines_14 : decode cX7_allLines 14 = .ok (.getfield 31, 3) := by decide +kernel
theorem dX7_allLines_17 : decode cX7_allLines 17 = .ok (.bipush 8, 2) := by decide +kernel
theorem dX7_allLines_19 : decode cX7_allLines 19 = .ok (.iload_n 2, 1) := by decide +kernel
theorem dX7_allLines_20 : decode cX7_allLines 20 = .ok (.iadd, 1) := by decide +kernel
theorem dX7_allLines_21 : decode cX7_allLines 21 = .ok (.iaload, 1) := by decide +kernel
theorem dX7_allLines_22 : decode cX7_allLines 22 = .ok (.iadd, 1) := by decide +kernel
theorem dX7_allLines_23 : decode cX7_allLines 23 = .ok (.istore_n 1, 1) := by decide +kernel
theorem dX7_allLines_24 : decode cX7_allLines 24 = .ok (.iinc 2 1, 3) := by decide +kernel
theorem dX7_allLines_27 : decode cX7_allLines 27 = .ok (.goto (-23), 3) := by decide +kernel
theorem dX7_allLines_30 : decode cX7_allLines 30 = .ok (.iload_n 1, 1) := by decide +kernel
theorem dX7_allLines_31 : decode cX7_allLines 31 = .ok (.ireturn, 1) := by decide +kernel
theorem dX7_allChalk_0 : decode cX7_allChalk 0 = .ok (.iconst 0, 1) := by decide +kernel
theorem dX7_allChalk_1 : decode cX7_allChalk 1 = .ok (.istore_n 1, 1) := by decide +kernel
theorem dX7_allChalk_2 : decode cX7_allChalk 2 = .ok (.iconst 0, 1) := by decide +kernel
theorem dX7_allChalk_3 : decode cX7_allChalk 3 = .ok (.istore_n 2, 1) := by decide +kernel
theorem dX7_allChalk_4 : decode cX7_allChalk 4 = .ok (.iload_n 2, 1) := by decide +kernel
theorem dX7_allChalk_5 : decode cX7_allChalk 5 = .ok (.aload_n 0, 1) := by decide +kernel
theorem dX7_allChalk_6 : decode cX7_allChalk 6 = .ok (.getfield 177, 3) := by decide +kernel
theorem dX7_allChalk_9 : decode cX7_allChalk 9 = .ok (.if_icmp .ge 18, 3) := by decide +kernel
theorem dX7_allChalk_12 : decode cX7_allChalk 12 = .ok (.iload_n 1, 1) := by decide +kernel
theorem dX7_allChalk_13 : decode cX7_allChalk 13 = .ok (.aload_n 0, 1) := by decide +kernel
theorem dX7_allChalk_14 : decode cX7_allChalk 14 = .ok (.getfield 31, 3) := by decide +kernel
theorem dX7_allChalk_17 : decode cX7_allChalk 17 = .ok (.iload_n 2, 1) := by decide +kernel
theorem dX7_allChalk_18 : decode cX7_allChalk 18 = .ok (.iaload, 1) := by decide +kernel
theorem dX7_allChalk_19 : decode cX7_allChalk 19 = .ok (.iadd, 1) := by decide +kernel
theorem dX7_allChalk_20 : decode cX7_allChalk 20 = .ok (.istore_n 1, 1) := by decide +kernel
theorem dX7_allChalk_21 : decode cX7_allChalk 21 = .ok (.iinc 2 1, 3) := by decide +kernel
theorem dX7_allChalk_24 : decode cX7_allChalk 24 = .ok (.goto (-20), 3) := by decide +kernel
theorem dX7_allChalk_27 : decode cX7_allChalk 27 = .ok (.iload_n 1, 1) := by decide +kernel
theorem dX7_allChalk_28 : decode cX7_allChalk 28 = .ok (.ireturn, 1) := by decide +kernel
theorem dX7_stand_0 : decode cX7_stand 0 = .ok (.aload_n 0, 1) := by decide +kernel
theorem dX7_stand_1 : decode cX7_stand 1 = .ok (.getfield 177, 3) := by decide +kernel
theorem dX7_stand_4 : decode cX7_stand 4 = .ok (.ifCond .ne 6, 3) := by decide +kernel
theorem dX7_stand_7 : decode cX7_stand 7 = .ok (.ldc 201, 2) := by decide +kernel
theorem dX7_stand_9 : decode cX7_stand 9 = .ok (.ireturn, 1) := by decide +kernel
theorem dX7_stand_10 : decode cX7_stand 10 = .ok (.iload_n 1, 1) := by decide +kernel
theorem dX7_stand_11 : decode cX7_stand 11 = .ok (.tableswitch 69 0 4 #[33, 42, 51, 56, 64], 33) := by decide +kernel
theorem dX7_stand_44 : decode cX7_stand 44 = .ok (.aload_n 0, 1) := by decide +kernel
theorem dX7_stand_45 : decode cX7_stand 45 = .ok (.aload_n 0, 1) := by decide +kernel
theorem dX7_stand_46 : decode cX7_stand 46 = .ok (.getfield 31, 3) := by decide +kernel
theorem dX7_stand_49 : decode cX7_stand 49 = .ok (.invokevirtual 202, 3) := by decide +kernel
theorem dX7_stand_52 : decode cX7_stand 52 = .ok (.ireturn, 1) := by decide +kernel
theorem dX7_stand_53 : decode cX7_stand 53 = .ok (.aload_n 0, 1) := by decide +kernel
theorem dX7_stand_54 : decode cX7_stand 54 = .ok (.aload_n 0, 1) := by decide +kernel
theorem dX7_stand_55 : decode cX7_stand 55 = .ok (.getfield 31, 3) := by decide +kernel
theorem dX7_stand_58 : decode cX7_stand 58 = .ok (.invokevirtual 234, 3) := by decide +kernel
theorem dX7_stand_61 : decode cX7_stand 61 = .ok (.ireturn, 1) := by decide +kernel
theorem dX7_stand_62 : decode cX7_stand 62 = .ok (.aload_n 0, 1) := by decide +kernel
theorem dX7_stand_63 : decode cX7_stand 63 = .ok (.invokevirtual 237, 3) := by decide +kernel
theorem dX7_stand_66 : decode cX7_stand 66 = .ok (.ireturn, 1) := by decide +kernel
theorem dX7_stand_67 : decode cX7_stand 67 = .ok (.aload_n 0, 1) := by decide +kernel
theorem dX7_stand_68 : decode cX7_stand 68 = .ok (.getfield 31, 3) := by decide +kernel
theorem dX7_stand_71 : decode cX7_stand 71 = .ok (.bipush 12, 2) := by decide +kernel
theorem dX7_stand_73 : decode cX7_stand 73 = .ok (.iaload, 1) := by decide +kernel
theorem dX7_stand_74 : decode cX7_stand 74 = .ok (.ireturn, 1) := by decide +kernel
theorem dX7_stand_75 : decode cX7_stand 75 = .ok (.aload_n 0, 1) := by decide +kernel
theorem dX7_stand_76 : decode cX7_stand 76 = .ok (.invokevirtual 240, 3) := by decide +kernel
theorem dX7_stand_79 : decode cX7_stand 79 = .ok (.ireturn, 1) := by decide +kernel
theorem dX7_stand_80 : decode cX7_stand 80 = .ok (.ldc 93, 2) := by decide +kernel
theorem dX7_stand_82 : decode cX7_stand 82 = .ok (.ireturn, 1) := by decide +kernel
theorem dX7_copyNow_0 : decode cX7_copyNow 0 = .ok (.iconst 0, 1) := by decide +kernel
theorem dX7_copyNow_1 : decode cX7_copyNow 1 = .ok (.istore_n 1, 1) := by decide +kernel
theorem dX7_copyNow_2 : decode cX7_copyNow 2 = .ok (.iload_n 1, 1) := by decide +kernel
theorem dX7_copyNow_3 : decode cX7_copyNow 3 = .ok (.bipush 14, 2) := by decide +kernel
theorem dX7_copyNow_5 : decode cX7_copyNow 5 = .ok (.if_icmp .ge 21, 3) := by decide +kernel
theorem dX7_copyNow_8 : decode cX7_copyNow 8 = .ok (.aload_n 0, 1) := by decide +kernel
theorem dX7_copyNow_9 : decode cX7_copyNow 9 = .ok (.getfield 34, 3) := by decide +kernel
theorem dX7_copyNow_12 : decode cX7_copyNow 12 = .ok (.iload_n 1, 1) := by decide +kernel
theorem dX7_copyNow_13 : decode cX7_copyNow 13 = .ok (.aload_n 0, 1) := by decide +kernel
theorem dX7_copyNow_14 : decode cX7_copyNow 14 = .ok (.getfield 31, 3) := by decide +kernel
theorem dX7_copyNow_17 : decode cX7_copyNow 17 = .ok (.iload_n 1, 1) := by decide +kernel
theorem dX7_copyNow_18 : decode cX7_copyNow 18 = .ok (.iaload, 1) := by decide +kernel
theorem dX7_copyNow_19 : decode cX7_copyNow 19 = .ok (.iastore, 1) := by decide +kernel
theorem dX7_copyNow_20 : decode cX7_copyNow 20 = .ok (.iinc 1 1, 3) := by decide +kernel
theorem dX7_copyNow_23 : decode cX7_copyNow 23 = .ok (.goto (-21), 3) := by decide +kernel
theorem dX7_copyNow_26 : decode cX7_copyNow 26 = .ok (.return_, 1) := by decide +kernel
theorem dX7_standingWithout_0 : decode cX7_standingWithout 0 = .ok (.aload_n 0, 1) := by decide +kernel
theorem dX7_standingWithout_1 : decode cX7_standingWithout 1 = .ok (.invokevirtual 243, 3) := by decide +kernel
theorem dX7_standingWithout_4 : decode cX7_standingWithout 4 = .ok (.iconst 0, 1) := by decide +kernel
theorem dX7_standingWithout_5 : decode cX7_standingWithout 5 = .ok (.istore_n 2, 1) := by decide +kernel
theorem dX7_standingWithout_6 : decode cX7_standingWithout 6 = .ok (.iload_n 2, 1) := by decide +kernel
theorem dX7_standingWithout_7 : decode cX7_standingWithout 7 = .ok (.aload_n 0, 1) := by decide +kernel
theorem dX7_standingWithout_8 : decode cX7_standingWithout 8 = .ok (.getfield 177, 3) := by decide +kernel
theorem dX7_standingWithout_11 : decode cX7_standingWithout 11 = .ok (.if_icmp .ge 33, 3) := by decide +kernel
theorem dX7_standingWithout_14 : decode cX7_standingWithout 14 = .ok (.aload_n 0, 1) := by decide +kernel
theorem dX7_standingWithout_15 : decode cX7_standingWithout 15 = .ok (.getfield 34, 3) := by decide +kernel
theorem dX7_standingWithout_18 : decode cX7_standingWithout 18 = .ok (.iload_n 2, 1) := by decide +kernel
theorem dX7_standingWithout_19 : decode cX7_standingWithout 19 = .ok (.iload_n 1, 1) := by decide +kernel
theorem dX7_standingWithout_20 : decode cX7_standingWithout 20 = .ok (.iload_n 2, 1) := by decide +kernel
theorem dX7_standingWithout_21 : decode cX7_standingWithout 21 = .ok (.invokestatic 146, 3) := by decide +kernel
theorem dX7_standingWithout_24 : decode cX7_standingWithout 24 = .ok (.ifCond .eq 7, 3) := by decide +kernel
theorem dX7_standingWithout_27 : decode cX7_standingWithout 27 = .ok (.iconst 0, 1) := by decide +kernel
theorem dX7_standingWithout_28 : decode cX7_standingWithout 28 = .ok (.goto 9, 3) := by decide +kernel
theorem dX7_standingWithout_31 : decode cX7_standingWithout 31 = .ok (.aload_n 0, 1) := by decide +kernel
theorem dX7_standingWithout_32 : decode cX7_standingWithout 32 = .ok (.getfield 34, 3) := by decide +kernel
theorem dX7_standingWithout_35 : decode cX7_standingWithout 35 = .ok (.iload_n 2, 1) := by decide +kernel
theorem dX7_standingWithout_36 : decode cX7_standingWithout 36 = .ok (.iaload, 1) := by decide +kernel
theorem dX7_standingWithout_37 : decode cX7_standingWithout 37 = .ok (.iastore, 1) := by decide +kernel
theorem dX7_standingWithout_38 : decode cX7_standingWithout 38 = .ok (.iinc 2 1, 3) := by decide +kernel
theorem dX7_standingWithout_41 : decode cX7_standingWithout 41 = .ok (.goto (-35), 3) := by decide +kernel
theorem dX7_standingWithout_44 : decode cX7_standingWithout 44 = .ok (.aload_n 0, 1) := by decide +kernel
theorem dX7_standingWithout_45 : decode cX7_standingWithout 45 = .ok (.aload_n 0, 1) := by decide +kernel
theorem dX7_standingWithout_46 : decode cX7_standingWithout 46 = .ok (.getfield 34, 3) := by decide +kernel
theorem dX7_standingWithout_49 : decode cX7_standingWithout 49 = .ok (.invokevirtual 202, 3) := by decide +kernel
theorem dX7_standingWithout_52 : decode cX7_standingWithout 52 = .ok (.ireturn, 1) := by decide +kernel
theorem dX7_wouldFall_0 : decode cX7_wouldFall 0 = .ok (.aload_n 0, 1) := by decide +kernel
theorem dX7_wouldFall_1 : decode cX7_wouldFall 1 = .ok (.getfield 177, 3) := by decide +kernel
theorem dX7_wouldFall_4 : decode cX7_wouldFall 4 = .ok (.ifCond .ne 8, 3) := by decide +kernel
theorem dX7_wouldFall_7 : decode cX7_wouldFall 7 = .ok (.ldc 201, 2) := by decide +kernel
theorem dX7_wouldFall_9 : decode cX7_wouldFall 9 = .ok (.goto 32, 3) := by decide +kernel
theorem dX7_wouldFall_12 : decode cX7_wouldFall 12 = .ok (.aload_n 0, 1) := by decide +kernel
theorem dX7_wouldFall_13 : decode cX7_wouldFall 13 = .ok (.iload_n 1, 1) := by decide +kernel
theorem dX7_wouldFall_14 : decode cX7_wouldFall 14 = .ok (.invokevirtual 246, 3) := by decide +kernel
theorem dX7_wouldFall_17 : decode cX7_wouldFall 17 = .ok (.ifCond .eq 22, 3) := by decide +kernel
theorem dX7_wouldFall_20 : decode cX7_wouldFall 20 = .ok (.aload_n 0, 1) := by decide +kernel
theorem dX7_wouldFall_21 : decode cX7_wouldFall 21 = .ok (.aload_n 0, 1) := by decide +kernel
theorem dX7_wouldFall_22 : decode cX7_wouldFall 22 = .ok (.getfield 31, 3) := by decide +kernel
theorem dX7_wouldFall_25 : decode cX7_wouldFall 25 = .ok (.invokevirtual 202, 3) := by decide +kernel
theorem dX7_wouldFall_28 : decode cX7_wouldFall 28 = .ok (.aload_n 0, 1) := by decide +kernel
theorem dX7_wouldFall_29 : decode cX7_wouldFall 29 = .ok (.iload_n 1, 1) := by decide +kernel
theorem dX7_wouldFall_30 : decode cX7_wouldFall 30 = .ok (.invokevirtual 249, 3) := by decide +kernel
theorem dX7_wouldFall_33 : decode cX7_wouldFall 33 = .ok (.iconst (-1), 1) := by decide +kernel
theorem dX7_wouldFall_34 : decode cX7_wouldFall 34 = .ok (.ixor, 1) := by decide +kernel
theorem dX7_wouldFall_35 : decode cX7_wouldFall 35 = .ok (.iand, 1) := by decide +kernel
theorem dX7_wouldFall_36 : decode cX7_wouldFall 36 = .ok (.goto 5, 3) := by decide +kernel
theorem dX7_wouldFall_39 : decode cX7_wouldFall 39 = .ok (.ldc 93, 2) := by decide +kernel
theorem dX7_wouldFall_41 : decode cX7_wouldFall 41 = .ok (.ireturn, 1) := by decide +kernel
theorem dX7_left_0 : decode cX7_left 0 = .ok (.aload_n 0, 1) := by decide +kernel
theorem dX7_left_1 : decode cX7_left 1 = .ok (.iload_n 1, 1) := by decide +kernel
theorem dX7_left_2 : decode cX7_left 2 = .ok (.invokevirtual 217, 3) := by decide +kernel
theorem dX7_left_5 : decode cX7_left 5 = .ok (.ifCond .ne 6, 3) := by decide +kernel
theorem dX7_left_8 : decode cX7_left 8 = .ok (.ldc 93, 2) := by decide +kernel
theorem dX7_left_10 : decode cX7_left 10 = .ok (.ireturn, 1) := by decide +kernel
theorem dX7_left_11 : decode cX7_left 11 = .ok (.aload_n 0, 1) := by decide +kernel
theorem dX7_left_12 : decode cX7_left 12 = .ok (.aload_n 0, 1) := by decide +kernel
theorem dX7_left_13 : decode cX7_left 13 = .ok (.getfield 31, 3) := by decide +kernel
theorem dX7_left_16 : decode cX7_left 16 = .ok (.iload_n 1, 1) := by decide +kernel
theorem dX7_left_17 : decode cX7_left 17 = .ok (.iconst 1, 1) := by decide +kernel
theorem dX7_left_18 : decode cX7_left 18 = .ok (.invokevirtual 210, 3) := by decide +kernel
theorem dX7_left_21 : decode cX7_left 21 = .ok (.istore_n 2, 1) := by decide +kernel
theorem dX7_left_22 : decode cX7_left 22 = .ok (.iconst 0, 1) := by decide +kernel
theorem dX7_left_23 : decode cX7_left 23 = .ok (.istore_n 3, 1) := by decide +kernel
theorem dX7_left_24 : decode cX7_left 24 = .ok (.iconst 0, 1) := by decide +kernel
theorem dX7_left_25 : decode cX7_left 25 = .ok (.istore 4, 2) := by decide +kernel
theorem dX7_left_27 : decode cX7_left 27 = .ok (.iload 4, 2) := by decide +kernel
theorem dX7_left_29 : decode cX7_left 29 = .ok (.aload_n 0, 1) := by decide +kernel
