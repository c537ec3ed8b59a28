theorem dX7_left_30 : decode cX7_left 30 = .ok (.getfield 177, 3) := by decide +kernel
theorem dX7_left_33 : decode cX7_left 33 = .ok (.if_icmp .ge 21, 3) := by decide +kernel
theorem dX7_left_36 : decode cX7_left 36 = .ok (.iload_n 3, 1) := by decide +kernel
theorem dX7_left_37 : decode cX7_left 37 = .ok (.aload_n 0, 1) := by decide +kernel
theorem dX7_left_38 : decode cX7_left 38 = .ok (.getfield 31, 3) := by decide +kernel
theorem dX7_left_41 : decode cX7_left 41 = .ok (.iload 4, 2) := by decide +kernel
theorem dX7_left_43 : decode cX7_left 43 = .ok (.iaload, 1) := by decide +kernel
theorem dX7_left_44 : decode cX7_left 44 = .ok (.iload_n 2, 1) := by decide +kernel
theorem dX7_left_45 : decode cX7_left 45 = .ok (.idiv, 1) := by decide +kernel
theorem dX7_left_46 : decode cX7_left 46 = .ok (.iadd, 1) := by decide +kernel
theorem dX7_left_47 : decode cX7_left 47 = .ok (.istore_n 3, 1) := by decide +kernel
theorem dX7_left_48 : decode cX7_left 48 = .ok (.iinc 4 1, 3) := by decide +kernel
theorem dX7_left_51 : decode cX7_left 51 = .ok (.goto (-24), 3) := by decide +kernel
theorem dX7_left_54 : decode cX7_left 54 = .ok (.iload_n 3, 1) := by decide +kernel
theorem dX7_left_55 : decode cX7_left 55 = .ok (.ireturn, 1) := by decide +kernel
theorem dX7_chalkBut_0 : decode cX7_chalkBut 0 = .ok (.iconst 0, 1) := by decide +kernel
theorem dX7_chalkBut_1 : decode cX7_chalkBut 1 = .ok (.istore_n 2, 1) := by decide +kernel
theorem dX7_chalkBut_2 : decode cX7_chalkBut 2 = .ok (.iconst 0, 1) := by decide +kernel
theorem dX7_chalkBut_3 : decode cX7_chalkBut 3 = .ok (.istore_n 3, 1) := by decide +kernel
theorem dX7_chalkBut_4 : decode cX7_chalkBut 4 = .ok (.iload_n 3, 1) := by decide +kernel
theorem dX7_chalkBut_5 : decode cX7_chalkBut 5 = .ok (.aload_n 0, 1) := by decide +kernel
theorem dX7_chalkBut_6 : decode cX7_chalkBut 6 = .ok (.getfield 177, 3) := by decide +kernel
theorem dX7_chalkBut_9 : decode cX7_chalkBut 9 = .ok (.if_icmp .ge 37, 3) := by decide +kernel
theorem dX7_chalkBut_12 : decode cX7_chalkBut 12 = .ok (.iload_n 2, 1) := by decide +kernel
theorem dX7_chalkBut_13 : decode cX7_chalkBut 13 = .ok (.iload_n 1, 1) := by decide +kernel
theorem dX7_chalkBut_14 : decode cX7_chalkBut 14 = .ok (.iload_n 3, 1) := by decide +kernel
theorem dX7_chalkBut_15 : decode cX7_chalkBut 15 = .ok (.invokestatic 146, 3) := by decide +kernel
theorem dX7_chalkBut_18 : decode cX7_chalkBut 18 = .ok (.ifCond .eq 14, 3) := by decide +kernel
theorem dX7_chalkBut_21 : decode cX7_chalkBut 21 = .ok (.aload_n 0, 1) := by decide +kernel
theorem dX7_chalkBut_22 : decode cX7_chalkBut 22 = .ok (.getfield 31, 3) := by decide +kernel
theorem dX7_chalkBut_25 : decode cX7_chalkBut 25 = .ok (.iload_n 3, 1) := by decide +kernel
theorem dX7_chalkBut_26 : decode cX7_chalkBut 26 = .ok (.iaload, 1) := by decide +kernel
theorem dX7_chalkBut_27 : decode cX7_chalkBut 27 = .ok (.iconst 1, 1) := by decide +kernel
theorem dX7_chalkBut_28 : decode cX7_chalkBut 28 = .ok (.isub, 1) := by decide +kernel
theorem dX7_chalkBut_29 : decode cX7_chalkBut 29 = .ok (.goto 9, 3) := by decide +kernel
theorem dX7_chalkBut_32 : decode cX7_chalkBut 32 = .ok (.aload_n 0, 1) := by decide +kernel
theorem dX7_chalkBut_33 : decode cX7_chalkBut 33 = .ok (.getfield 31, 3) := by decide +kernel
theorem dX7_chalkBut_36 : decode cX7_chalkBut 36 = .ok (.iload_n 3, 1) := by decide +kernel
theorem dX7_chalkBut_37 : decode cX7_chalkBut 37 = .ok (.iaload, 1) := by decide +kernel
theorem dX7_chalkBut_38 : decode cX7_chalkBut 38 = .ok (.iadd, 1) := by decide +kernel
theorem dX7_chalkBut_39 : decode cX7_chalkBut 39 = .ok (.istore_n 2, 1) := by decide +kernel
theorem dX7_chalkBut_40 : decode cX7_chalkBut 40 = .ok (.iinc 3 1, 3) := by decide +kernel
theorem dX7_chalkBut_43 : decode cX7_chalkBut 43 = .ok (.goto (-39), 3) := by decide +kernel
theorem dX7_chalkBut_46 : decode cX7_chalkBut 46 = .ok (.iload_n 2, 1) := by decide +kernel
theorem dX7_chalkBut_47 : decode cX7_chalkBut 47 = .ok (.ireturn, 1) := by decide +kernel
theorem dX7_leastFallen_0 : decode cX7_leastFallen 0 = .ok (.aload_n 0, 1) := by decide +kernel
theorem dX7_leastFallen_1 : decode cX7_leastFallen 1 = .ok (.getfield 177, 3) := by decide +kernel
theorem dX7_leastFallen_4 : decode cX7_leastFallen 4 = .ok (.ifCond .ne 6, 3) := by decide +kernel
theorem dX7_leastFallen_7 : decode cX7_leastFallen 7 = .ok (.ldc 201, 2) := by decide +kernel
theorem dX7_leastFallen_9 : decode cX7_leastFallen 9 = .ok (.ireturn, 1) := by decide +kernel
theorem dX7_leastFallen_10 : decode cX7_leastFallen 10 = .ok (.iload_n 1, 1) := by decide +kernel
theorem dX7_leastFallen_11 : decode cX7_leastFallen 11 = .ok (.iconst 0, 1) := by decide +kernel
theorem dX7_leastFallen_12 : decode cX7_leastFallen 12 = .ok (.sipush 240, 3) := by decide +kernel
theorem dX7_leastFallen_15 : decode cX7_leastFallen 15 = .ok (.invokestatic 85, 3) := by decide +kernel
theorem dX7_leastFallen_18 : decode cX7_leastFallen 18 = .ok (.ifCond .eq 20, 3) := by decide +kernel
theorem dX7_leastFallen_21 : decode cX7_leastFallen 21 = .ok (.aload_n 0, 1) := by decide +kernel
theorem dX7_leastFallen_22 : decode cX7_leastFallen 22 = .ok (.iload_n 2, 1) := by decide +kernel
theorem dX7_leastFallen_23 : decode cX7_leastFallen 23 = .ok (.invokevirtual 246, 3) := by decide +kernel
theorem dX7_leastFallen_26 : decode cX7_leastFallen 26 = .ok (.ifCond .eq 12, 3) := by decide +kernel
theorem dX7_leastFallen_29 : decode cX7_leastFallen 29 = .ok (.iload_n 3, 1) := by decide +kernel
theorem dX7_leastFallen_30 : decode cX7_leastFallen 30 = .ok (.iconst 0, 1) := by decide +kernel
theorem dX7_leastFallen_31 : decode cX7_leastFallen 31 = .ok (.iconst 1, 1) := by decide +kernel
theorem dX7_leastFallen_32 : decode cX7_leastFallen 32 = .ok (.invokestatic 85, 3) := by decide +kernel
theorem dX7_leastFallen_35 : decode cX7_leastFallen 35 = .ok (.ifCond .ne 6, 3) := by decide +kernel
theorem dX7_leastFallen_38 : decode cX7_leastFallen 38 = .ok (.ldc 93, 2) := by decide +kernel
theorem dX7_leastFallen_40 : decode cX7_leastFallen 40 = .ok (.ireturn, 1) := by decide +kernel
theorem dX7_leastFallen_41 : decode cX7_leastFallen 41 = .ok (.aload_n 0, 1) := by decide +kernel
theorem dX7_leastFallen_42 : decode cX7_leastFallen 42 = .ok (.aload_n 0, 1) := by decide +kernel
theorem dX7_leastFallen_43 : decode cX7_leastFallen 43 = .ok (.getfield 31, 3) := by decide +kernel
theorem dX7_leastFallen_46 : decode cX7_leastFallen 46 = .ok (.invokevirtual 202, 3) := by decide +kernel
theorem dX7_leastFallen_49 : decode cX7_leastFallen 49 = .ok (.istore 4, 2) := by decide +kernel
theorem dX7_leastFallen_51 : decode cX7_leastFallen 51 = .ok (.ldc 150, 2) := by decide +kernel
theorem dX7_leastFallen_53 : decode cX7_leastFallen 53 = .ok (.istore 5, 2) := by decide +kernel
theorem dX7_leastFallen_55 : decode cX7_leastFallen 55 = .ok (.bipush 9, 2) := by decide +kernel
theorem dX7_leastFallen_57 : decode cX7_leastFallen 57 = .ok (.istore 6, 2) := by decide +kernel
theorem dX7_leastFallen_59 : decode cX7_leastFallen 59 = .ok (.iconst 0, 1) := by decide +kernel
theorem dX7_leastFallen_60 : decode cX7_leastFallen 60 = .ok (.istore 7, 2) := by decide +kernel
theorem dX7_leastFallen_62 : decode cX7_leastFallen 62 = .ok (.iload 7, 2) := by decide +kernel
theorem dX7_leastFallen_64 : decode cX7_leastFallen 64 = .ok (.iconst 1, 1) := by decide +kernel
theorem dX7_leastFallen_65 : decode cX7_leastFallen 65 = .ok (.aload_n 0, 1) := by decide +kernel
theorem dX7_leastFallen_66 : decode cX7_leastFallen 66 = .ok (.getfield 177, 3) := by decide +kernel
theorem dX7_leastFallen_69 : decode cX7_leastFallen 69 = .ok (.ishl, 1) := by decide +kernel
theorem dX7_leastFallen_70 : decode cX7_leastFallen 70 = .ok (.if_icmp .ge 88, 3) := by decide +kernel
theorem dX7_leastFallen_73 : decode cX7_leastFallen 73 = .ok (.iload 7, 2) := by decide +kernel
theorem dX7_leastFallen_75 : decode cX7_leastFallen 75 = .ok (.iload 4, 2) := by decide +kernel
theorem dX7_leastFallen_77 : decode cX7_leastFallen 77 = .ok (.iconst (-1), 1) := by decide +kernel
theorem dX7_leastFallen_78 : decode cX7_leastFallen 78 = .ok (.ixor, 1) := by decide +kernel
theorem dX7_leastFallen_79 : decode cX7_leastFallen 79 = .ok (.iand, 1) := by decide +kernel
theorem dX7_leastFallen_80 : decode cX7_leastFallen 80 = .ok (.ifCond .ne 12, 3) := by decide +kernel
theorem dX7_leastFallen_83 : decode cX7_leastFallen 83 = .ok (.aload_n 0, 1) := by decide +kernel
theorem dX7_leastFallen_84 : decode cX7_leastFallen 84 = .ok (.iload 7, 2) := by decide +kernel
theorem dX7_leastFallen_86 : decode cX7_leastFallen 86 = .ok (.invokevirtual 249, 3) := by decide +kernel
theorem dX7_leastFallen_89 : decode cX7_leastFallen 89 = .ok (.goto 4, 3) := by decide +kernel
theorem dX7_leastFallen_92 : decode cX7_leastFallen 92 = .ok (.iconst 0, 1) := by decide +kernel
theorem dX7_leastFallen_93 : decode cX7_leastFallen 93 = .ok (.istore 8, 2) := by decide +kernel
theorem dX7_leastFallen_95 : decode cX7_leastFallen 95 = .ok (.iload 4, 2) := by decide +kernel
theorem dX7_leastFallen_97 : decode cX7_leastFallen 97 = .ok (.iload 8, 2) := by decide +kernel
theorem dX7_leastFallen_99 : decode cX7_leastFallen 99 = .ok (.iconst (-1), 1) := by decide +kernel
theorem dX7_leastFallen_100 : decode cX7_leastFallen 100 = .ok (.ixor, 1) := by decide +kernel
theorem dX7_leastFallen_101 : decode cX7_leastFallen 101 = .ok (.iand, 1) := by decide +kernel
theorem dX7_leastFallen_102 : decode cX7_leastFallen 102 = .ok (.istore 9, 2) := by decide +kernel
theorem dX7_leastFallen_104 : decode cX7_leastFallen 104 = .ok (.iload 7, 2) := by decide +kernel
theorem dX7_leastFallen_106 : decode cX7_leastFallen 106 = .ok (.iload 4, 2) := by decide +kernel
theorem dX7_leastFallen_108 : decode cX7_leastFallen 108 = .ok (.iconst (-1), 1) := by decide +kernel
theorem dX7_leastFallen_109 : decode cX7_leastFallen 109 = .ok (.ixor, 1) := by decide +kernel
theorem dX7_leastFallen_110 : decode cX7_leastFallen 110 = .ok (.iand, 1) := by decide +kernel
theorem dX7_leastFallen_111 : decode cX7_leastFallen 111 = .ok (.ifCond .ne 41, 3) := by decide +kernel
theorem dX7_leastFallen_114 : decode cX7_leastFallen 114 = .ok (.iload 9, 2) := by decide +kernel
theorem dX7_leastFallen_116 : decode cX7_leastFallen 116 = .ok (.iload_n 2, 1) := by decide +kernel
theorem dX7_leastFallen_117 : decode cX7_leastFallen 117 = .ok (.iand, 1) := by decide +kernel
theorem dX7_leastFallen_118 : decode cX7_leastFallen 118 = .ok (.ifCond .ne 34, 3) := by decide +kernel
theorem dX7_leastFallen_121 : decode cX7_leastFallen 121 = .ok (.iload 9, 2) := by decide +kernel
theorem dX7_leastFallen_123 : decode cX7_leastFallen 123 = .ok (.invokestatic 252, 3) := by decide +kernel
theorem dX7_leastFallen_126 : decode cX7_leastFallen 126 = .ok (.iload 6, 2) := by decide +kernel
theorem dX7_leastFallen_128 : decode cX7_leastFallen 128 = .ok (.if_icmp .ge 24, 3) := by decide +kernel
theorem dX7_leastFallen_131 : decode cX7_leastFallen 131 = .ok (.aload_n 0, 1) := by decide +kernel
theorem dX7_leastFallen_132 : decode cX7_leastFallen 132 = .ok (.iload 8, 2) := by decide +kernel
theorem dX7_leastFallen_134 : decode cX7_leastFallen 134 = .ok (.invokevirtual 255, 3) := by decide +kernel
theorem dX7_leastFallen_137 : decode cX7_leastFallen 137 = .ok (.iload_n 1, 1) := by decide +kernel
theorem dX7_leastFallen_138 : decode cX7_leastFallen 138 = .ok (.if_icmp .lt 14, 3) := by decide +kernel
theorem dX7_leastFallen_141 : decode cX7_leastFallen 141 = .ok (.iload 7, 2) := by decide +kernel
theorem dX7_leastFallen_143 : decode cX7_leastFallen 143 = .ok (.istore 5, 2) := by decide +kernel
theorem dX7_leastFallen_145 : decode cX7_leastFallen 145 = .ok (.iload 9, 2) := by decide +kernel
theorem dX7_leastFallen_147 : decode cX7_leastFallen 147 = .ok (.invokestatic 252, 3) := by decide +kernel
theorem dX7_leastFallen_150 : decode cX7_leastFallen 150 = .ok (.istore 6, 2) := by decide +kernel
theorem dX7_leastFallen_152 : decode cX7_leastFallen 152 = .ok (.iinc 7 1, 3) := by decide +kernel
theorem dX7_leastFallen_155 : decode cX7_leastFallen 155 = .ok (.goto (-93), 3) := by decide +kernel
theorem dX7_leastFallen_158 : decode cX7_leastFallen 158 = .ok (.iload 5, 2) := by decide +kernel
theorem dX7_leastFallen_160 : decode cX7_leastFallen 160 = .ok (.ldc 150, 2) := by decide +kernel
theorem dX7_leastFallen_162 : decode cX7_leastFallen 162 = .ok (.if_icmp .ne 8, 3) := by decide +kernel
theorem dX7_leastFallen_165 : decode cX7_leastFallen 165 = .ok (.ldc 150, 2) := by decide +kernel
theorem dX7_leastFallen_167 : decode cX7_leastFallen 167 = .ok (.goto 14, 3) := by decide +kernel
theorem dX7_leastFallen_170 : decode cX7_leastFallen 170 = .ok (.iload_n 3, 1) := by decide +kernel
theorem dX7_leastFallen_171 : decode cX7_leastFallen 171 = .ok (.ifCond .ne 8, 3) := by decide +kernel
theorem dX7_leastFallen_174 : decode cX7_leastFallen 174 = .ok (.iload 6, 2) := by decide +kernel
theorem dX7_leastFallen_176 : decode cX7_leastFallen 176 = .ok (.goto 5, 3) := by decide +kernel
theorem dX7_leastFallen_179 : decode cX7_leastFallen 179 = .ok (.iload 5, 2) := by decide +kernel
theorem dX7_leastFallen_181 : decode cX7_leastFallen 181 = .ok (.ireturn, 1) := by decide +kernel
theorem dX7_must_0 : decode cX7_must 0 = .ok (.aload_n 0, 1) := by decide +kernel
theorem dX7_must_1 : decode cX7_must 1 = .ok (.getfield 177, 3) := by decide +kernel
theorem dX7_must_4 : decode cX7_must 4 = .ok (.ifCond .ne 6, 3) := by decide +kernel
theorem dX7_must_7 : decode cX7_must 7 = .ok (.ldc 201, 2) := by decide +kernel
theorem dX7_must_9 : decode cX7_must 9 = .ok (.ireturn, 1) := by decide +kernel
theorem dX7_must_10 : decode cX7_must 10 = .ok (.aload_n 0, 1) := by decide +kernel
theorem dX7_must_11 : decode cX7_must 11 = .ok (.aload_n 0, 1) := by decide +kernel
theorem dX7_must_12 : decode cX7_must 12 = .ok (.getfield 31, 3) := by decide +kernel
theorem dX7_must_15 : decode cX7_must 15 = .ok (.invokevirtual 202, 3) := by decide +kernel
theorem dX7_must_18 : decode cX7_must 18 = .ok (.istore_n 1, 1) := by decide +kernel
theorem dX7_must_19 : decode cX7_must 19 = .ok (.iconst 0, 1) := by decide +kernel
theorem dX7_must_20 : decode cX7_must 20 = .ok (.istore_n 2, 1) := by decide +kernel
theorem dX7_must_21 : decode cX7_must 21 = .ok (.iconst 0, 1) := by decide +kernel
theorem dX7_must_22 : decode cX7_must 22 = .ok (.istore_n 3, 1) := by decide +kernel
theorem dX7_must_23 : decode cX7_must 23 = .ok (.iload_n 3, 1) := by decide +kernel
theorem dX7_must_24 : decode cX7_must 24 = .ok (.aload_n 0, 1) := by decide +kernel
theorem dX7_must_25 : decode cX7_must 25 = .ok (.getfield 177, 3) := by decide +kernel
theorem dX7_must_28 : decode cX7_must 28 = .ok (.if_icmp .ge 62, 3) := by decide +kernel
theorem dX7_must_31 : decode cX7_must 31 = .ok (.iload_n 1, 1) := by decide +kernel
theorem dX7_must_32 : decode cX7_must 32 = .ok (.iload_n 3, 1) := by decide +kernel
theorem dX7_must_33 : decode cX7_must 33 = .ok (.invokestatic 146, 3) := by decide +kernel
theorem dX7_must_36 : decode cX7_must 36 = .ok (.ifCond .eq 30, 3) := by decide +kernel
theorem dX7_must_39 : decode cX7_must 39 = .ok (.iconst 2, 1) := by decide +kernel
theorem dX7_must_40 : decode cX7_must 40 = .ok (.iload_n 1, 1) := by decide +kernel
theorem dX7_must_41 : decode cX7_must 41 = .ok (.aload_n 0, 1) := by decide +kernel
theorem dX7_must_42 : decode cX7_must 42 = .ok (.iconst 1, 1) := by decide +kernel
theorem dX7_must_43 : decode cX7_must 43 = .ok (.iload_n 3, 1) := by decide +kernel
theorem dX7_must_44 : decode cX7_must 44 = .ok (.ishl, 1) := by decide +kernel
theorem dX7_must_45 : decode cX7_must 45 = .ok (.invokevirtual 249, 3) := by decide +kernel
theorem dX7_must_48 : decode cX7_must 48 = .ok (.iconst (-1), 1) := by decide +kernel
theorem dX7_must_49 : decode cX7_must 49 = .ok (.ixor, 1) := by decide +kernel
theorem dX7_must_50 : decode cX7_must 50 = .ok (.iand, 1) := by decide +kernel
theorem dX7_must_51 : decode cX7_must 51 = .ok (.invokestatic 252, 3) := by decide +kernel
theorem dX7_must_54 : decode cX7_must 54 = .ok (.imul, 1) := by decide +kernel
theorem dX7_must_55 : decode cX7_must 55 = .ok (.iload_n 1, 1) := by decide +kernel
theorem dX7_must_56 : decode cX7_must 56 = .ok (.invokestatic 252, 3) := by decide +kernel
theorem dX7_must_59 : decode cX7_must 59 = .ok (.if_icmp .le 7, 3) := by decide +kernel
theorem dX7_must_62 : decode cX7_must 62 = .ok (.iconst 1, 1) := by decide +kernel
theorem dX7_must_63 : decode cX7_must 63 = .ok (.goto 4, 3) := by decide +kernel
theorem dX7_must_66 : decode cX7_must 66 = .ok (.iconst 0, 1) := by decide +kernel
theorem dX7_must_67 : decode cX7_must 67 = .ok (.istore 4, 2) := by decide +kernel
theorem dX7_must_69 : decode cX7_must 69 = .ok (.iload_n 2, 1) := by decide +kernel
theorem dX7_must_70 : decode cX7_must 70 = .ok (.iload 4, 2) := by decide +kernel
theorem dX7_must_72 : decode cX7_must 72 = .ok (.ifCond .eq 9, 3) := by decide +kernel
theorem dX7_must_75 : decode cX7_must 75 = .ok (.iconst 1, 1) := by decide +kernel
theorem dX7_must_76 : decode cX7_must 76 = .ok (.iload_n 3, 1) := by decide +kernel
theorem dX7_must_77 : decode cX7_must 77 = .ok (.ishl, 1) := by decide +kernel
theorem dX7_must_78 : decode cX7_must 78 = .ok (.goto 4, 3) := by decide +kernel
theorem dX7_must_81 : decode cX7_must 81 = .ok (.iconst 0, 1) := by decide +kernel
theorem dX7_must_82 : decode cX7_must 82 = .ok (.ior, 1) := by decide +kernel
theorem dX7_must_83 : decode cX7_must 83 = .ok (.istore_n 2, 1) := by decide +kernel
theorem dX7_must_84 : decode cX7_must 84 = .ok (.iinc 3 1, 3) := by decide +kernel
theorem dX7_must_87 : decode cX7_must 87 = .ok (.goto (-64), 3) := by decide +kernel
theorem dX7_must_90 : decode cX7_must 90 = .ok (.iload_n 2, 1) := by decide +kernel
theorem dX7_must_91 : decode cX7_must 91 = .ok (.ireturn, 1) := by decide +kernel
theorem dX7_standingBy_0 : decode cX7_standingBy 0 = .ok (.aload_n 0, 1) := by decide +kernel
theorem dX7_standingBy_1 : decode cX7_standingBy 1 = .ok (.invokevirtual 243, 3) := by decide +kernel
theorem dX7_standingBy_4 : decode cX7_standingBy 4 = .ok (.iconst 1, 1) := by decide +kernel
theorem dX7_standingBy_5 : decode cX7_standingBy 5 = .ok (.istore 5, 2) := by decide +kernel
theorem dX7_standingBy_7 : decode cX7_standingBy 7 = .ok (.iconst 1, 1) := by decide +kernel
theorem dX7_standingBy_8 : decode cX7_standingBy 8 = .ok (.istore 6, 2) := by decide +kernel
theorem dX7_standingBy_10 : decode cX7_standingBy 10 = .ok (.iload 6, 2) := by decide +kernel
theorem dX7_standingBy_12 : decode cX7_standingBy 12 = .ok (.iload_n 3, 1) := by decide +kernel
theorem dX7_standingBy_13 : decode cX7_standingBy 13 = .ok (.if_icmp .ge 18, 3) := by decide +kernel
theorem dX7_standingBy_16 : decode cX7_standingBy 16 = .ok (.iload 5, 2) := by decide +kernel
theorem dX7_standingBy_18 : decode cX7_standingBy 18 = .ok (.aload_n 0, 1) := by decide +kernel
theorem dX7_standingBy_19 : decode cX7_standingBy 19 = .ok (.getfield 177, 3) := by decide +kernel
theorem dX7_standingBy_22 : decode cX7_standingBy 22 = .ok (.imul, 1) := by decide +kernel
theorem dX7_standingBy_23 : decode cX7_standingBy 23 = .ok (.istore 5, 2) := by decide +kernel
theorem dX7_standingBy_25 : decode cX7_standingBy 25 = .ok (.iinc 6 1, 3) := by decide +kernel
theorem dX7_standingBy_28 : decode cX7_standingBy 28 = .ok (.goto (-18), 3) := by decide +kernel
theorem dX7_standingBy_31 : decode cX7_standingBy 31 = .ok (.iconst 0, 1) := by decide +kernel
theorem dX7_standingBy_32 : decode cX7_standingBy 32 = .ok (.istore 6, 2) := by decide +kernel
theorem dX7_standingBy_34 : decode cX7_standingBy 34 = .ok (.iload 6, 2) := by decide +kernel
theorem dX7_standingBy_36 : decode cX7_standingBy 36 = .ok (.iload_n 3, 1) := by decide +kernel
theorem dX7_standingBy_37 : decode cX7_standingBy 37 = .ok (.if_icmp .ge 75, 3) := by decide +kernel
theorem dX7_standingBy_40 : decode cX7_standingBy 40 = .ok (.aload_n 0, 1) := by decide +kernel
theorem dX7_standingBy_41 : decode cX7_standingBy 41 = .ok (.aload_n 0, 1) := by decide +kernel
theorem dX7_standingBy_42 : decode cX7_standingBy 42 = .ok (.getfield 34, 3) := by decide +kernel
theorem dX7_standingBy_45 : decode cX7_standingBy 45 = .ok (.aload_n 0, 1) := by decide +kernel
theorem dX7_standingBy_46 : decode cX7_standingBy 46 = .ok (.iload_n 1, 1) := by decide +kernel
theorem dX7_standingBy_47 : decode cX7_standingBy 47 = .ok (.iload_n 2, 1) := by decide +kernel
theorem dX7_standingBy_48 : decode cX7_standingBy 48 = .ok (.iconst 2, 1) := by decide +kernel
theorem dX7_standingBy_49 : decode cX7_standingBy 49 = .ok (.iload 6, 2) := by decide +kernel
theorem dX7_standingBy_51 : decode cX7_standingBy 51 = .ok (.imul, 1) := by decide +kernel
theorem dX7_standingBy_52 : decode cX7_standingBy 52 = .ok (.iadd, 1) := by decide +kernel
theorem dX7_standingBy_53 : decode cX7_standingBy 53 = .ok (.invokevirtual 258, 3) := by decide +kernel
theorem dX7_standingBy_56 : decode cX7_standingBy 56 = .ok (.aload_n 0, 1) := by decide +kernel
theorem dX7_standingBy_57 : decode cX7_standingBy 57 = .ok (.iload_n 1, 1) := by decide +kernel
theorem dX7_standingBy_58 : decode cX7_standingBy 58 = .ok (.iload_n 2, 1) := by decide +kernel
theorem dX7_standingBy_59 : decode cX7_standingBy 59 = .ok (.iconst 2, 1) := by decide +kernel
theorem dX7_standingBy_60 : decode cX7_standingBy 60 = .ok (.iload 6, 2) := by decide +kernel
theorem dX7_standingBy_62 : decode cX7_standingBy 62 = .ok (.imul, 1) := by decide +kernel
theorem dX7_standingBy_63 : decode cX7_standingBy 63 = .ok (.iadd, 1) := by decide +kernel
theorem dX7_standingBy_64 : decode cX7_standingBy 64 = .ok (.iconst 1, 1) := by decide +kernel
theorem dX7_standingBy_65 : decode cX7_standingBy 65 = .ok (.iadd, 1) := by decide +kernel
theorem dX7_standingBy_66 : decode cX7_standingBy 66 = .ok (.invokevirtual 258, 3) := by decide +kernel
theorem dX7_standingBy_69 : decode cX7_standingBy 69 = .ok (.iload 4, 2) := by decide +kernel
theorem dX7_standingBy_71 : decode cX7_standingBy 71 = .ok (.iload 5, 2) := by decide +kernel
theorem dX7_standingBy_73 : decode cX7_standingBy 73 = .ok (.idiv, 1) := by decide +kernel
theorem dX7_standingBy_74 : decode cX7_standingBy 74 = .ok (.aload_n 0, 1) := by decide +kernel
theorem dX7_standingBy_75 : decode cX7_standingBy 75 = .ok (.getfield 177, 3) := by decide +kernel
theorem dX7_standingBy_78 : decode cX7_standingBy 78 = .ok (.irem, 1) := by decide +kernel
theorem dX7_standingBy_79 : decode cX7_standingBy 79 = .ok (.invokevirtual 226, 3) := by decide +kernel
theorem dX7_standingBy_82 : decode cX7_standingBy 82 = .ok (.ifCond .ne 5, 3) := by decide +kernel
theorem dX7_standingBy_85 : decode cX7_standingBy 85 = .ok (.iconst (-1), 1) := by decide +kernel
theorem dX7_standingBy_86 : decode cX7_standingBy 86 = .ok (.ireturn, 1) := by decide +kernel
theorem dX7_standingBy_87 : decode cX7_standingBy 87 = .ok (.iload 5, 2) := by decide +kernel
theorem dX7_standingBy_89 : decode cX7_standingBy 89 = .ok (.iconst 1, 1) := by decide +kernel
theorem dX7_standingBy_90 : decode cX7_standingBy 90 = .ok (.if_icmp .le 13, 3) := by decide +kernel
theorem dX7_standingBy_93 : decode cX7_standingBy 93 = .ok (.iload 5, 2) := by decide +kernel
theorem dX7_standingBy_95 : decode cX7_standingBy 95 = .ok (.aload_n 0, 1) := by decide +kernel
theorem dX7_standingBy_96 : decode cX7_standingBy 96 = .ok (.getfield 177, 3) := by decide +kernel
theorem dX7_standingBy_99 : decode cX7_standingBy 99 = .ok (.idiv, 1) := by decide +kernel
theorem dX7_standingBy_100 : decode cX7_standingBy 100 = .ok (.goto 4, 3) := by decide +kernel
theorem dX7_standingBy_103 : decode cX7_standingBy 103 = .ok (.iconst 1, 1) := by decide +kernel
theorem dX7_standingBy_104 : decode cX7_standingBy 104 = .ok (.istore 5, 2) := by decide +kernel
theorem dX7_standingBy_106 : decode cX7_standingBy 106 = .ok (.iinc 6 1, 3) := by decide +kernel
theorem dX7_standingBy_109 : decode cX7_standingBy 109 = .ok (.goto (-75), 3) := by decide +kernel
theorem dX7_standingBy_112 : decode cX7_standingBy 112 = .ok (.aload_n 0, 1) := by decide +kernel
theorem dX7_standingBy_113 : decode cX7_standingBy 113 = .ok (.aload_n 0, 1) := by decide +kernel
theorem dX7_standingBy_114 : decode cX7_standingBy 114 = .ok (.getfield 34, 3) := by decide +kernel
theorem dX7_standingBy_117 : decode cX7_standingBy 117 = .ok (.invokevirtual 202, 3) := by decide +kernel
theorem dX7_standingBy_120 : decode cX7_standingBy 120 = .ok (.invokestatic 252, 3) := by decide +kernel
theorem dX7_standingBy_123 : decode cX7_standingBy 123 = .ok (.ireturn, 1) := by decide +kernel
theorem dX7_writings_0 : decode cX7_writings 0 = .ok (.aload_n 0, 1) := by decide +kernel
theorem dX7_writings_1 : decode cX7_writings 1 = .ok (.getfield 177, 3) := by decide +kernel
theorem dX7_writings_4 : decode cX7_writings 4 = .ok (.ifCond .ne 6, 3) := by decide +kernel
theorem dX7_writings_7 : decode cX7_writings 7 = .ok (.ldc 201, 2) := by decide +kernel
theorem dX7_writings_9 : decode cX7_writings 9 = .ok (.ireturn, 1) := by decide +kernel
theorem dX7_writings_10 : decode cX7_writings 10 = .ok (.iload_n 1, 1) := by decide +kernel
theorem dX7_writings_11 : decode cX7_writings 11 = .ok (.invokestatic 89, 3) := by decide +kernel
theorem dX7_writings_14 : decode cX7_writings 14 = .ok (.ifCond .eq 18, 3) := by decide +kernel
theorem dX7_writings_17 : decode cX7_writings 17 = .ok (.iload_n 3, 1) := by decide +kernel
theorem dX7_writings_18 : decode cX7_writings 18 = .ok (.iconst 1, 1) := by decide +kernel
theorem dX7_writings_19 : decode cX7_writings 19 = .ok (.iconst 4, 1) := by decide +kernel
theorem dX7_writings_20 : decode cX7_writings 20 = .ok (.invokestatic 85, 3) := by decide +kernel
theorem dX7_writings_23 : decode cX7_writings 23 = .ok (.ifCond .eq 9, 3) := by decide +kernel
theorem dX7_writings_26 : decode cX7_writings 26 = .ok (.iload 4, 2) := by decide +kernel
theorem dX7_writings_28 : decode cX7_writings 28 = .ok (.iconst (-1), 1) := by decide +kernel
theorem dX7_writings_29 : decode cX7_writings 29 = .ok (.if_icmp .ge 6, 3) := by decide +kernel
theorem dX7_writings_32 : decode cX7_writings 32 = .ok (.ldc 93, 2) := by decide +kernel
theorem dX7_writings_34 : decode cX7_writings 34 = .ok (.ireturn, 1) := by decide +kernel
theorem dX7_writings_35 : decode cX7_writings 35 = .ok (.aload_n 0, 1) := by decide +kernel
theorem dX7_writings_36 : decode cX7_writings 36 = .ok (.getfield 7, 3) := by decide +kernel
theorem dX7_writings_39 : decode cX7_writings 39 = .ok (.iload_n 1, 1) := by decide +kernel
theorem dX7_writings_40 : decode cX7_writings 40 = .ok (.iaload, 1) := by decide +kernel
theorem dX7_writings_41 : decode cX7_writings 41 = .ok (.ifCond .ge 9, 3) := by decide +kernel
theorem dX7_writings_44 : decode cX7_writings 44 = .ok (.aload_n 0, 1) := by decide +kernel
theorem dX7_writings_45 : decode cX7_writings 45 = .ok (.iconst 1, 1) := by decide +kernel
theorem dX7_writings_46 : decode cX7_writings 46 = .ok (.invokevirtual 94, 3) := by decide +kernel
theorem dX7_writings_49 : decode cX7_writings 49 = .ok (.ireturn, 1) := by decide +kernel
theorem dX7_writings_50 : decode cX7_writings 50 = .ok (.aload_n 0, 1) := by decide +kernel
theorem dX7_writings_51 : decode cX7_writings 51 = .ok (.iload_n 1, 1) := by decide +kernel
theorem dX7_writings_52 : decode cX7_writings 52 = .ok (.iload_n 2, 1) := by decide +kernel
theorem dX7_writings_53 : decode cX7_writings 53 = .ok (.iconst 2, 1) := by decide +kernel
theorem dX7_writings_54 : decode cX7_writings 54 = .ok (.iload_n 3, 1) := by decide +kernel
theorem dX7_writings_55 : decode cX7_writings 55 = .ok (.imul, 1) := by decide +kernel
theorem dX7_writings_56 : decode cX7_writings 56 = .ok (.invokevirtual 105, 3) := by decide +kernel
theorem dX7_writings_59 : decode cX7_writings 59 = .ok (.ifCond .ne 9, 3) := by decide +kernel
theorem dX7_writings_62 : decode cX7_writings 62 = .ok (.aload_n 0, 1) := by decide +kernel
theorem dX7_writings_63 : decode cX7_writings 63 = .ok (.iconst 2, 1) := by decide +kernel
theorem dX7_writings_64 : decode cX7_writings 64 = .ok (.invokevirtual 94, 3) := by decide +kernel
theorem dX7_writings_67 : decode cX7_writings 67 = .ok (.ireturn, 1) := by decide +kernel
theorem dX7_writings_68 : decode cX7_writings 68 = .ok (.iconst 0, 1) := by decide +kernel
theorem dX7_writings_69 : decode cX7_writings 69 = .ok (.istore 5, 2) := by decide +kernel
theorem dX7_writings_71 : decode cX7_writings 71 = .ok (.iload 5, 2) := by decide +kernel
theorem dX7_writings_73 : decode cX7_writings 73 = .ok (.iload_n 3, 1) := by decide +kernel
theorem dX7_writings_74 : decode cX7_writings 74 = .ok (.if_icmp .ge 52, 3) := by decide +kernel
theorem dX7_writings_77 : decode cX7_writings 77 = .ok (.aload_n 0, 1) := by decide +kernel
theorem dX7_writings_78 : decode cX7_writings 78 = .ok (.aload_n 0, 1) := by decide +kernel
theorem dX7_writings_79 : decode cX7_writings 79 = .ok (.iload_n 1, 1) := by decide +kernel
theorem dX7_writings_80 : decode cX7_writings 80 = .ok (.iload_n 2, 1) := by decide +kernel
theorem dX7_writings_81 : decode cX7_writings 81 = .ok (.iconst 2, 1) := by decide +kernel
theorem dX7_writings_82 : decode cX7_writings 82 = .ok (.iload 5, 2) := by decide +kernel
theorem dX7_writings_84 : decode cX7_writings 84 = .ok (.imul, 1) := by decide +kernel
theorem dX7_writings_85 : decode cX7_writings 85 = .ok (.iadd, 1) := by decide +kernel
theorem dX7_writings_86 : decode cX7_writings 86 = .ok (.invokevirtual 258, 3) := by decide +kernel
theorem dX7_writings_89 : decode cX7_writings 89 = .ok (.invokevirtual 217, 3) := by decide +kernel
theorem dX7_writings_92 : decode cX7_writings 92 = .ok (.ifCond .eq 25, 3) := by decide +kernel
theorem dX7_writings_95 : decode cX7_writings 95 = .ok (.aload_n 0, 1) := by decide +kernel
theorem dX7_writings_96 : decode cX7_writings 96 = .ok (.iload_n 1, 1) := by decide +kernel
theorem dX7_writings_97 : decode cX7_writings 97 = .ok (.iload_n 2, 1) := by decide +kernel
theorem dX7_writings_98 : decode cX7_writings 98 = .ok (.iconst 2, 1) := by decide +kernel
theorem dX7_writings_99 : decode cX7_writings 99 = .ok (.iload 5, 2) := by decide +kernel
theorem dX7_writings_101 : decode cX7_writings 101 = .ok (.imul, 1) := by decide +kernel
theorem dX7_writings_102 : decode cX7_writings 102 = .ok (.iadd, 1) := by decide +kernel
theorem dX7_writings_103 : decode cX7_writings 103 = .ok (.iconst 1, 1) := by decide +kernel
theorem dX7_writings_104 : decode cX7_writings 104 = .ok (.iadd, 1) := by decide +kernel
theorem dX7_writings_105 : decode cX7_writings 105 = .ok (.invokevirtual 258, 3) := by decide +kernel
theorem dX7_writings_108 : decode cX7_writings 108 = .ok (.iconst 1, 1) := by decide +kernel
theorem dX7_writings_109 : decode cX7_writings 109 = .ok (.bipush 30, 2) := by decide +kernel
theorem dX7_writings_111 : decode cX7_writings 111 = .ok (.invokestatic 85, 3) := by decide +kernel
theorem dX7_writings_114 : decode cX7_writings 114 = .ok (.ifCond .ne 6, 3) := by decide +kernel
theorem dX7_writings_117 : decode cX7_writings 117 = .ok (.ldc 93, 2) := by decide +kernel
theorem dX7_writings_119 : decode cX7_writings 119 = .ok (.ireturn, 1) := by decide +kernel
theorem dX7_writings_120 : decode cX7_writings 120 = .ok (.iinc 5 1, 3) := by decide +kernel
theorem dX7_writings_123 : decode cX7_writings 123 = .ok (.goto (-52), 3) := by decide +kernel
theorem dX7_writings_126 : decode cX7_writings 126 = .ok (.iconst (-1), 1) := by decide +kernel
theorem dX7_writings_127 : decode cX7_writings 127 = .ok (.istore 5, 2) := by decide +kernel
theorem dX7_writings_129 : decode cX7_writings 129 = .ok (.iconst 0, 1) := by decide +kernel
theorem dX7_writings_130 : decode cX7_writings 130 = .ok (.istore 6, 2) := by decide +kernel
theorem dX7_writings_132 : decode cX7_writings 132 = .ok (.iconst 1, 1) := by decide +kernel
theorem dX7_writings_133 : decode cX7_writings 133 = .ok (.istore 7, 2) := by decide +kernel
theorem dX7_writings_135 : decode cX7_writings 135 = .ok (.iconst 0, 1) := by decide +kernel
theorem dX7_writings_136 : decode cX7_writings 136 = .ok (.istore 8, 2) := by decide +kernel
theorem dX7_writings_138 : decode cX7_writings 138 = .ok (.iload 8, 2) := by decide +kernel
theorem dX7_writings_140 : decode cX7_writings 140 = .ok (.iload_n 3, 1) := by decide +kernel
theorem dX7_writings_141 : decode cX7_writings 141 = .ok (.if_icmp .ge 18, 3) := by decide +kernel
theorem dX7_writings_144 : decode cX7_writings 144 = .ok (.iload 7, 2) := by decide +kernel
theorem dX7_writings_146 : decode cX7_writings 146 = .ok (.aload_n 0, 1) := by decide +kernel
theorem dX7_writings_147 : decode cX7_writings 147 = .ok (.getfield 177, 3) := by decide +kernel
theorem dX7_writings_150 : decode cX7_writings 150 = .ok (.imul, 1) := by decide +kernel
theorem dX7_writings_151 : decode cX7_writings 151 = .ok (.istore 7, 2) := by decide +kernel
theorem dX7_writings_153 : decode cX7_writings 153 = .ok (.iinc 8 1, 3) := by decide +kernel
theorem dX7_writings_156 : decode cX7_writings 156 = .ok (.goto (-18), 3) := by decide +kernel
theorem dX7_writings_159 : decode cX7_writings 159 = .ok (.iconst 0, 1) := by decide +kernel
theorem dX7_writings_160 : decode cX7_writings 160 = .ok (.istore 8, 2) := by decide +kernel
theorem dX7_writings_162 : decode cX7_writings 162 = .ok (.iload 8, 2) := by decide +kernel
theorem dX7_writings_164 : decode cX7_writings 164 = .ok (.iload 7, 2) := by decide +kernel
theorem dX7_writings_166 : decode cX7_writings 166 = .ok (.if_icmp .ge 52, 3) := by decide +kernel
theorem dX7_writings_169 : decode cX7_writings 169 = .ok (.aload_n 0, 1) := by decide +kernel
theorem dX7_writings_170 : decode cX7_writings 170 = .ok (.iload_n 1, 1) := by decide +kernel
theorem dX7_writings_171 : decode cX7_writings 171 = .ok (.iload_n 2, 1) := by decide +kernel
theorem dX7_writings_172 : decode cX7_writings 172 = .ok (.iload_n 3, 1) := by decide +kernel
theorem dX7_writings_173 : decode cX7_writings 173 = .ok (.iload 8, 2) := by decide +kernel
theorem dX7_writings_175 : decode cX7_writings 175 = .ok (.invokevirtual 261, 3) := by decide +kernel
theorem dX7_writings_178 : decode cX7_writings 178 = .ok (.istore 9, 2) := by decide +kernel
theorem dX7_writings_180 : decode cX7_writings 180 = .ok (.iload 9, 2) := by decide +kernel
theorem dX7_writings_182 : decode cX7_writings 182 = .ok (.iload 5, 2) := by decide +kernel
theorem dX7_writings_184 : decode cX7_writings 184 = .ok (.if_icmp .le 8, 3) := by decide +kernel
theorem dX7_writings_187 : decode cX7_writings 187 = .ok (.iload 8, 2) := by decide +kernel
theorem dX7_writings_189 : decode cX7_writings 189 = .ok (.goto 5, 3) := by decide +kernel
theorem dX7_writings_192 : decode cX7_writings 192 = .ok (.iload 6, 2) := by decide +kernel
theorem dX7_writings_194 : decode cX7_writings 194 = .ok (.istore 6, 2) := by decide +kernel
theorem dX7_writings_196 : decode cX7_writings 196 = .ok (.iload 9, 2) := by decide +kernel
theorem dX7_writings_198 : decode cX7_writings 198 = .ok (.iload 5, 2) := by decide +kernel
theorem dX7_writings_200 : decode cX7_writings 200 = .ok (.if_icmp .le 8, 3) := by decide +kernel
theorem dX7_writings_203 : decode cX7_writings 203 = .ok (.iload 9, 2) := by decide +kernel
theorem dX7_writings_205 : decode cX7_writings 205 = .ok (.goto 5, 3) := by decide +kernel
theorem dX7_writings_208 : decode cX7_writings 208 = .ok (.iload 5, 2) := by decide +kernel
theorem dX7_writings_210 : decode cX7_writings 210 = .ok (.istore 5, 2) := by decide +kernel
theorem dX7_writings_212 : decode cX7_writings 212 = .ok (.iinc 8 1, 3) := by decide +kernel
theorem dX7_writings_215 : decode cX7_writings 215 = .ok (.goto (-53), 3) := by decide +kernel
theorem dX7_writings_218 : decode cX7_writings 218 = .ok (.iload_n 3, 1) := by decide +kernel
theorem dX7_writings_219 : decode cX7_writings 219 = .ok (.iconst 1, 1) := by decide +kernel
theorem dX7_writings_220 : decode cX7_writings 220 = .ok (.isub, 1) := by decide +kernel
theorem dX7_writings_221 : decode cX7_writings 221 = .ok (.istore 8, 2) := by decide +kernel
theorem dX7_writings_223 : decode cX7_writings 223 = .ok (.iload 8, 2) := by decide +kernel
theorem dX7_writings_225 : decode cX7_writings 225 = .ok (.iload 4, 2) := by decide +kernel
theorem dX7_writings_227 : decode cX7_writings 227 = .ok (.if_icmp .le 23, 3) := by decide +kernel
theorem dX7_writings_230 : decode cX7_writings 230 = .ok (.iload 4, 2) := by decide +kernel
theorem dX7_writings_232 : decode cX7_writings 232 = .ok (.ifCond .lt 18, 3) := by decide +kernel
theorem dX7_writings_235 : decode cX7_writings 235 = .ok (.iload 6, 2) := by decide +kernel
theorem dX7_writings_237 : decode cX7_writings 237 = .ok (.aload_n 0, 1) := by decide +kernel
theorem dX7_writings_238 : decode cX7_writings 238 = .ok (.getfield 177, 3) := by decide +kernel
theorem dX7_writings_241 : decode cX7_writings 241 = .ok (.idiv, 1) := by decide +kernel
theorem dX7_writings_242 : decode cX7_writings 242 = .ok (.istore 6, 2) := by decide +kernel
theorem dX7_writings_244 : decode cX7_writings 244 = .ok (.iinc 8 (-1), 3) := by decide +kernel
theorem dX7_writings_247 : decode cX7_writings 247 = .ok (.goto (-24), 3) := by decide +kernel
theorem dX7_writings_250 : decode cX7_writings 250 = .ok (.aload_n 0, 1) := by decide +kernel
theorem dX7_writings_251 : decode cX7_writings 251 = .ok (.iload 5, 2) := by decide +kernel
theorem dX7_writings_253 : decode cX7_writings 253 = .ok (.ifCond .lt 9, 3) := by decide +kernel
theorem dX7_writings_256 : decode cX7_writings 256 = .ok (.iload 4, 2) := by decide +kernel
theorem dX7_writings_258 : decode cX7_writings 258 = .ok (.iload_n 3, 1) := by decide +kernel
theorem dX7_writings_259 : decode cX7_writings 259 = .ok (.if_icmp .lt 8, 3) := by decide +kernel
theorem dX7_writings_262 : decode cX7_writings 262 = .ok (.ldc 150, 2) := by decide +kernel
theorem dX7_writings_264 : decode cX7_writings 264 = .ok (.goto 20, 3) := by decide +kernel
theorem dX7_writings_267 : decode cX7_writings 267 = .ok (.iload 4, 2) := by decide +kernel
theorem dX7_writings_269 : decode cX7_writings 269 = .ok (.ifCond .ge 8, 3) := by decide +kernel
theorem dX7_writings_272 : decode cX7_writings 272 = .ok (.iload 5, 2) := by decide +kernel
theorem dX7_writings_274 : decode cX7_writings 274 = .ok (.goto 10, 3) := by decide +kernel
theorem dX7_writings_277 : decode cX7_writings 277 = .ok (.iload 6, 2) := by decide +kernel
theorem dX7_writings_279 : decode cX7_writings 279 = .ok (.aload_n 0, 1) := by decide +kernel
theorem dX7_writings_280 : decode cX7_writings 280 = .ok (.getfield 177, 3) := by decide +kernel
theorem dX7_writings_283 : decode cX7_writings 283 = .ok (.irem, 1) := by decide +kernel
theorem dX7_writings_284 : decode cX7_writings 284 = .ok (.invokevirtual 98, 3) := by decide +kernel
theorem dX7_writings_287 : decode cX7_writings 287 = .ok (.ireturn, 1) := by decide +kernel
theorem dX7_isLeft_0 : decode cX7_isLeft 0 = .ok (.aload_n 0, 1) := by decide +kernel
theorem dX7_isLeft_1 : decode cX7_isLeft 1 = .ok (.getfield 31, 3) := by decide +kernel
theorem dX7_isLeft_4 : decode cX7_isLeft 4 = .ok (.iload_n 3, 1) := by decide +kernel
theorem dX7_isLeft_5 : decode cX7_isLeft 5 = .ok (.iaload, 1) := by decide +kernel
theorem dX7_isLeft_6 : decode cX7_isLeft 6 = .ok (.iload 4, 2) := by decide +kernel
theorem dX7_isLeft_8 : decode cX7_isLeft 8 = .ok (.if_icmp .lt 7, 3) := by decide +kernel
theorem dX7_isLeft_11 : decode cX7_isLeft 11 = .ok (.iconst 1, 1) := by decide +kernel
theorem dX7_isLeft_12 : decode cX7_isLeft 12 = .ok (.goto 4, 3) := by decide +kernel
theorem dX7_isLeft_15 : decode cX7_isLeft 15 = .ok (.iconst 0, 1) := by decide +kernel
theorem dX7_isLeft_16 : decode cX7_isLeft 16 = .ok (.istore 5, 2) := by decide +kernel
theorem dX7_isLeft_18 : decode cX7_isLeft 18 = .ok (.iconst 0, 1) := by decide +kernel
theorem dX7_isLeft_19 : decode cX7_isLeft 19 = .ok (.istore 6, 2) := by decide +kernel
theorem dX7_isLeft_21 : decode cX7_isLeft 21 = .ok (.iload 6, 2) := by decide +kernel
theorem dX7_isLeft_23 : decode cX7_isLeft 23 = .ok (.aload_n 0, 1) := by decide +kernel
theorem dX7_isLeft_24 : decode cX7_isLeft 24 = .ok (.getfield 177, 3) := by decide +kernel
theorem dX7_isLeft_27 : decode cX7_isLeft 27 = .ok (.if_icmp .ge 59, 3) := by decide +kernel
theorem dX7_isLeft_30 : decode cX7_isLeft 30 = .ok (.iload 5, 2) := by decide +kernel
theorem dX7_isLeft_32 : decode cX7_isLeft 32 = .ok (.ifCond .eq 45, 3) := by decide +kernel
theorem dX7_isLeft_35 : decode cX7_isLeft 35 = .ok (.aload_n 0, 1) := by decide +kernel
theorem dX7_isLeft_36 : decode cX7_isLeft 36 = .ok (.iload_n 1, 1) := by decide +kernel
theorem dX7_isLeft_37 : decode cX7_isLeft 37 = .ok (.iload_n 2, 1) := by decide +kernel
theorem dX7_isLeft_38 : decode cX7_isLeft 38 = .ok (.iload 6, 2) := by decide +kernel
theorem dX7_isLeft_40 : decode cX7_isLeft 40 = .ok (.iadd, 1) := by decide +kernel
theorem dX7_isLeft_41 : decode cX7_isLeft 41 = .ok (.invokevirtual 258, 3) := by decide +kernel
theorem dX7_isLeft_44 : decode cX7_isLeft 44 = .ok (.iload 6, 2) := by decide +kernel
theorem dX7_isLeft_46 : decode cX7_isLeft 46 = .ok (.iload_n 3, 1) := by decide +kernel
theorem dX7_isLeft_47 : decode cX7_isLeft 47 = .ok (.if_icmp .ne 16, 3) := by decide +kernel
theorem dX7_isLeft_50 : decode cX7_isLeft 50 = .ok (.aload_n 0, 1) := by decide +kernel
theorem dX7_isLeft_51 : decode cX7_isLeft 51 = .ok (.getfield 31, 3) := by decide +kernel
theorem dX7_isLeft_54 : decode cX7_isLeft 54 = .ok (.iload 6, 2) := by decide +kernel
theorem dX7_isLeft_56 : decode cX7_isLeft 56 = .ok (.iaload, 1) := by decide +kernel
theorem dX7_isLeft_57 : decode cX7_isLeft 57 = .ok (.iload 4, 2) := by decide +kernel
theorem dX7_isLeft_59 : decode cX7_isLeft 59 = .ok (.isub, 1) := by decide +kernel
theorem dX7_isLeft_60 : decode cX7_isLeft 60 = .ok (.goto 10, 3) := by decide +kernel
theorem dX7_isLeft_63 : decode cX7_isLeft 63 = .ok (.aload_n 0, 1) := by decide +kernel
theorem dX7_isLeft_64 : decode cX7_isLeft 64 = .ok (.getfield 31, 3) := by decide +kernel
theorem dX7_isLeft_67 : decode cX7_isLeft 67 = .ok (.iload 6, 2) := by decide +kernel
theorem dX7_isLeft_69 : decode cX7_isLeft 69 = .ok (.iaload, 1) := by decide +kernel
theorem dX7_isLeft_70 : decode cX7_isLeft 70 = .ok (.if_icmp .ne 7, 3) := by decide +kernel
theorem dX7_isLeft_73 : decode cX7_isLeft 73 = .ok (.iconst 1, 1) := by decide +kernel
theorem dX7_isLeft_74 : decode cX7_isLeft 74 = .ok (.goto 4, 3) := by decide +kernel
theorem dX7_isLeft_77 : decode cX7_isLeft 77 = .ok (.iconst 0, 1) := by decide +kernel
theorem dX7_isLeft_78 : decode cX7_isLeft 78 = .ok (.istore 5, 2) := by decide +kernel
theorem dX7_isLeft_80 : decode cX7_isLeft 80 = .ok (.iinc 6 1, 3) := by decide +kernel
theorem dX7_isLeft_83 : decode cX7_isLeft 83 = .ok (.goto (-62), 3) := by decide +kernel
theorem dX7_isLeft_86 : decode cX7_isLeft 86 = .ok (.iload 5, 2) := by decide +kernel
theorem dX7_isLeft_88 : decode cX7_isLeft 88 = .ok (.ireturn, 1) := by decide +kernel
theorem dX7_from_0 : decode cX7_from 0 = .ok (.aload_n 0, 1) := by decide +kernel
theorem dX7_from_1 : decode cX7_from 1 = .ok (.getfield 177, 3) := by decide +kernel
theorem dX7_from_4 : decode cX7_from 4 = .ok (.ifCond .ne 6, 3) := by decide +kernel
theorem dX7_from_7 : decode cX7_from 7 = .ok (.ldc 201, 2) := by decide +kernel
theorem dX7_from_9 : decode cX7_from 9 = .ok (.ireturn, 1) := by decide +kernel
theorem dX7_from_10 : decode cX7_from 10 = .ok (.iload_n 1, 1) := by decide +kernel
theorem dX7_from_11 : decode cX7_from 11 = .ok (.invokestatic 89, 3) := by decide +kernel
theorem dX7_from_14 : decode cX7_from 14 = .ok (.ifCond .eq 12, 3) := by decide +kernel
theorem dX7_from_17 : decode cX7_from 17 = .ok (.iload_n 3, 1) := by decide +kernel
theorem dX7_from_18 : decode cX7_from 18 = .ok (.iconst 0, 1) := by decide +kernel
theorem dX7_from_19 : decode cX7_from 19 = .ok (.iconst 1, 1) := by decide +kernel
theorem dX7_from_20 : decode cX7_from 20 = .ok (.invokestatic 85, 3) := by decide +kernel
theorem dX7_from_23 : decode cX7_from 23 = .ok (.ifCond .ne 6, 3) := by decide +kernel
theorem dX7_from_26 : decode cX7_from 26 = .ok (.ldc 93, 2) := by decide +kernel
theorem dX7_from_28 : decode cX7_from 28 = .ok (.ireturn, 1) := by decide +kernel
theorem dX7_from_29 : decode cX7_from 29 = .ok (.aload_n 0, 1) := by decide +kernel
theorem dX7_from_30 : decode cX7_from 30 = .ok (.getfield 7, 3) := by decide +kernel
theorem dX7_from_33 : decode cX7_from 33 = .ok (.iload_n 1, 1) := by decide +kernel
theorem dX7_from_34 : decode cX7_from 34 = .ok (.iaload, 1) := by decide +kernel
theorem dX7_from_35 : decode cX7_from 35 = .ok (.ifCond .ge 9, 3) := by decide +kernel
theorem dX7_from_38 : decode cX7_from 38 = .ok (.aload_n 0, 1) := by decide +kernel
theorem dX7_from_39 : decode cX7_from 39 = .ok (.iconst 1, 1) := by decide +kernel
theorem dX7_from_40 : decode cX7_from 40 = .ok (.invokevirtual 94, 3) := by decide +kernel
theorem dX7_from_43 : decode cX7_from 43 = .ok (.ireturn, 1) := by decide +kernel
theorem dX7_from_44 : decode cX7_from 44 = .ok (.aload_n 0, 1) := by decide +kernel
theorem dX7_from_45 : decode cX7_from 45 = .ok (.iload_n 1, 1) := by decide +kernel
theorem dX7_from_46 : decode cX7_from 46 = .ok (.iload_n 2, 1) := by decide +kernel
theorem dX7_from_47 : decode cX7_from 47 = .ok (.aload_n 0, 1) := by decide +kernel
theorem dX7_from_48 : decode cX7_from 48 = .ok (.getfield 177, 3) := by decide +kernel
theorem dX7_from_51 : decode cX7_from 51 = .ok (.invokevirtual 105, 3) := by decide +kernel
theorem dX7_from_54 : decode cX7_from 54 = .ok (.ifCond .ne 9, 3) := by decide +kernel
theorem dX7_from_57 : decode cX7_from 57 = .ok (.aload_n 0, 1) := by decide +kernel
theorem dX7_from_58 : decode cX7_from 58 = .ok (.iconst 2, 1) := by decide +kernel
theorem dX7_from_59 : decode cX7_from 59 = .ok (.invokevirtual 94, 3) := by decide +kernel
theorem dX7_from_62 : decode cX7_from 62 = .ok (.ireturn, 1) := by decide +kernel
theorem dX7_from_63 : decode cX7_from 63 = .ok (.iconst 0, 1) := by decide +kernel
theorem dX7_from_64 : decode cX7_from 64 = .ok (.istore 4, 2) := by decide +kernel
theorem dX7_from_66 : decode cX7_from 66 = .ok (.ldc 150, 2) := by decide +kernel
theorem dX7_from_68 : decode cX7_from 68 = .ok (.istore 5, 2) := by decide +kernel
theorem dX7_from_70 : decode cX7_from 70 = .ok (.iconst 0, 1) := by decide +kernel
theorem dX7_from_71 : decode cX7_from 71 = .ok (.istore 6, 2) := by decide +kernel
theorem dX7_from_73 : decode cX7_from 73 = .ok (.iload 6, 2) := by decide +kernel
theorem dX7_from_75 : decode cX7_from 75 = .ok (.aload_n 0, 1) := by decide +kernel
theorem dX7_from_76 : decode cX7_from 76 = .ok (.getfield 183, 3) := by decide +kernel
theorem dX7_from_79 : decode cX7_from 79 = .ok (.if_icmp .ge 89, 3) := by decide +kernel
theorem dX7_from_82 : decode cX7_from 82 = .ok (.iconst 0, 1) := by decide +kernel
theorem dX7_from_83 : decode cX7_from 83 = .ok (.istore 7, 2) := by decide +kernel
theorem dX7_from_85 : decode cX7_from 85 = .ok (.iload 7, 2) := by decide +kernel
theorem dX7_from_87 : decode cX7_from 87 = .ok (.aload_n 0, 1) := by decide +kernel
theorem dX7_from_88 : decode cX7_from 88 = .ok (.getfield 177, 3) := by decide +kernel
theorem dX7_from_91 : decode cX7_from 91 = .ok (.if_icmp .ge 71, 3) := by decide +kernel
theorem dX7_from_94 : decode cX7_from 94 = .ok (.iconst 1, 1) := by decide +kernel
theorem dX7_from_95 : decode cX7_from 95 = .ok (.istore 8, 2) := by decide +kernel
theorem dX7_from_97 : decode cX7_from 97 = .ok (.iload 8, 2) := by decide +kernel
theorem dX7_from_99 : decode cX7_from 99 = .ok (.bipush 30, 2) := by decide +kernel
theorem dX7_from_101 : decode cX7_from 101 = .ok (.if_icmp .gt 55, 3) := by decide +kernel
theorem dX7_from_104 : decode cX7_from 104 = .ok (.aload_n 0, 1) := by decide +kernel
theorem dX7_from_105 : decode cX7_from 105 = .ok (.iload_n 1, 1) := by decide +kernel
theorem dX7_from_106 : decode cX7_from 106 = .ok (.iload_n 2, 1) := by decide +kernel
theorem dX7_from_107 : decode cX7_from 107 = .ok (.iload 7, 2) := by decide +kernel
theorem dX7_from_109 : decode cX7_from 109 = .ok (.aload_n 0, 1) := by decide +kernel
theorem dX7_from_110 : decode cX7_from 110 = .ok (.aload_n 0, 1) := by decide +kernel
theorem dX7_from_111 : decode cX7_from 111 = .ok (.getfield 31, 3) := by decide +kernel
theorem dX7_from_114 : decode cX7_from 114 = .ok (.iload 6, 2) := by decide +kernel
theorem dX7_from_116 : decode cX7_from 116 = .ok (.iload 8, 2) := by decide +kernel
theorem dX7_from_118 : decode cX7_from 118 = .ok (.invokevirtual 210, 3) := by decide +kernel
theorem dX7_from_121 : decode cX7_from 121 = .ok (.invokevirtual 264, 3) := by decide +kernel
theorem dX7_from_124 : decode cX7_from 124 = .ok (.ifCond .eq 26, 3) := by decide +kernel
theorem dX7_from_127 : decode cX7_from 127 = .ok (.iload 4, 2) := by decide +kernel
theorem dX7_from_129 : decode cX7_from 129 = .ok (.ifCond .ne 14, 3) := by decide +kernel
theorem dX7_from_132 : decode cX7_from 132 = .ok (.bipush 10, 2) := by decide +kernel
theorem dX7_from_134 : decode cX7_from 134 = .ok (.iload 6, 2) := by decide +kernel
theorem dX7_from_136 : decode cX7_from 136 = .ok (.imul, 1) := by decide +kernel
theorem dX7_from_137 : decode cX7_from 137 = .ok (.iload 7, 2) := by decide +kernel
theorem dX7_from_139 : decode cX7_from 139 = .ok (.iadd, 1) := by decide +kernel
theorem dX7_from_140 : decode cX7_from 140 = .ok (.goto 5, 3) := by decide +kernel
theorem dX7_from_143 : decode cX7_from 143 = .ok (.iload 5, 2) := by decide +kernel
theorem dX7_from_145 : decode cX7_from 145 = .ok (.istore 5, 2) := by decide +kernel
theorem dX7_from_147 : decode cX7_from 147 = .ok (.iinc 4 1, 3) := by decide +kernel
theorem dX7_from_150 : decode cX7_from 150 = .ok (.iinc 8 1, 3) := by decide +kernel
theorem dX7_from_153 : decode cX7_from 153 = .ok (.goto (-56), 3) := by decide +kernel
theorem dX7_from_156 : decode cX7_from 156 = .ok (.iinc 7 1, 3) := by decide +kernel
theorem dX7_from_159 : decode cX7_from 159 = .ok (.goto (-74), 3) := by decide +kernel
theorem dX7_from_162 : decode cX7_from 162 = .ok (.iinc 6 1, 3) := by decide +kernel
theorem dX7_from_165 : decode cX7_from 165 = .ok (.goto (-92), 3) := by decide +kernel
theorem dX7_from_168 : decode cX7_from 168 = .ok (.aload_n 0, 1) := by decide +kernel
theorem dX7_from_169 : decode cX7_from 169 = .ok (.iload_n 3, 1) := by decide +kernel
theorem dX7_from_170 : decode cX7_from 170 = .ok (.ifCond .ne 8, 3) := by decide +kernel
theorem dX7_from_173 : decode cX7_from 173 = .ok (.iload 4, 2) := by decide +kernel
theorem dX7_from_175 : decode cX7_from 175 = .ok (.goto 5, 3) := by decide +kernel
theorem dX7_from_178 : decode cX7_from 178 = .ok (.iload 5, 2) := by decide +kernel
theorem dX7_from_180 : decode cX7_from 180 = .ok (.invokevirtual 98, 3) := by decide +kernel
theorem dX7_from_183 : decode cX7_from 183 = .ok (.ireturn, 1) := by decide +kernel
theorem dX7_who_0 : decode cX7_who 0 = .ok (.aload_n 0, 1) := by decide +kernel
theorem dX7_who_1 : decode cX7_who 1 = .ok (.iload_n 1, 1) := by decide +kernel
theorem dX7_who_2 : decode cX7_who 2 = .ok (.invokevirtual 217, 3) := by decide +kernel
theorem dX7_who_5 : decode cX7_who 5 = .ok (.ifCond .eq 21, 3) := by decide +kernel
theorem dX7_who_8 : decode cX7_who 8 = .ok (.iload_n 2, 1) := by decide +kernel
theorem dX7_who_9 : decode cX7_who 9 = .ok (.invokestatic 89, 3) := by decide +kernel
theorem dX7_who_12 : decode cX7_who 12 = .ok (.ifCond .eq 14, 3) := by decide +kernel
theorem dX7_who_15 : decode cX7_who 15 = .ok (.iload 4, 2) := by decide +kernel
theorem dX7_who_17 : decode cX7_who 17 = .ok (.iconst 1, 1) := by decide +kernel
theorem dX7_who_18 : decode cX7_who 18 = .ok (.bipush 8, 2) := by decide +kernel
theorem dX7_who_20 : decode cX7_who 20 = .ok (.invokestatic 85, 3) := by decide +kernel
theorem dX7_who_23 : decode cX7_who 23 = .ok (.ifCond .ne 6, 3) := by decide +kernel
theorem dX7_who_26 : decode cX7_who 26 = .ok (.ldc 93, 2) := by decide +kernel
theorem dX7_who_28 : decode cX7_who 28 = .ok (.ireturn, 1) := by decide +kernel
theorem dX7_who_29 : decode cX7_who 29 = .ok (.aload_n 0, 1) := by decide +kernel
theorem dX7_who_30 : decode cX7_who 30 = .ok (.getfield 7, 3) := by decide +kernel
theorem dX7_who_33 : decode cX7_who 33 = .ok (.iload_n 2, 1) := by decide +kernel
theorem dX7_who_34 : decode cX7_who 34 = .ok (.iaload, 1) := by decide +kernel
theorem dX7_who_35 : decode cX7_who 35 = .ok (.ifCond .ge 9, 3) := by decide +kernel
theorem dX7_who_38 : decode cX7_who 38 = .ok (.aload_n 0, 1) := by decide +kernel
theorem dX7_who_39 : decode cX7_who 39 = .ok (.iconst 1, 1) := by decide +kernel
theorem dX7_who_40 : decode cX7_who 40 = .ok (.invokevirtual 94, 3) := by decide +kernel
theorem dX7_who_43 : decode cX7_who 43 = .ok (.ireturn, 1) := by decide +kernel
theorem dX7_who_44 : decode cX7_who 44 = .ok (.aload_n 0, 1) := by decide +kernel
theorem dX7_who_45 : decode cX7_who 45 = .ok (.iload_n 2, 1) := by decide +kernel
theorem dX7_who_46 : decode cX7_who 46 = .ok (.iload_n 3, 1) := by decide +kernel
theorem dX7_who_47 : decode cX7_who 47 = .ok (.iconst 2, 1) := by decide +kernel
theorem dX7_who_48 : decode cX7_who 48 = .ok (.iload 4, 2) := by decide +kernel
theorem dX7_who_50 : decode cX7_who 50 = .ok (.imul, 1) := by decide +kernel
theorem dX7_who_51 : decode cX7_who 51 = .ok (.invokevirtual 105, 3) := by decide +kernel
theorem dX7_who_54 : decode cX7_who 54 = .ok (.ifCond .ne 9, 3) := by decide +kernel
theorem dX7_who_57 : decode cX7_who 57 = .ok (.aload_n 0, 1) := by decide +kernel
theorem dX7_who_58 : decode cX7_who 58 = .ok (.iconst 2, 1) := by decide +kernel
theorem dX7_who_59 : decode cX7_who 59 = .ok (.invokevirtual 94, 3) := by decide +kernel
theorem dX7_who_62 : decode cX7_who 62 = .ok (.ireturn, 1) := by decide +kernel
theorem dX7_who_63 : decode cX7_who 63 = .ok (.iconst 0, 1) := by decide +kernel
theorem dX7_who_64 : decode cX7_who 64 = .ok (.istore 5, 2) := by decide +kernel
theorem dX7_who_66 : decode cX7_who 66 = .ok (.iload 5, 2) := by decide +kernel
theorem dX7_who_68 : decode cX7_who 68 = .ok (.iload 4, 2) := by decide +kernel
theorem dX7_who_70 : decode cX7_who 70 = .ok (.if_icmp .ge 32, 3) := by decide +kernel
theorem dX7_who_73 : decode cX7_who 73 = .ok (.aload_n 0, 1) := by decide +kernel
theorem dX7_who_74 : decode cX7_who 74 = .ok (.iload_n 2, 1) := by decide +kernel
theorem dX7_who_75 : decode cX7_who 75 = .ok (.iload_n 3, 1) := by decide +kernel
theorem dX7_who_76 : decode cX7_who 76 = .ok (.iconst 2, 1) := by decide +kernel
theorem dX7_who_77 : decode cX7_who 77 = .ok (.iload 5, 2) := by decide +kernel
theorem dX7_who_79 : decode cX7_who 79 = .ok (.imul, 1) := by decide +kernel
theorem dX7_who_80 : decode cX7_who 80 = .ok (.iadd, 1) := by decide +kernel
theorem dX7_who_81 : decode cX7_who 81 = .ok (.invokevirtual 258, 3) := by decide +kernel
theorem dX7_who_84 : decode cX7_who 84 = .ok (.iconst 1, 1) := by decide +kernel
theorem dX7_who_85 : decode cX7_who 85 = .ok (.bipush 30, 2) := by decide +kernel
theorem dX7_who_87 : decode cX7_who 87 = .ok (.invokestatic 85, 3) := by decide +kernel
theorem dX7_who_90 : decode cX7_who 90 = .ok (.ifCond .ne 6, 3) := by decide +kernel
theorem dX7_who_93 : decode cX7_who 93 = .ok (.ldc 93, 2) := by decide +kernel
theorem dX7_who_95 : decode cX7_who 95 = .ok (.ireturn, 1) := by decide +kernel
theorem dX7_who_96 : decode cX7_who 96 = .ok (.iinc 5 1, 3) := by decide +kernel
theorem dX7_who_99 : decode cX7_who 99 = .ok (.goto (-33), 3) := by decide +kernel
theorem dX7_who_102 : decode cX7_who 102 = .ok (.iconst 0, 1) := by decide +kernel
theorem dX7_who_103 : decode cX7_who 103 = .ok (.istore 5, 2) := by decide +kernel
theorem dX7_who_105 : decode cX7_who 105 = .ok (.iconst 1, 1) := by decide +kernel
theorem dX7_who_106 : decode cX7_who 106 = .ok (.istore 6, 2) := by decide +kernel
theorem dX7_who_108 : decode cX7_who 108 = .ok (.iload 6, 2) := by decide +kernel
theorem dX7_who_110 : decode cX7_who 110 = .ok (.iconst 5, 1) := by decide +kernel
theorem dX7_who_111 : decode cX7_who 111 = .ok (.if_icmp .gt 104, 3) := by decide +kernel
theorem dX7_who_114 : decode cX7_who 114 = .ok (.iconst 1, 1) := by decide +kernel
theorem dX7_who_115 : decode cX7_who 115 = .ok (.istore 7, 2) := by decide +kernel
theorem dX7_who_117 : decode cX7_who 117 = .ok (.iconst 0, 1) := by decide +kernel
theorem dX7_who_118 : decode cX7_who 118 = .ok (.istore 8, 2) := by decide +kernel
theorem dX7_who_120 : decode cX7_who 120 = .ok (.iload 8, 2) := by decide +kernel
theorem dX7_who_122 : decode cX7_who 122 = .ok (.iload 4, 2) := by decide +kernel
theorem dX7_who_124 : decode cX7_who 124 = .ok (.if_icmp .ge 67, 3) := by decide +kernel
theorem dX7_who_127 : decode cX7_who 127 = .ok (.iload 7, 2) := by decide +kernel
theorem dX7_who_129 : decode cX7_who 129 = .ok (.ifCond .eq 53, 3) := by decide +kernel
theorem dX7_who_132 : decode cX7_who 132 = .ok (.aload_n 0, 1) := by decide +kernel
theorem dX7_who_133 : decode cX7_who 133 = .ok (.iload 6, 2) := by decide +kernel
theorem dX7_who_135 : decode cX7_who 135 = .ok (.aload_n 0, 1) := by decide +kernel
theorem dX7_who_136 : decode cX7_who 136 = .ok (.getfield 25, 3) := by decide +kernel
theorem dX7_who_139 : decode cX7_who 139 = .ok (.iload_n 1, 1) := by decide +kernel
theorem dX7_who_140 : decode cX7_who 140 = .ok (.iaload, 1) := by decide +kernel
theorem dX7_who_141 : decode cX7_who 141 = .ok (.aload_n 0, 1) := by decide +kernel
theorem dX7_who_142 : decode cX7_who 142 = .ok (.iload_n 2, 1) := by decide +kernel
theorem dX7_who_143 : decode cX7_who 143 = .ok (.iload_n 3, 1) := by decide +kernel
theorem dX7_who_144 : decode cX7_who 144 = .ok (.iconst 2, 1) := by decide +kernel
theorem dX7_who_145 : decode cX7_who 145 = .ok (.iload 8, 2) := by decide +kernel
theorem dX7_who_147 : decode cX7_who 147 = .ok (.imul, 1) := by decide +kernel
theorem dX7_who_148 : decode cX7_who 148 = .ok (.iadd, 1) := by decide +kernel
theorem dX7_who_149 : decode cX7_who 149 = .ok (.invokevirtual 258, 3) := by decide +kernel
theorem dX7_who_152 : decode cX7_who 152 = .ok (.aload_n 0, 1) := by decide +kernel
theorem dX7_who_153 : decode cX7_who 153 = .ok (.getfield 31, 3) := by decide +kernel
theorem dX7_who_156 : decode cX7_who 156 = .ok (.bipush 13, 2) := by decide +kernel
theorem dX7_who_158 : decode cX7_who 158 = .ok (.iaload, 1) := by decide +kernel
theorem dX7_who_159 : decode cX7_who 159 = .ok (.invokevirtual 206, 3) := by decide +kernel
theorem dX7_who_162 : decode cX7_who 162 = .ok (.aload_n 0, 1) := by decide +kernel
theorem dX7_who_163 : decode cX7_who 163 = .ok (.iload_n 2, 1) := by decide +kernel
theorem dX7_who_164 : decode cX7_who 164 = .ok (.iload_n 3, 1) := by decide +kernel
theorem dX7_who_165 : decode cX7_who 165 = .ok (.iconst 2, 1) := by decide +kernel
theorem dX7_who_166 : decode cX7_who 166 = .ok (.iload 8, 2) := by decide +kernel
theorem dX7_who_168 : decode cX7_who 168 = .ok (.imul, 1) := by decide +kernel
theorem dX7_who_169 : decode cX7_who 169 = .ok (.iadd, 1) := by decide +kernel
theorem dX7_who_170 : decode cX7_who 170 = .ok (.iconst 1, 1) := by decide +kernel
theorem dX7_who_171 : decode cX7_who 171 = .ok (.iadd, 1) := by decide +kernel
theorem dX7_who_172 : decode cX7_who 172 = .ok (.invokevirtual 258, 3) := by decide +kernel
theorem dX7_who_175 : decode cX7_who 175 = .ok (.if_icmp .ne 7, 3) := by decide +kernel
theorem dX7_who_178 : decode cX7_who 178 = .ok (.iconst 1, 1) := by decide +kernel
theorem dX7_who_179 : decode cX7_who 179 = .ok (.goto 4, 3) := by decide +kernel
theorem dX7_who_182 : decode cX7_who 182 = .ok (.iconst 0, 1) := by decide +kernel
theorem dX7_who_183 : decode cX7_who 183 = .ok (.istore 7, 2) := by decide +kernel
theorem dX7_who_185 : decode cX7_who 185 = .ok (.iinc 8 1, 3) := by decide +kernel
theorem dX7_who_188 : decode cX7_who 188 = .ok (.goto (-68), 3) := by decide +kernel
theorem dX7_who_191 : decode cX7_who 191 = .ok (.iload 5, 2) := by decide +kernel
theorem dX7_who_193 : decode cX7_who 193 = .ok (.iload 7, 2) := by decide +kernel
theorem dX7_who_195 : decode cX7_who 195 = .ok (.ifCond .eq 10, 3) := by decide +kernel
theorem dX7_who_198 : decode cX7_who 198 = .ok (.iconst 1, 1) := by decide +kernel
theorem dX7_who_199 : decode cX7_who 199 = .ok (.iload 6, 2) := by decide +kernel
theorem dX7_who_201 : decode cX7_who 201 = .ok (.ishl, 1) := by decide +kernel
theorem dX7_who_202 : decode cX7_who 202 = .ok (.goto 4, 3) := by decide +kernel
theorem dX7_who_205 : decode cX7_who 205 = .ok (.iconst 0, 1) := by decide +kernel
theorem dX7_who_206 : decode cX7_who 206 = .ok (.ior, 1) := by decide +kernel
theorem dX7_who_207 : decode cX7_who 207 = .ok (.istore 5, 2) := by decide +kernel
theorem dX7_who_209 : decode cX7_who 209 = .ok (.iinc 6 1, 3) := by decide +kernel
theorem dX7_who_212 : decode cX7_who 212 = .ok (.goto (-104), 3) := by decide +kernel
theorem dX7_who_215 : decode cX7_who 215 = .ok (.aload_n 0, 1) := by decide +kernel
theorem dX7_who_216 : decode cX7_who 216 = .ok (.iload 5, 2) := by decide +kernel
theorem dX7_who_218 : decode cX7_who 218 = .ok (.invokevirtual 98, 3) := by decide +kernel
theorem dX7_who_221 : decode cX7_who 221 = .ok (.ireturn, 1) := by decide +kernel
theorem dX7_layer_0 : decode cX7_layer 0 = .ok (.aload_n 0, 1) := by decide +kernel
theorem dX7_layer_1 : decode cX7_layer 1 = .ok (.iload_n 1, 1) := by decide +kernel
theorem dX7_layer_2 : decode cX7_layer 2 = .ok (.invokevirtual 220, 3) := by decide +kernel
theorem dX7_layer_5 : decode cX7_layer 5 = .ok (.ifCond .ne 6, 3) := by decide +kernel
theorem dX7_layer_8 : decode cX7_layer 8 = .ok (.ldc 93, 2) := by decide +kernel
theorem dX7_layer_10 : decode cX7_layer 10 = .ok (.ireturn, 1) := by decide +kernel
theorem dX7_layer_11 : decode cX7_layer 11 = .ok (.iconst 0, 1) := by decide +kernel
theorem dX7_layer_12 : decode cX7_layer 12 = .ok (.istore_n 2, 1) := by decide +kernel
theorem dX7_layer_13 : decode cX7_layer 13 = .ok (.iload_n 2, 1) := by decide +kernel
theorem dX7_layer_14 : decode cX7_layer 14 = .ok (.iload_n 1, 1) := by decide +kernel
theorem dX7_layer_15 : decode cX7_layer 15 = .ok (.if_icmp .gt 72, 3) := by decide +kernel
theorem dX7_layer_18 : decode cX7_layer 18 = .ok (.iconst (-1), 1) := by decide +kernel
theorem dX7_layer_19 : decode cX7_layer 19 = .ok (.istore_n 3, 1) := by decide +kernel
theorem dX7_layer_20 : decode cX7_layer 20 = .ok (.iconst 0, 1) := by decide +kernel
theorem dX7_layer_21 : decode cX7_layer 21 = .ok (.istore 4, 2) := by decide +kernel
theorem dX7_layer_23 : decode cX7_layer 23 = .ok (.iload 4, 2) := by decide +kernel
theorem dX7_layer_25 : decode cX7_layer 25 = .ok (.iload_n 2, 1) := by decide +kernel
theorem dX7_layer_26 : decode cX7_layer 26 = .ok (.if_icmp .ge 46, 3) := by decide +kernel
theorem dX7_layer_29 : decode cX7_layer 29 = .ok (.aload_n 0, 1) := by decide +kernel
theorem dX7_layer_30 : decode cX7_layer 30 = .ok (.getfield 22, 3) := by decide +kernel
theorem dX7_layer_33 : decode cX7_layer 33 = .ok (.iload_n 2, 1) := by decide +kernel
theorem dX7_layer_34 : decode cX7_layer 34 = .ok (.iaload, 1) := by decide +kernel
theorem dX7_layer_35 : decode cX7_layer 35 = .ok (.iload 4, 2) := by decide +kernel
theorem dX7_layer_37 : decode cX7_layer 37 = .ok (.invokestatic 146, 3) := by decide +kernel
theorem dX7_layer_40 : decode cX7_layer 40 = .ok (.ifCond .eq 24, 3) := by decide +kernel
theorem dX7_layer_43 : decode cX7_layer 43 = .ok (.aload_n 0, 1) := by decide +kernel
theorem dX7_layer_44 : decode cX7_layer 44 = .ok (.getfield 55, 3) := by decide +kernel
theorem dX7_layer_47 : decode cX7_layer 47 = .ok (.iload 4, 2) := by decide +kernel
theorem dX7_layer_49 : decode cX7_layer 49 = .ok (.iaload, 1) := by decide +kernel
theorem dX7_layer_50 : decode cX7_layer 50 = .ok (.iload_n 3, 1) := by decide +kernel
theorem dX7_layer_51 : decode cX7_layer 51 = .ok (.if_icmp .le 13, 3) := by decide +kernel
theorem dX7_layer_54 : decode cX7_layer 54 = .ok (.aload_n 0, 1) := by decide +kernel
theorem dX7_layer_55 : decode cX7_layer 55 = .ok (.getfield 55, 3) := by decide +kernel
theorem dX7_layer_58 : decode cX7_layer 58 = .ok (.iload 4, 2) := by decide +kernel
theorem dX7_layer_60 : decode cX7_layer 60 = .ok (.iaload, 1) := by decide +kernel
theorem dX7_layer_61 : decode cX7_layer 61 = .ok (.goto 4, 3) := by decide +kernel
theorem dX7_layer_64 : decode cX7_layer 64 = .ok (.iload_n 3, 1) := by decide +kernel
theorem dX7_layer_65 : decode cX7_layer 65 = .ok (.istore_n 3, 1) := by decide +kernel
theorem dX7_layer_66 : decode cX7_layer 66 = .ok (.iinc 4 1, 3) := by decide +kernel
theorem dX7_layer_69 : decode cX7_layer 69 = .ok (.goto (-46), 3) := by decide +kernel
theorem dX7_layer_72 : decode cX7_layer 72 = .ok (.aload_n 0, 1) := by decide +kernel
theorem dX7_layer_73 : decode cX7_layer 73 = .ok (.getfield 55, 3) := by decide +kernel
theorem dX7_layer_76 : decode cX7_layer 76 = .ok (.iload_n 2, 1) := by decide +kernel
theorem dX7_layer_77 : decode cX7_layer 77 = .ok (.iload_n 3, 1) := by decide +kernel
theorem dX7_layer_78 : decode cX7_layer 78 = .ok (.iconst 1, 1) := by decide +kernel
theorem dX7_layer_79 : decode cX7_layer 79 = .ok (.iadd, 1) := by decide +kernel
theorem dX7_layer_80 : decode cX7_layer 80 = .ok (.iastore, 1) := by decide +kernel
theorem dX7_layer_81 : decode cX7_layer 81 = .ok (.iinc 2 1, 3) := by decide +kernel
theorem dX7_layer_84 : decode cX7_layer 84 = .ok (.goto (-71), 3) := by decide +kernel
theorem dX7_layer_87 : decode cX7_layer 87 = .ok (.aload_n 0, 1) := by decide +kernel
theorem dX7_layer_88 : decode cX7_layer 88 = .ok (.getfield 55, 3) := by decide +kernel
theorem dX7_layer_91 : decode cX7_layer 91 = .ok (.iload_n 1, 1) := by decide +kernel
theorem dX7_layer_92 : decode cX7_layer 92 = .ok (.iaload, 1) := by decide +kernel
theorem dX7_layer_93 : decode cX7_layer 93 = .ok (.ireturn, 1) := by decide +kernel
theorem dX7_longest_0 : decode cX7_longest 0 = .ok (.aload_n 0, 1) := by decide +kernel
theorem dX7_longest_1 : decode cX7_longest 1 = .ok (.iload_n 1, 1) := by decide +kernel
theorem dX7_longest_2 : decode cX7_longest 2 = .ok (.invokevirtual 217, 3) := by decide +kernel
theorem dX7_longest_5 : decode cX7_longest 5 = .ok (.ifCond .eq 12, 3) := by decide +kernel
theorem dX7_longest_8 : decode cX7_longest 8 = .ok (.iload_n 2, 1) := by decide +kernel
theorem dX7_longest_9 : decode cX7_longest 9 = .ok (.iconst 0, 1) := by decide +kernel
theorem dX7_longest_10 : decode cX7_longest 10 = .ok (.iconst 1, 1) := by decide +kernel
theorem dX7_longest_11 : decode cX7_longest 11 = .ok (.invokestatic 85, 3) := by decide +kernel
theorem dX7_longest_14 : decode cX7_longest 14 = .ok (.ifCond .ne 6, 3) := by decide +kernel
theorem dX7_longest_17 : decode cX7_longest 17 = .ok (.ldc 93, 2) := by decide +kernel
theorem dX7_longest_19 : decode cX7_longest 19 = .ok (.ireturn, 1) := by decide +kernel
theorem dX7_longest_20 : decode cX7_longest 20 = .ok (.iconst 0, 1) := by decide +kernel
theorem dX7_longest_21 : decode cX7_longest 21 = .ok (.istore_n 3, 1) := by decide +kernel
theorem dX7_longest_22 : decode cX7_longest 22 = .ok (.iconst (-1), 1) := by decide +kernel
theorem dX7_longest_23 : decode cX7_longest 23 = .ok (.istore 4, 2) := by decide +kernel
theorem dX7_longest_25 : decode cX7_longest 25 = .ok (.iconst 0, 1) := by decide +kernel
theorem dX7_longest_26 : decode cX7_longest 26 = .ok (.istore 5, 2) := by decide +kernel
theorem dX7_longest_28 : decode cX7_longest 28 = .ok (.iload 5, 2) := by decide +kernel
theorem dX7_longest_30 : decode cX7_longest 30 = .ok (.aload_n 0, 1) := by decide +kernel
theorem dX7_longest_31 : decode cX7_longest 31 = .ok (.getfield 177, 3) := by decide +kernel
theorem dX7_longest_34 : decode cX7_longest 34 = .ok (.if_icmp .ge 78, 3) := by decide +kernel
theorem dX7_longest_37 : decode cX7_longest 37 = .ok (.iconst 0, 1) := by decide +kernel
theorem dX7_longest_38 : decode cX7_longest 38 = .ok (.istore 6, 2) := by decide +kernel
theorem dX7_longest_40 : decode cX7_longest 40 = .ok (.iload 6, 2) := by decide +kernel
theorem dX7_longest_42 : decode cX7_longest 42 = .ok (.bipush 30, 2) := by decide +kernel
theorem dX7_longest_44 : decode cX7_longest 44 = .ok (.if_icmp .ge 32, 3) := by decide +kernel
theorem dX7_longest_47 : decode cX7_longest 47 = .ok (.aload_n 0, 1) := by decide +kernel
theorem dX7_longest_48 : decode cX7_longest 48 = .ok (.aload_n 0, 1) := by decide +kernel
theorem dX7_longest_49 : decode cX7_longest 49 = .ok (.getfield 31, 3) := by decide +kernel
theorem dX7_longest_52 : decode cX7_longest 52 = .ok (.iload_n 1, 1) := by decide +kernel
theorem dX7_longest_53 : decode cX7_longest 53 = .ok (.iload 6, 2) := by decide +kernel
theorem dX7_longest_55 : decode cX7_longest 55 = .ok (.iconst 1, 1) := by decide +kernel
theorem dX7_longest_56 : decode cX7_longest 56 = .ok (.iadd, 1) := by decide +kernel
theorem dX7_longest_57 : decode cX7_longest 57 = .ok (.invokevirtual 210, 3) := by decide +kernel
theorem dX7_longest_60 : decode cX7_longest 60 = .ok (.aload_n 0, 1) := by decide +kernel
theorem dX7_longest_61 : decode cX7_longest 61 = .ok (.getfield 31, 3) := by decide +kernel
theorem dX7_longest_64 : decode cX7_longest 64 = .ok (.iload 5, 2) := by decide +kernel
theorem dX7_longest_66 : decode cX7_longest 66 = .ok (.iaload, 1) := by decide +kernel
theorem dX7_longest_67 : decode cX7_longest 67 = .ok (.if_icmp .gt 9, 3) := by decide +kernel
theorem dX7_longest_70 : decode cX7_longest 70 = .ok (.iinc 6 1, 3) := by decide +kernel
theorem dX7_longest_73 : decode cX7_longest 73 = .ok (.goto (-33), 3) := by decide +kernel
theorem dX7_longest_76 : decode cX7_longest 76 = .ok (.iload 6, 2) := by decide +kernel
theorem dX7_longest_78 : decode cX7_longest 78 = .ok (.iload 4, 2) := by decide +kernel
theorem dX7_longest_80 : decode cX7_longest 80 = .ok (.if_icmp .le 8, 3) := by decide +kernel
theorem dX7_longest_83 : decode cX7_longest 83 = .ok (.iload 5, 2) := by decide +kernel
theorem dX7_longest_85 : decode cX7_longest 85 = .ok (.goto 4, 3) := by decide +kernel
theorem dX7_longest_88 : decode cX7_longest 88 = .ok (.iload_n 3, 1) := by decide +kernel
theorem dX7_longest_89 : decode cX7_longest 89 = .ok (.istore_n 3, 1) := by decide +kernel
theorem dX7_longest_90 : decode cX7_longest 90 = .ok (.iload 6, 2) := by decide +kernel
theorem dX7_longest_92 : decode cX7_longest 92 = .ok (.iload 4, 2) := by decide +kernel
theorem dX7_longest_94 : decode cX7_longest 94 = .ok (.if_icmp .le 8, 3) := by decide +kernel
theorem dX7_longest_97 : decode cX7_longest 97 = .ok (.iload 6, 2) := by decide +kernel
theorem dX7_longest_99 : decode cX7_longest 99 = .ok (.goto 5, 3) := by decide +kernel
theorem dX7_longest_102 : decode cX7_longest 102 = .ok (.iload 4, 2) := by decide +kernel
theorem dX7_longest_104 : decode cX7_longest 104 = .ok (.istore 4, 2) := by decide +kernel
theorem dX7_longest_106 : decode cX7_longest 106 = .ok (.iinc 5 1, 3) := by decide +kernel
theorem dX7_longest_109 : decode cX7_longest 109 = .ok (.goto (-81), 3) := by decide +kernel
theorem dX7_longest_112 : decode cX7_longest 112 = .ok (.iload_n 2, 1) := by decide +kernel
theorem dX7_longest_113 : decode cX7_longest 113 = .ok (.ifCond .ne 8, 3) := by decide +kernel
theorem dX7_longest_116 : decode cX7_longest 116 = .ok (.iload 4, 2) := by decide +kernel
theorem dX7_longest_118 : decode cX7_longest 118 = .ok (.goto 4, 3) := by decide +kernel
theorem dX7_longest_121 : decode cX7_longest 121 = .ok (.iload_n 3, 1) := by decide +kernel
theorem dX7_longest_122 : decode cX7_longest 122 = .ok (.ireturn, 1) := by decide +kernel
theorem dX7_common_0 : decode cX7_common 0 = .ok (.lload_n 0, 1) := by decide +kernel
theorem dX7_common_1 : decode cX7_common 1 = .ok (.lstore 4, 2) := by decide +kernel
theorem dX7_common_3 : decode cX7_common 3 = .ok (.lload_n 2, 1) := by decide +kernel
theorem dX7_common_4 : decode cX7_common 4 = .ok (.lstore 6, 2) := by decide +kernel
theorem dX7_common_6 : decode cX7_common 6 = .ok (.lload 6, 2) := by decide +kernel
theorem dX7_common_8 : decode cX7_common 8 = .ok (.lconst 0, 1) := by decide +kernel
theorem dX7_common_9 : decode cX7_common 9 = .ok (.lcmp, 1) := by decide +kernel
theorem dX7_common_10 : decode cX7_common 10 = .ok (.ifCond .eq 21, 3) := by decide +kernel
theorem dX7_common_13 : decode cX7_common 13 = .ok (.lload 4, 2) := by decide +kernel
theorem dX7_common_15 : decode cX7_common 15 = .ok (.lload 6, 2) := by decide +kernel
theorem dX7_common_17 : decode cX7_common 17 = .ok (.lrem, 1) := by decide +kernel
theorem dX7_common_18 : decode cX7_common 18 = .ok (.lstore 8, 2) := by decide +kernel
theorem dX7_common_20 : decode cX7_common 20 = .ok (.lload 6, 2) := by decide +kernel
theorem dX7_common_22 : decode cX7_common 22 = .ok (.lstore 4, 2) := by decide +kernel
theorem dX7_common_24 : decode cX7_common 24 = .ok (.lload 8, 2) := by decide +kernel
theorem dX7_common_26 : decode cX7_common 26 = .ok (.lstore 6, 2) := by decide +kernel
theorem dX7_common_28 : decode cX7_common 28 = .ok (.goto (-22), 3) := by decide +kernel
theorem dX7_common_31 : decode cX7_common 31 = .ok (.lload 4, 2) := by decide +kernel
theorem dX7_common_33 : decode cX7_common 33 = .ok (.lreturn, 1) := by decide +kernel
theorem dX7_rains_0 : decode cX7_rains 0 = .ok (.aload_n 0, 1) := by decide +kernel
theorem dX7_rains_1 : decode cX7_rains 1 = .ok (.iload_n 1, 1) := by decide +kernel
theorem dX7_rains_2 : decode cX7_rains 2 = .ok (.invokevirtual 220, 3) := by decide +kernel
theorem dX7_rains_5 : decode cX7_rains 5 = .ok (.ifCond .eq 22, 3) := by decide +kernel
theorem dX7_rains_8 : decode cX7_rains 8 = .ok (.iload_n 2, 1) := by decide +kernel
theorem dX7_rains_9 : decode cX7_rains 9 = .ok (.iconst 0, 1) := by decide +kernel
theorem dX7_rains_10 : decode cX7_rains 10 = .ok (.bipush 10, 2) := by decide +kernel
theorem dX7_rains_12 : decode cX7_rains 12 = .ok (.invokestatic 85, 3) := by decide +kernel
theorem dX7_rains_15 : decode cX7_rains 15 = .ok (.ifCond .eq 12, 3) := by decide +kernel
theorem dX7_rains_18 : decode cX7_rains 18 = .ok (.iload_n 3, 1) := by decide +kernel
theorem dX7_rains_19 : decode cX7_rains 19 = .ok (.iconst 0, 1) := by decide +kernel
theorem dX7_rains_20 : decode cX7_rains 20 = .ok (.iconst 1, 1) := by decide +kernel
theorem dX7_rains_21 : decode cX7_rains 21 = .ok (.invokestatic 85, 3) := by decide +kernel
theorem dX7_rains_24 : decode cX7_rains 24 = .ok (.ifCond .ne 7, 3) := by decide +kernel
theorem dX7_rains_27 : decode cX7_rains 27 = .ok (.ldc2_w 268, 3) := by decide +kernel
theorem dX7_rains_30 : decode cX7_rains 30 = .ok (.lreturn, 1) := by decide +kernel
theorem dX7_rains_31 : decode cX7_rains 31 = .ok (.lconst 0, 1) := by decide +kernel
theorem dX7_rains_32 : decode cX7_rains 32 = .ok (.lstore 4, 2) := by decide +kernel
theorem dX7_rains_34 : decode cX7_rains 34 = .ok (.lconst 1, 1) := by decide +kernel
theorem dX7_rains_35 : decode cX7_rains 35 = .ok (.lstore 6, 2) := by decide +kernel
theorem dX7_rains_37 : decode cX7_rains 37 = .ok (.iconst 0, 1) := by decide +kernel
theorem dX7_rains_38 : decode cX7_rains 38 = .ok (.istore 8, 2) := by decide +kernel
theorem dX7_rains_40 : decode cX7_rains 40 = .ok (.iload 8, 2) := by decide +kernel
theorem dX7_rains_42 : decode cX7_rains 42 = .ok (.aload_n 0, 1) := by decide +kernel
theorem dX7_rains_43 : decode cX7_rains 43 = .ok (.getfield 177, 3) := by decide +kernel
theorem dX7_rains_46 : decode cX7_rains 46 = .ok (.if_icmp .ge 17, 3) := by decide +kernel
theorem dX7_rains_49 : decode cX7_rains 49 = .ok (.lload 6, 2) := by decide +kernel
theorem dX7_rains_51 : decode cX7_rains 51 = .ok (.ldc2_w 270, 3) := by decide +kernel
theorem dX7_rains_54 : decode cX7_rains 54 = .ok (.lmul, 1) := by decide +kernel
theorem dX7_rains_55 : decode cX7_rains 55 = .ok (.lstore 6, 2) := by decide +kernel
theorem dX7_rains_57 : decode cX7_rains 57 = .ok (.iinc 8 1, 3) := by decide +kernel
theorem dX7_rains_60 : decode cX7_rains 60 = .ok (.goto (-20), 3) := by decide +kernel
theorem dX7_rains_63 : decode cX7_rains 63 = .ok (.iconst 0, 1) := by decide +kernel
theorem dX7_rains_64 : decode cX7_rains 64 = .ok (.istore 8, 2) := by decide +kernel
theorem dX7_rains_66 : decode cX7_rains 66 = .ok (.iload 8, 2) := by decide +kernel
theorem dX7_rains_68 : decode cX7_rains 68 = .ok (.iconst 1, 1) := by decide +kernel
theorem dX7_rains_69 : decode cX7_rains 69 = .ok (.aload_n 0, 1) := by decide +kernel
theorem dX7_rains_70 : decode cX7_rains 70 = .ok (.getfield 177, 3) := by decide +kernel
theorem dX7_rains_73 : decode cX7_rains 73 = .ok (.ishl, 1) := by decide +kernel
theorem dX7_rains_74 : decode cX7_rains 74 = .ok (.if_icmp .ge 79, 3) := by decide +kernel
theorem dX7_rains_77 : decode cX7_rains 77 = .ok (.lconst 1, 1) := by decide +kernel
theorem dX7_rains_78 : decode cX7_rains 78 = .ok (.lstore 9, 2) := by decide +kernel
theorem dX7_rains_80 : decode cX7_rains 80 = .ok (.iconst 0, 1) := by decide +kernel
theorem dX7_rains_81 : decode cX7_rains 81 = .ok (.istore 11, 2) := by decide +kernel
theorem dX7_rains_83 : decode cX7_rains 83 = .ok (.iload 11, 2) := by decide +kernel
theorem dX7_rains_85 : decode cX7_rains 85 = .ok (.aload_n 0, 1) := by decide +kernel
theorem dX7_rains_86 : decode cX7_rains 86 = .ok (.getfield 177, 3) := by decide +kernel
theorem dX7_rains_89 : decode cX7_rains 89 = .ok (.if_icmp .ge 34, 3) := by decide +kernel
theorem dX7_rains_92 : decode cX7_rains 92 = .ok (.lload 9, 2) := by decide +kernel
theorem dX7_rains_94 : decode cX7_rains 94 = .ok (.iload 8, 2) := by decide +kernel
theorem dX7_rains_96 : decode cX7_rains 96 = .ok (.iload 11, 2) := by decide +kernel
theorem dX7_rains_98 : decode cX7_rains 98 = .ok (.invokestatic 146, 3) := by decide +kernel
theorem dX7_rains_101 : decode cX7_rains 101 = .ok (.ifCond .eq 8, 3) := by decide +kernel
theorem dX7_rains_104 : decode cX7_rains 104 = .ok (.iload_n 2, 1) := by decide +kernel
theorem dX7_rains_105 : decode cX7_rains 105 = .ok (.i2l, 1) := by decide +kernel
theorem dX7_rains_106 : decode cX7_rains 106 = .ok (.goto 8, 3) := by decide +kernel
theorem dX7_rains_109 : decode cX7_rains 109 = .ok (.bipush 10, 2) := by decide +kernel
theorem dX7_rains_111 : decode cX7_rains 111 = .ok (.iload_n 2, 1) := by decide +kernel
theorem dX7_rains_112 : decode cX7_rains 112 = .ok (.isub, 1) := by decide +kernel
theorem dX7_rains_113 : decode cX7_rains 113 = .ok (.i2l, 1) := by decide +kernel
theorem dX7_rains_114 : decode cX7_rains 114 = .ok (.lmul, 1) := by decide +kernel
theorem dX7_rains_115 : decode cX7_rains 115 = .ok (.lstore 9, 2) := by decide +kernel
theorem dX7_rains_117 : decode cX7_rains 117 = .ok (.iinc 11 1, 3) := by decide +kernel
theorem dX7_rains_120 : decode cX7_rains 120 = .ok (.goto (-37), 3) := by decide +kernel
theorem dX7_rains_123 : decode cX7_rains 123 = .ok (.lload 4, 2) := by decide +kernel
theorem dX7_rains_125 : decode cX7_rains 125 = .ok (.aload_n 0, 1) := by decide +kernel
theorem dX7_rains_126 : decode cX7_rains 126 = .ok (.iload 8, 2) := by decide +kernel
theorem dX7_rains_128 : decode cX7_rains 128 = .ok (.invokevirtual 249, 3) := by decide +kernel
theorem dX7_rains_131 : decode cX7_rains 131 = .ok (.iload_n 1, 1) := by decide +kernel
theorem dX7_rains_132 : decode cX7_rains 132 = .ok (.invokestatic 146, 3) := by decide +kernel
theorem dX7_rains_135 : decode cX7_rains 135 = .ok (.ifCond .eq 8, 3) := by decide +kernel
theorem dX7_rains_138 : decode cX7_rains 138 = .ok (.lload 9, 2) := by decide +kernel
theorem dX7_rains_140 : decode cX7_rains 140 = .ok (.goto 4, 3) := by decide +kernel
theorem dX7_rains_143 : decode cX7_rains 143 = .ok (.lconst 0, 1) := by decide +kernel
theorem dX7_rains_144 : decode cX7_rains 144 = .ok (.ladd, 1) := by decide +kernel
theorem dX7_rains_145 : decode cX7_rains 145 = .ok (.lstore 4, 2) := by decide +kernel
theorem dX7_rains_147 : decode cX7_rains 147 = .ok (.iinc 8 1, 3) := by decide +kernel
theorem dX7_rains_150 : decode cX7_rains 150 = .ok (.goto (-84), 3) := by decide +kernel
theorem dX7_rains_153 : decode cX7_rains 153 = .ok (.lload 4, 2) := by decide +kernel
theorem dX7_rains_155 : decode cX7_rains 155 = .ok (.lload 6, 2) := by decide +kernel
theorem dX7_rains_157 : decode cX7_rains 157 = .ok (.invokestatic 272, 3) := by decide +kernel
theorem dX7_rains_160 : decode cX7_rains 160 = .ok (.lstore 8, 2) := by decide +kernel
theorem dX7_rains_162 : decode cX7_rains 162 = .ok (.iload_n 3, 1) := by decide +kernel
theorem dX7_rains_163 : decode cX7_rains 163 = .ok (.ifCond .ne 11, 3) := by decide +kernel
theorem dX7_rains_166 : decode cX7_rains 166 = .ok (.lload 4, 2) := by decide +kernel
theorem dX7_rains_168 : decode cX7_rains 168 = .ok (.lload 8, 2) := by decide +kernel
theorem dX7_rains_170 : decode cX7_rains 170 = .ok (.ldiv, 1) := by decide +kernel
theorem dX7_rains_171 : decode cX7_rains 171 = .ok (.goto 8, 3) := by decide +kernel
theorem dX7_rains_174 : decode cX7_rains 174 = .ok (.lload 6, 2) := by decide +kernel
theorem dX7_rains_176 : decode cX7_rains 176 = .ok (.lload 8, 2) := by decide +kernel
theorem dX7_rains_178 : decode cX7_rains 178 = .ok (.ldiv, 1) := by decide +kernel
theorem dX7_rains_179 : decode cX7_rains 179 = .ok (.lreturn, 1) := by decide +kernel
theorem dX7_share_0 : decode cX7_share 0 = .ok (.aload_n 0, 1) := by decide +kernel
theorem dX7_share_1 : decode cX7_share 1 = .ok (.iload_n 1, 1) := by decide +kernel
theorem dX7_share_2 : decode cX7_share 2 = .ok (.invokevirtual 217, 3) := by decide +kernel
theorem dX7_share_5 : decode cX7_share 5 = .ok (.ifCond .eq 12, 3) := by decide +kernel
theorem dX7_share_8 : decode cX7_share 8 = .ok (.iload_n 2, 1) := by decide +kernel
theorem dX7_share_9 : decode cX7_share 9 = .ok (.iconst 0, 1) := by decide +kernel
theorem dX7_share_10 : decode cX7_share 10 = .ok (.iconst 1, 1) := by decide +kernel
theorem dX7_share_11 : decode cX7_share 11 = .ok (.invokestatic 85, 3) := by decide +kernel
theorem dX7_share_14 : decode cX7_share 14 = .ok (.ifCond .ne 6, 3) := by decide +kernel
theorem dX7_share_17 : decode cX7_share 17 = .ok (.ldc 93, 2) := by decide +kernel
theorem dX7_share_19 : decode cX7_share 19 = .ok (.ireturn, 1) := by decide +kernel
theorem dX7_share_20 : decode cX7_share 20 = .ok (.aload_n 0, 1) := by decide +kernel
theorem dX7_share_21 : decode cX7_share 21 = .ok (.invokevirtual 240, 3) := by decide +kernel
theorem dX7_share_24 : decode cX7_share 24 = .ok (.istore_n 3, 1) := by decide +kernel
theorem dX7_share_25 : decode cX7_share 25 = .ok (.aload_n 0, 1) := by decide +kernel
theorem dX7_share_26 : decode cX7_share 26 = .ok (.getfield 31, 3) := by decide +kernel
theorem dX7_share_29 : decode cX7_share 29 = .ok (.bipush 8, 2) := by decide +kernel
theorem dX7_share_31 : decode cX7_share 31 = .ok (.iload_n 1, 1) := by decide +kernel
theorem dX7_share_32 : decode cX7_share 32 = .ok (.iadd, 1) := by decide +kernel
theorem dX7_share_33 : decode cX7_share 33 = .ok (.iaload, 1) := by decide +kernel
theorem dX7_share_34 : decode cX7_share 34 = .ok (.istore 4, 2) := by decide +kernel
theorem dX7_share_36 : decode cX7_share 36 = .ok (.iload_n 3, 1) := by decide +kernel
theorem dX7_share_37 : decode cX7_share 37 = .ok (.ifCond .ne 7, 3) := by decide +kernel
theorem dX7_share_40 : decode cX7_share 40 = .ok (.iconst 1, 1) := by decide +kernel
theorem dX7_share_41 : decode cX7_share 41 = .ok (.goto 12, 3) := by decide +kernel
theorem dX7_share_44 : decode cX7_share 44 = .ok (.iload 4, 2) := by decide +kernel
theorem dX7_share_46 : decode cX7_share 46 = .ok (.i2l, 1) := by decide +kernel
theorem dX7_share_47 : decode cX7_share 47 = .ok (.iload_n 3, 1) := by decide +kernel
theorem dX7_share_48 : decode cX7_share 48 = .ok (.i2l, 1) := by decide +kernel
theorem dX7_share_49 : decode cX7_share 49 = .ok (.invokestatic 272, 3) := by decide +kernel
theorem dX7_share_52 : decode cX7_share 52 = .ok (.l2i, 1) := by decide +kernel
theorem dX7_share_53 : decode cX7_share 53 = .ok (.istore 5, 2) := by decide +kernel
theorem dX7_share_55 : decode cX7_share 55 = .ok (.iload_n 2, 1) := by decide +kernel
theorem dX7_share_56 : decode cX7_share 56 = .ok (.ifCond .ne 11, 3) := by decide +kernel
theorem dX7_share_59 : decode cX7_share 59 = .ok (.iload 4, 2) := by decide +kernel
theorem dX7_share_61 : decode cX7_share 61 = .ok (.iload 5, 2) := by decide +kernel
theorem dX7_share_63 : decode cX7_share 63 = .ok (.idiv, 1) := by decide +kernel
theorem dX7_share_64 : decode cX7_share 64 = .ok (.goto 15, 3) := by decide +kernel
theorem dX7_share_67 : decode cX7_share 67 = .ok (.iload_n 3, 1) := by decide +kernel
theorem dX7_share_68 : decode cX7_share 68 = .ok (.ifCond .ne 7, 3) := by decide +kernel
theorem dX7_share_71 : decode cX7_share 71 = .ok (.iconst 1, 1) := by decide +kernel
theorem dX7_share_72 : decode cX7_share 72 = .ok (.goto 7, 3) := by decide +kernel
theorem dX7_share_75 : decode cX7_share 75 = .ok (.iload_n 3, 1) := by decide +kernel
theorem dX7_share_76 : decode cX7_share 76 = .ok (.iload 5, 2) := by decide +kernel
theorem dX7_share_78 : decode cX7_share 78 = .ok (.idiv, 1) := by decide +kernel
theorem dX7_share_79 : decode cX7_share 79 = .ok (.ireturn, 1) := by decide +kernel
theorem dX7_drawn_0 : decode cX7_drawn 0 = .ok (.aload_n 0, 1) := by decide +kernel
theorem dX7_drawn_1 : decode cX7_drawn 1 = .ok (.getfield 177, 3) := by decide +kernel
theorem dX7_drawn_4 : decode cX7_drawn 4 = .ok (.ifCond .ne 6, 3) := by decide +kernel
theorem dX7_drawn_7 : decode cX7_drawn 7 = .ok (.ldc 201, 2) := by decide +kernel
theorem dX7_drawn_9 : decode cX7_drawn 9 = .ok (.ireturn, 1) := by decide +kernel
theorem dX7_drawn_10 : decode cX7_drawn 10 = .ok (.iload_n 1, 1) := by decide +kernel
theorem dX7_drawn_11 : decode cX7_drawn 11 = .ok (.iconst 0, 1) := by decide +kernel
theorem dX7_drawn_12 : decode cX7_drawn 12 = .ok (.bipush 60, 2) := by decide +kernel
theorem dX7_drawn_14 : decode cX7_drawn 14 = .ok (.invokestatic 85, 3) := by decide +kernel
theorem dX7_drawn_17 : decode cX7_drawn 17 = .ok (.ifCond .eq 23, 3) := by decide +kernel
theorem dX7_drawn_20 : decode cX7_drawn 20 = .ok (.iload_n 2, 1) := by decide +kernel
theorem dX7_drawn_21 : decode cX7_drawn 21 = .ok (.iconst 1, 1) := by decide +kernel
theorem dX7_drawn_22 : decode cX7_drawn 22 = .ok (.ldc_w 276, 3) := by decide +kernel
theorem dX7_drawn_25 : decode cX7_drawn 25 = .ok (.invokestatic 85, 3) := by decide +kernel
theorem dX7_drawn_28 : decode cX7_drawn 28 = .ok (.ifCond .eq 12, 3) := by decide +kernel
theorem dX7_drawn_31 : decode cX7_drawn 31 = .ok (.iload_n 3, 1) := by decide +kernel
theorem dX7_drawn_32 : decode cX7_drawn 32 = .ok (.iconst 0, 1) := by decide +kernel
theorem dX7_drawn_33 : decode cX7_drawn 33 = .ok (.iconst 1, 1) := by decide +kernel
theorem dX7_drawn_34 : decode cX7_drawn 34 = .ok (.invokestatic 85, 3) := by decide +kernel
theorem dX7_drawn_37 : decode cX7_drawn 37 = .ok (.ifCond .ne 6, 3) := by decide +kernel
theorem dX7_drawn_40 : decode cX7_drawn 40 = .ok (.ldc 93, 2) := by decide +kernel
theorem dX7_drawn_42 : decode cX7_drawn 42 = .ok (.ireturn, 1) := by decide +kernel
theorem dX7_drawn_43 : decode cX7_drawn 43 = .ok (.aload_n 0, 1) := by decide +kernel
theorem dX7_drawn_44 : decode cX7_drawn 44 = .ok (.invokevirtual 243, 3) := by decide +kernel
theorem dX7_drawn_47 : decode cX7_drawn 47 = .ok (.iload_n 2, 1) := by decide +kernel
theorem dX7_drawn_48 : decode cX7_drawn 48 = .ok (.i2l, 1) := by decide +kernel
theorem dX7_drawn_49 : decode cX7_drawn 49 = .ok (.lstore 4, 2) := by decide +kernel
theorem dX7_drawn_51 : decode cX7_drawn 51 = .ok (.iconst 0, 1) := by decide +kernel
theorem dX7_drawn_52 : decode cX7_drawn 52 = .ok (.istore 6, 2) := by decide +kernel
theorem dX7_drawn_54 : decode cX7_drawn 54 = .ok (.iload 6, 2) := by decide +kernel
theorem dX7_drawn_56 : decode cX7_drawn 56 = .ok (.iload_n 1, 1) := by decide +kernel
theorem dX7_drawn_57 : decode cX7_drawn 57 = .ok (.if_icmp .ge 94, 3) := by decide +kernel
theorem dX7_drawn_60 : decode cX7_drawn 60 = .ok (.lload 4, 2) := by decide +kernel
theorem dX7_drawn_62 : decode cX7_drawn 62 = .ok (.ldc2_w 277, 3) := by decide +kernel
theorem dX7_drawn_65 : decode cX7_drawn 65 = .ok (.lmul, 1) := by decide +kernel
theorem dX7_drawn_66 : decode cX7_drawn 66 = .ok (.ldc2_w 279, 3) := by decide +kernel
theorem dX7_drawn_69 : decode cX7_drawn 69 = .ok (.lrem, 1) := by decide +kernel
theorem dX7_drawn_70 : decode cX7_drawn 70 = .ok (.lstore 4, 2) := by decide +kernel
theorem dX7_drawn_72 : decode cX7_drawn 72 = .ok (.aload_n 0, 1) := by decide +kernel
theorem dX7_drawn_73 : decode cX7_drawn 73 = .ok (.getfield 183, 3) := by decide +kernel
theorem dX7_drawn_76 : decode cX7_drawn 76 = .ok (.ifCond .le 39, 3) := by decide +kernel
theorem dX7_drawn_79 : decode cX7_drawn 79 = .ok (.aload_n 0, 1) := by decide +kernel
theorem dX7_drawn_80 : decode cX7_drawn 80 = .ok (.aload_n 0, 1) := by decide +kernel
theorem dX7_drawn_81 : decode cX7_drawn 81 = .ok (.getfield 34, 3) := by decide +kernel
theorem dX7_drawn_84 : decode cX7_drawn 84 = .ok (.lload 4, 2) := by decide +kernel
theorem dX7_drawn_86 : decode cX7_drawn 86 = .ok (.aload_n 0, 1) := by decide +kernel
theorem dX7_drawn_87 : decode cX7_drawn 87 = .ok (.getfield 183, 3) := by decide +kernel
theorem dX7_drawn_90 : decode cX7_drawn 90 = .ok (.i2l, 1) := by decide +kernel
theorem dX7_drawn_91 : decode cX7_drawn 91 = .ok (.lrem, 1) := by decide +kernel
theorem dX7_drawn_92 : decode cX7_drawn 92 = .ok (.l2i, 1) := by decide +kernel
theorem dX7_drawn_93 : decode cX7_drawn 93 = .ok (.lload 4, 2) := by decide +kernel
theorem dX7_drawn_95 : decode cX7_drawn 95 = .ok (.ldc2_w 281, 3) := by decide +kernel
theorem dX7_drawn_98 : decode cX7_drawn 98 = .ok (.lrem, 1) := by decide +kernel
theorem dX7_drawn_99 : decode cX7_drawn 99 = .ok (.l2i, 1) := by decide +kernel
theorem dX7_drawn_100 : decode cX7_drawn 100 = .ok (.iconst 1, 1) := by decide +kernel
theorem dX7_drawn_101 : decode cX7_drawn 101 = .ok (.iadd, 1) := by decide +kernel
theorem dX7_drawn_102 : decode cX7_drawn 102 = .ok (.lload 4, 2) := by decide +kernel
theorem dX7_drawn_104 : decode cX7_drawn 104 = .ok (.aload_n 0, 1) := by decide +kernel
theorem dX7_drawn_105 : decode cX7_drawn 105 = .ok (.getfield 177, 3) := by decide +kernel
theorem dX7_drawn_108 : decode cX7_drawn 108 = .ok (.i2l, 1) := by decide +kernel
theorem dX7_drawn_109 : decode cX7_drawn 109 = .ok (.lrem, 1) := by decide +kernel
theorem dX7_drawn_110 : decode cX7_drawn 110 = .ok (.l2i, 1) := by decide +kernel
theorem dX7_drawn_111 : decode cX7_drawn 111 = .ok (.invokevirtual 226, 3) := by decide +kernel
theorem dX7_drawn_114 : decode cX7_drawn 114 = .ok (.pop, 1) := by decide +kernel
theorem dX7_drawn_115 : decode cX7_drawn 115 = .ok (.lload 4, 2) := by decide +kernel
theorem dX7_drawn_117 : decode cX7_drawn 117 = .ok (.ldc2_w 283, 3) := by decide +kernel
theorem dX7_drawn_120 : decode cX7_drawn 120 = .ok (.lrem, 1) := by decide +kernel
theorem dX7_drawn_121 : decode cX7_drawn 121 = .ok (.lconst 0, 1) := by decide +kernel
theorem dX7_drawn_122 : decode cX7_drawn 122 = .ok (.lcmp, 1) := by decide +kernel
theorem dX7_drawn_123 : decode cX7_drawn 123 = .ok (.ifCond .ne 11, 3) := by decide +kernel
theorem dX7_drawn_126 : decode cX7_drawn 126 = .ok (.aload_n 0, 1) := by decide +kernel
theorem dX7_drawn_127 : decode cX7_drawn 127 = .ok (.aload_n 0, 1) := by decide +kernel
theorem dX7_drawn_128 : decode cX7_drawn 128 = .ok (.getfield 34, 3) := by decide +kernel
theorem dX7_drawn_131 : decode cX7_drawn 131 = .ok (.invokevirtual 230, 3) := by decide +kernel
theorem dX7_drawn_134 : decode cX7_drawn 134 = .ok (.aload_n 0, 1) := by decide +kernel
theorem dX7_drawn_135 : decode cX7_drawn 135 = .ok (.getfield 34, 3) := by decide +kernel
theorem dX7_drawn_138 : decode cX7_drawn 138 = .ok (.bipush 13, 2) := by decide +kernel
theorem dX7_drawn_140 : decode cX7_drawn 140 = .ok (.dup2, 1) := by decide +kernel
theorem dX7_drawn_141 : decode cX7_drawn 141 = .ok (.iaload, 1) := by decide +kernel
theorem dX7_drawn_142 : decode cX7_drawn 142 = .ok (.iconst 1, 1) := by decide +kernel
theorem dX7_drawn_143 : decode cX7_drawn 143 = .ok (.iadd, 1) := by decide +kernel
theorem dX7_drawn_144 : decode cX7_drawn 144 = .ok (.iastore, 1) := by decide +kernel
theorem dX7_drawn_145 : decode cX7_drawn 145 = .ok (.iinc 6 1, 3) := by decide +kernel
theorem dX7_drawn_148 : decode cX7_drawn 148 = .ok (.goto (-94), 3) := by decide +kernel
theorem dX7_drawn_151 : decode cX7_drawn 151 = .ok (.iload_n 3, 1) := by decide +kernel
theorem dX7_drawn_152 : decode cX7_drawn 152 = .ok (.ifCond .ne 14, 3) := by decide +kernel
theorem dX7_drawn_155 : decode cX7_drawn 155 = .ok (.aload_n 0, 1) := by decide +kernel
theorem dX7_drawn_156 : decode cX7_drawn 156 = .ok (.aload_n 0, 1) := by decide +kernel
theorem dX7_drawn_157 : decode cX7_drawn 157 = .ok (.getfield 34, 3) := by decide +kernel
theorem dX7_drawn_160 : decode cX7_drawn 160 = .ok (.invokevirtual 202, 3) := by decide +kernel
theorem dX7_drawn_163 : decode cX7_drawn 163 = .ok (.goto 18, 3) := by decide +kernel
theorem dX7_drawn_166 : decode cX7_drawn 166 = .ok (.aload_n 0, 1) := by decide +kernel
theorem dX7_drawn_167 : decode cX7_drawn 167 = .ok (.getfield 34, 3) := by decide +kernel
theorem dX7_drawn_170 : decode cX7_drawn 170 = .ok (.bipush 12, 2) := by decide +kernel
theorem dX7_drawn_172 : decode cX7_drawn 172 = .ok (.iaload, 1) := by decide +kernel
theorem dX7_drawn_173 : decode cX7_drawn 173 = .ok (.aload_n 0, 1) := by decide +kernel
theorem dX7_drawn_174 : decode cX7_drawn 174 = .ok (.getfield 31, 3) := by decide +kernel
theorem dX7_drawn_177 : decode cX7_drawn 177 = .ok (.bipush 12, 2) := by decide +kernel
theorem dX7_drawn_179 : decode cX7_drawn 179 = .ok (.iaload, 1) := by decide +kernel
theorem dX7_drawn_180 : decode cX7_drawn 180 = .ok (.isub, 1) := by decide +kernel
theorem dX7_drawn_181 : decode cX7_drawn 181 = .ok (.ireturn, 1) := by decide +kernel
theorem dX7_image_0 : decode cX7_image 0 = .ok (.iload_n 1, 1) := by decide +kernel
theorem dX7_image_1 : decode cX7_image 1 = .ok (.iconst 0, 1) := by decide +kernel
theorem dX7_image_2 : decode cX7_image 2 = .ok (.iconst 1, 1) := by decide +kernel
theorem dX7_image_3 : decode cX7_image 3 = .ok (.invokestatic 85, 3) := by decide +kernel
theorem dX7_image_6 : decode cX7_image 6 = .ok (.ifCond .ne 6, 3) := by decide +kernel
theorem dX7_image_9 : decode cX7_image 9 = .ok (.ldc 93, 2) := by decide +kernel
theorem dX7_image_11 : decode cX7_image 11 = .ok (.ireturn, 1) := by decide +kernel
theorem dX7_image_12 : decode cX7_image 12 = .ok (.aload_n 0, 1) := by decide +kernel
theorem dX7_image_13 : decode cX7_image 13 = .ok (.getfield 177, 3) := by decide +kernel
theorem dX7_image_16 : decode cX7_image 16 = .ok (.ifCond .ne 6, 3) := by decide +kernel
theorem dX7_image_19 : decode cX7_image 19 = .ok (.ldc 201, 2) := by decide +kernel
theorem dX7_image_21 : decode cX7_image 21 = .ok (.ireturn, 1) := by decide +kernel
theorem dX7_image_22 : decode cX7_image 22 = .ok (.aload_n 0, 1) := by decide +kernel
theorem dX7_image_23 : decode cX7_image 23 = .ok (.getfield 58, 3) := by decide +kernel
theorem dX7_image_26 : decode cX7_image 26 = .ok (.iload_n 1, 1) := by decide +kernel
theorem dX7_image_27 : decode cX7_image 27 = .ok (.iconst 1, 1) := by decide +kernel
theorem dX7_image_28 : decode cX7_image 28 = .ok (.bastore, 1) := by decide +kernel
theorem dX7_image_29 : decode cX7_image 29 = .ok (.aload_n 0, 1) := by decide +kernel
theorem dX7_image_30 : decode cX7_image 30 = .ok (.getfield 62, 3) := by decide +kernel
theorem dX7_image_33 : decode cX7_image 33 = .ok (.iconst 5, 1) := by decide +kernel
theorem dX7_image_34 : decode cX7_image 34 = .ok (.iload_n 1, 1) := by decide +kernel
theorem dX7_image_35 : decode cX7_image 35 = .ok (.imul, 1) := by decide +kernel
theorem dX7_image_36 : decode cX7_image 36 = .ok (.aload_n 0, 1) := by decide +kernel
theorem dX7_image_37 : decode cX7_image 37 = .ok (.getfield 177, 3) := by decide +kernel
theorem dX7_image_40 : decode cX7_image 40 = .ok (.iastore, 1) := by decide +kernel
theorem dX7_image_41 : decode cX7_image 41 = .ok (.aload_n 0, 1) := by decide +kernel
theorem dX7_image_42 : decode cX7_image 42 = .ok (.getfield 62, 3) := by decide +kernel
theorem dX7_image_45 : decode cX7_image 45 = .ok (.iconst 5, 1) := by decide +kernel
theorem dX7_image_46 : decode cX7_image 46 = .ok (.iload_n 1, 1) := by decide +kernel
theorem dX7_image_47 : decode cX7_image 47 = .ok (.imul, 1) := by decide +kernel
theorem dX7_image_48 : decode cX7_image 48 = .ok (.iconst 1, 1) := by decide +kernel
theorem dX7_image_49 : decode cX7_image 49 = .ok (.iadd, 1) := by decide +kernel
theorem dX7_image_50 : decode cX7_image 50 = .ok (.aload_n 0, 1) := by decide +kernel
theorem dX7_image_51 : decode cX7_image 51 = .ok (.getfield 180, 3) := by decide +kernel
theorem dX7_image_54 : decode cX7_image 54 = .ok (.iastore, 1) := by decide +kernel
theorem dX7_image_55 : decode cX7_image 55 = .ok (.aload_n 0, 1) := by decide +kernel
theorem dX7_image_56 : decode cX7_image 56 = .ok (.getfield 62, 3) := by decide +kernel
theorem dX7_image_59 : decode cX7_image 59 = .ok (.iconst 5, 1) := by decide +kernel
theorem dX7_image_60 : decode cX7_image 60 = .ok (.iload_n 1, 1) := by decide +kernel
theorem dX7_image_61 : decode cX7_image 61 = .ok (.imul, 1) := by decide +kernel
theorem dX7_image_62 : decode cX7_image 62 = .ok (.iconst 2, 1) := by decide +kernel
theorem dX7_image_63 : decode cX7_image 63 = .ok (.iadd, 1) := by decide +kernel
theorem dX7_image_64 : decode cX7_image 64 = .ok (.aload_n 0, 1) := by decide +kernel
theorem dX7_image_65 : decode cX7_image 65 = .ok (.getfield 183, 3) := by decide +kernel
theorem dX7_image_68 : decode cX7_image 68 = .ok (.iastore, 1) := by decide +kernel
theorem dX7_image_69 : decode cX7_image 69 = .ok (.aload_n 0, 1) := by decide +kernel
theorem dX7_image_70 : decode cX7_image 70 = .ok (.getfield 62, 3) := by decide +kernel
theorem dX7_image_73 : decode cX7_image 73 = .ok (.iconst 5, 1) := by decide +kernel
theorem dX7_image_74 : decode cX7_image 74 = .ok (.iload_n 1, 1) := by decide +kernel
theorem dX7_image_75 : decode cX7_image 75 = .ok (.imul, 1) := by decide +kernel
theorem dX7_image_76 : decode cX7_image 76 = .ok (.iconst 3, 1) := by decide +kernel
theorem dX7_image_77 : decode cX7_image 77 = .ok (.iadd, 1) := by decide +kernel
theorem dX7_image_78 : decode cX7_image 78 = .ok (.aload_n 0, 1) := by decide +kernel
theorem dX7_image_79 : decode cX7_image 79 = .ok (.getfield 186, 3) := by decide +kernel
theorem dX7_image_82 : decode cX7_image 82 = .ok (.iastore, 1) := by decide +kernel
theorem dX7_image_83 : decode cX7_image 83 = .ok (.aload_n 0, 1) := by decide +kernel
theorem dX7_image_84 : decode cX7_image 84 = .ok (.getfield 62, 3) := by decide +kernel
theorem dX7_image_87 : decode cX7_image 87 = .ok (.iconst 5, 1) := by decide +kernel
theorem dX7_image_88 : decode cX7_image 88 = .ok (.iload_n 1, 1) := by decide +kernel
theorem dX7_image_89 : decode cX7_image 89 = .ok (.imul, 1) := by decide +kernel
theorem dX7_image_90 : decode cX7_image 90 = .ok (.iconst 4, 1) := by decide +kernel
theorem dX7_image_91 : decode cX7_image 91 = .ok (.iadd, 1) := by decide +kernel
theorem dX7_image_92 : decode cX7_image 92 = .ok (.aload_n 0, 1) := by decide +kernel
theorem dX7_image_93 : decode cX7_image 93 = .ok (.getfield 189, 3) := by decide +kernel
theorem dX7_image_96 : decode cX7_image 96 = .ok (.iastore, 1) := by decide +kernel
theorem dX7_image_97 : decode cX7_image 97 = .ok (.iconst 0, 1) := by decide +kernel
theorem dX7_image_98 : decode cX7_image 98 = .ok (.istore_n 2, 1) := by decide +kernel
theorem dX7_image_99 : decode cX7_image 99 = .ok (.iload_n 2, 1) := by decide +kernel
theorem dX7_image_100 : decode cX7_image 100 = .ok (.bipush 8, 2) := by decide +kernel
theorem dX7_image_102 : decode cX7_image 102 = .ok (.if_icmp .ge 26, 3) := by decide +kernel
theorem dX7_image_105 : decode cX7_image 105 = .ok (.aload_n 0, 1) := by decide +kernel
theorem dX7_image_106 : decode cX7_image 106 = .ok (.getfield 65, 3) := by decide +kernel
theorem dX7_image_109 : decode cX7_image 109 = .ok (.bipush 8, 2) := by decide +kernel
theorem dX7_image_111 : decode cX7_image 111 = .ok (.iload_n 1, 1) := by decide +kernel
theorem dX7_image_112 : decode cX7_image 112 = .ok (.imul, 1) := by decide +kernel
theorem dX7_image_113 : decode cX7_image 113 = .ok (.iload_n 2, 1) := by decide +kernel
theorem dX7_image_114 : decode cX7_image 114 = .ok (.iadd, 1) := by decide +kernel
theorem dX7_image_115 : decode cX7_image 115 = .ok (.aload_n 0, 1) := by decide +kernel
theorem dX7_image_116 : decode cX7_image 116 = .ok (.getfield 22, 3) := by decide +kernel
theorem dX7_image_119 : decode cX7_image 119 = .ok (.iload_n 2, 1) := by decide +kernel
theorem dX7_image_120 : decode cX7_image 120 = .ok (.iaload, 1) := by decide +kernel
theorem dX7_image_121 : decode cX7_image 121 = .ok (.iastore, 1) := by decide +kernel
theorem dX7_image_122 : decode cX7_image 122 = .ok (.iinc 2 1, 3) := by decide +kernel
theorem dX7_image_125 : decode cX7_image 125 = .ok (.goto (-26), 3) := by decide +kernel
theorem dX7_image_128 : decode cX7_image 128 = .ok (.iconst 0, 1) := by decide +kernel
theorem dX7_image_129 : decode cX7_image 129 = .ok (.istore_n 2, 1) := by decide +kernel
theorem dX7_image_130 : decode cX7_image 130 = .ok (.iload_n 2, 1) := by decide +kernel
theorem dX7_image_131 : decode cX7_image 131 = .ok (.iconst 4, 1) := by decide +kernel
theorem dX7_image_132 : decode cX7_image 132 = .ok (.if_icmp .ge 41, 3) := by decide +kernel
theorem dX7_image_135 : decode cX7_image 135 = .ok (.aload_n 0, 1) := by decide +kernel
theorem dX7_image_136 : decode cX7_image 136 = .ok (.getfield 68, 3) := by decide +kernel
theorem dX7_image_139 : decode cX7_image 139 = .ok (.iconst 4, 1) := by decide +kernel
theorem dX7_image_140 : decode cX7_image 140 = .ok (.iload_n 1, 1) := by decide +kernel
theorem dX7_image_141 : decode cX7_image 141 = .ok (.imul, 1) := by decide +kernel
theorem dX7_image_142 : decode cX7_image 142 = .ok (.iload_n 2, 1) := by decide +kernel
theorem dX7_image_143 : decode cX7_image 143 = .ok (.iadd, 1) := by decide +kernel
theorem dX7_image_144 : decode cX7_image 144 = .ok (.aload_n 0, 1) := by decide +kernel
theorem dX7_image_145 : decode cX7_image 145 = .ok (.getfield 25, 3) := by decide +kernel
theorem dX7_image_148 : decode cX7_image 148 = .ok (.iload_n 2, 1) := by decide +kernel
theorem dX7_image_149 : decode cX7_image 149 = .ok (.iaload, 1) := by decide +kernel
theorem dX7_image_150 : decode cX7_image 150 = .ok (.iastore, 1) := by decide +kernel
theorem dX7_image_151 : decode cX7_image 151 = .ok (.aload_n 0, 1) := by decide +kernel
theorem dX7_image_152 : decode cX7_image 152 = .ok (.getfield 71, 3) := by decide +kernel
theorem dX7_image_155 : decode cX7_image 155 = .ok (.iconst 4, 1) := by decide +kernel
theorem dX7_image_156 : decode cX7_image 156 = .ok (.iload_n 1, 1) := by decide +kernel
theorem dX7_image_157 : decode cX7_image 157 = .ok (.imul, 1) := by decide +kernel
theorem dX7_image_158 : decode cX7_image 158 = .ok (.iload_n 2, 1) := by decide +kernel
theorem dX7_image_159 : decode cX7_image 159 = .ok (.iadd, 1) := by decide +kernel
theorem dX7_image_160 : decode cX7_image 160 = .ok (.aload_n 0, 1) := by decide +kernel
theorem dX7_image_161 : decode cX7_image 161 = .ok (.getfield 28, 3) := by decide +kernel
theorem dX7_image_164 : decode cX7_image 164 = .ok (.iload_n 2, 1) := by decide +kernel
theorem dX7_image_165 : decode cX7_image 165 = .ok (.iaload, 1) := by decide +kernel
theorem dX7_image_166 : decode cX7_image 166 = .ok (.iastore, 1) := by decide +kernel
theorem dX7_image_167 : decode cX7_image 167 = .ok (.iinc 2 1, 3) := by decide +kernel
theorem dX7_image_170 : decode cX7_image 170 = .ok (.goto (-40), 3) := by decide +kernel
theorem dX7_image_173 : decode cX7_image 173 = .ok (.iconst 0, 1) := by decide +kernel
theorem dX7_image_174 : decode cX7_image 174 = .ok (.istore_n 2, 1) := by decide +kernel
theorem dX7_image_175 : decode cX7_image 175 = .ok (.iload_n 2, 1) := by decide +kernel
theorem dX7_image_176 : decode cX7_image 176 = .ok (.bipush 14, 2) := by decide +kernel
theorem dX7_image_178 : decode cX7_image 178 = .ok (.if_icmp .ge 26, 3) := by decide +kernel
theorem dX7_image_181 : decode cX7_image 181 = .ok (.aload_n 0, 1) := by decide +kernel
theorem dX7_image_182 : decode cX7_image 182 = .ok (.getfield 74, 3) := by decide +kernel
theorem dX7_image_185 : decode cX7_image 185 = .ok (.bipush 14, 2) := by decide +kernel
theorem dX7_image_187 : decode cX7_image 187 = .ok (.iload_n 1, 1) := by decide +kernel
theorem dX7_image_188 : decode cX7_image 188 = .ok (.imul, 1) := by decide +kernel
theorem dX7_image_189 : decode cX7_image 189 = .ok (.iload_n 2, 1) := by decide +kernel
theorem dX7_image_190 : decode cX7_image 190 = .ok (.iadd, 1) := by decide +kernel
theorem dX7_image_191 : decode cX7_image 191 = .ok (.aload_n 0, 1) := by decide +kernel
theorem dX7_image_192 : decode cX7_image 192 = .ok (.getfield 31, 3) := by decide +kernel
theorem dX7_image_195 : decode cX7_image 195 = .ok (.iload_n 2, 1) := by decide +kernel
theorem dX7_image_196 : decode cX7_image 196 = .ok (.iaload, 1) := by decide +kernel
theorem dX7_image_197 : decode cX7_image 197 = .ok (.iastore, 1) := by decide +kernel
theorem dX7_image_198 : decode cX7_image 198 = .ok (.iinc 2 1, 3) := by decide +kernel
theorem dX7_image_201 : decode cX7_image 201 = .ok (.goto (-26), 3) := by decide +kernel
theorem dX7_image_204 : decode cX7_image 204 = .ok (.iconst 1, 1) := by decide +kernel
theorem dX7_image_205 : decode cX7_image 205 = .ok (.ireturn, 1) := by decide +kernel
theorem dX7_restore_0 : decode cX7_restore 0 = .ok (.iload_n 1, 1) := by decide +kernel
theorem dX7_restore_1 : decode cX7_restore 1 = .ok (.iconst 0, 1) := by decide +kernel
theorem dX7_restore_2 : decode cX7_restore 2 = .ok (.iconst 1, 1) := by decide +kernel
theorem dX7_restore_3 : decode cX7_restore 3 = .ok (.invokestatic 85, 3) := by decide +kernel
theorem dX7_restore_6 : decode cX7_restore 6 = .ok (.ifCond .ne 6, 3) := by decide +kernel
theorem dX7_restore_9 : decode cX7_restore 9 = .ok (.ldc 93, 2) := by decide +kernel
theorem dX7_restore_11 : decode cX7_restore 11 = .ok (.ireturn, 1) := by decide +kernel
theorem dX7_restore_12 : decode cX7_restore 12 = .ok (.aload_n 0, 1) := by decide +kernel
theorem dX7_restore_13 : decode cX7_restore 13 = .ok (.getfield 58, 3) := by decide +kernel
theorem dX7_restore_16 : decode cX7_restore 16 = .ok (.iload_n 1, 1) := by decide +kernel
theorem dX7_restore_17 : decode cX7_restore 17 = .ok (.baload, 1) := by decide +kernel
theorem dX7_restore_18 : decode cX7_restore 18 = .ok (.ifCond .ne 6, 3) := by decide +kernel
theorem dX7_restore_21 : decode cX7_restore 21 = .ok (.ldc 201, 2) := by decide +kernel
theorem dX7_restore_23 : decode cX7_restore 23 = .ok (.ireturn, 1) := by decide +kernel
theorem dX7_restore_24 : decode cX7_restore 24 = .ok (.aload_n 0, 1) := by decide +kernel
theorem dX7_restore_25 : decode cX7_restore 25 = .ok (.aload_n 0, 1) := by decide +kernel
theorem dX7_restore_26 : decode cX7_restore 26 = .ok (.getfield 62, 3) := by decide +kernel
theorem dX7_restore_29 : decode cX7_restore 29 = .ok (.iconst 5, 1) := by decide +kernel
theorem dX7_restore_30 : decode cX7_restore 30 = .ok (.iload_n 1, 1) := by decide +kernel
theorem dX7_restore_31 : decode cX7_restore 31 = .ok (.imul, 1) := by decide +kernel
theorem dX7_restore_32 : decode cX7_restore 32 = .ok (.iaload, 1) := by decide +kernel
theorem dX7_restore_33 : decode cX7_restore 33 = .ok (.putfield 177, 3) := by decide +kernel
theorem dX7_restore_36 : decode cX7_restore 36 = .ok (.aload_n 0, 1) := by decide +kernel
theorem dX7_restore_37 : decode cX7_restore 37 = .ok (.aload_n 0, 1) := by decide +kernel
theorem dX7_restore_38 : decode cX7_restore 38 = .ok (.getfield 62, 3) := by decide +kernel
theorem dX7_restore_41 : decode cX7_restore 41 = .ok (.iconst 5, 1) := by decide +kernel
theorem dX7_restore_42 : decode cX7_restore 42 = .ok (.iload_n 1, 1) := by decide +kernel
theorem dX7_restore_43 : decode cX7_restore 43 = .ok (.imul, 1) := by decide +kernel
theorem dX7_restore_44 : decode cX7_restore 44 = .ok (.iconst 1, 1) := by decide +kernel
theorem dX7_restore_45 : decode cX7_restore 45 = .ok (.iadd, 1) := by decide +kernel
theorem dX7_restore_46 : decode cX7_restore 46 = .ok (.iaload, 1) := by decide +kernel
theorem dX7_restore_47 : decode cX7_restore 47 = .ok (.putfield 180, 3) := by decide +kernel
theorem dX7_restore_50 : decode cX7_restore 50 = .ok (.aload_n 0, 1) := by decide +kernel
theorem dX7_restore_51 : decode cX7_restore 51 = .ok (.aload_n 0, 1) := by decide +kernel
theorem dX7_restore_52 : decode cX7_restore 52 = .ok (.getfield 62, 3) := by decide +kernel
theorem dX7_restore_55 : decode cX7_restore 55 = .ok (.iconst 5, 1) := by decide +kernel
theorem dX7_restore_56 : decode cX7_restore 56 = .ok (.iload_n 1, 1) := by decide +kernel
theorem dX7_restore_57 : decode cX7_restore 57 = .ok (.imul, 1) := by decide +kernel
theorem dX7_restore_58 : decode cX7_restore 58 = .ok (.iconst 2, 1) := by decide +kernel
theorem dX7_restore_59 : decode cX7_restore 59 = .ok (.iadd, 1) := by decide +kernel
theorem dX7_restore_60 : decode cX7_restore 60 = .ok (.iaload, 1) := by decide +kernel
theorem dX7_restore_61 : decode cX7_restore 61 = .ok (.putfield 183, 3) := by decide +kernel
theorem dX7_restore_64 : decode cX7_restore 64 = .ok (.aload_n 0, 1) := by decide +kernel
theorem dX7_restore_65 : decode cX7_restore 65 = .ok (.aload_n 0, 1) := by decide +kernel
theorem dX7_restore_66 : decode cX7_restore 66 = .ok (.getfield 62, 3) := by decide +kernel
theorem dX7_restore_69 : decode cX7_restore 69 = .ok (.iconst 5, 1) := by decide +kernel
theorem dX7_restore_70 : decode cX7_restore 70 = .ok (.iload_n 1, 1) := by decide +kernel
theorem dX7_restore_71 : decode cX7_restore 71 = .ok (.imul, 1) := by decide +kernel
theorem dX7_restore_72 : decode cX7_restore 72 = .ok (.iconst 3, 1) := by decide +kernel
theorem dX7_restore_73 : decode cX7_restore 73 = .ok (.iadd, 1) := by decide +kernel
theorem dX7_restore_74 : decode cX7_restore 74 = .ok (.iaload, 1) := by decide +kernel
theorem dX7_restore_75 : decode cX7_restore 75 = .ok (.putfield 186, 3) := by decide +kernel
theorem dX7_restore_78 : decode cX7_restore 78 = .ok (.aload_n 0, 1) := by decide +kernel
theorem dX7_restore_79 : decode cX7_restore 79 = .ok (.aload_n 0, 1) := by decide +kernel
theorem dX7_restore_80 : decode cX7_restore 80 = .ok (.getfield 62, 3) := by decide +kernel
theorem dX7_restore_83 : decode cX7_restore 83 = .ok (.iconst 5, 1) := by decide +kernel
theorem dX7_restore_84 : decode cX7_restore 84 = .ok (.iload_n 1, 1) := by decide +kernel
theorem dX7_restore_85 : decode cX7_restore 85 = .ok (.imul, 1) := by decide +kernel
theorem dX7_restore_86 : decode cX7_restore 86 = .ok (.iconst 4, 1) := by decide +kernel
theorem dX7_restore_87 : decode cX7_restore 87 = .ok (.iadd, 1) := by decide +kernel
theorem dX7_restore_88 : decode cX7_restore 88 = .ok (.iaload, 1) := by decide +kernel
theorem dX7_restore_89 : decode cX7_restore 89 = .ok (.putfield 189, 3) := by decide +kernel
theorem dX7_restore_92 : decode cX7_restore 92 = .ok (.iconst 0, 1) := by decide +kernel
theorem dX7_restore_93 : decode cX7_restore 93 = .ok (.istore_n 2, 1) := by decide +kernel
theorem dX7_restore_94 : decode cX7_restore 94 = .ok (.iload_n 2, 1) := by decide +kernel
theorem dX7_restore_95 : decode cX7_restore 95 = .ok (.bipush 8, 2) := by decide +kernel
theorem dX7_restore_97 : decode cX7_restore 97 = .ok (.if_icmp .ge 26, 3) := by decide +kernel
theorem dX7_restore_100 : decode cX7_restore 100 = .ok (.aload_n 0, 1) := by decide +kernel
theorem dX7_restore_101 : decode cX7_restore 101 = .ok (.getfield 22, 3) := by decide +kernel
theorem dX7_restore_104 : decode cX7_restore 104 = .ok (.iload_n 2, 1) := by decide +kernel
theorem dX7_restore_105 : decode cX7_restore 105 = .ok (.aload_n 0, 1) := by decide +kernel
theorem dX7_restore_106 : decode cX7_restore 106 = .ok (.getfield 65, 3) := by decide +kernel
theorem dX7_restore_109 : decode cX7_restore 109 = .ok (.bipush 8, 2) := by decide +kernel
theorem dX7_restore_111 : decode cX7_restore 111 = .ok (.iload_n 1, 1) := by decide +kernel
theorem dX7_restore_112 : decode cX7_restore 112 = .ok (.imul, 1) := by decide +kernel
theorem dX7_restore_113 : decode cX7_restore 113 = .ok (.iload_n 2, 1) := by decide +kernel
theorem dX7_restore_114 : decode cX7_restore 114 = .ok (.iadd, 1) := by decide +kernel
theorem dX7_restore_115 : decode cX7_restore 115 = .ok (.iaload, 1) := by decide +kernel
theorem dX7_restore_116 : decode cX7_restore 116 = .ok (.iastore, 1) := by decide +kernel
theorem dX7_restore_117 : decode cX7_restore 117 = .ok (.iinc 2 1, 3) := by decide +kernel
theorem dX7_restore_120 : decode cX7_restore 120 = .ok (.goto (-26), 3) := by decide +kernel
theorem dX7_restore_123 : decode cX7_restore 123 = .ok (.iconst 0, 1) := by decide +kernel
theorem dX7_restore_124 : decode cX7_restore 124 = .ok (.istore_n 2, 1) := by decide +kernel
theorem dX7_restore_125 : decode cX7_restore 125 = .ok (.iload_n 2, 1) := by decide +kernel
theorem dX7_restore_126 : decode cX7_restore 126 = .ok (.iconst 4, 1) := by decide +kernel
theorem dX7_restore_127 : decode cX7_restore 127 = .ok (.if_icmp .ge 41, 3) := by decide +kernel
theorem dX7_restore_130 : decode cX7_restore 130 = .ok (.aload_n 0, 1) := by decide +kernel
theorem dX7_restore_131 : decode cX7_restore 131 = .ok (.getfield 25, 3) := by decide +kernel
theorem dX7_restore_134 : decode cX7_restore 134 = .ok (.iload_n 2, 1) := by decide +kernel
theorem dX7_restore_135 : decode cX7_restore 135 = .ok (.aload_n 0, 1) := by decide +kernel
theorem dX7_restore_136 : decode cX7_restore 136 = .ok (.getfield 68, 3) := by decide +kernel
theorem dX7_restore_139 : decode cX7_restore 139 = .ok (.iconst 4, 1) := by decide +kernel
theorem dX7_restore_140 : decode cX7_restore 140 = .ok (.iload_n 1, 1) := by decide +kernel
theorem dX7_restore_141 : decode cX7_restore 141 = .ok (.imul, 1) := by decide +kernel
theorem dX7_restore_142 : decode cX7_restore 142 = .ok (.iload_n 2, 1) := by decide +kernel
theorem dX7_restore_143 : decode cX7_restore 143 = .ok (.iadd, 1) := by decide +kernel
theorem dX7_restore_144 : decode cX7_restore 144 = .ok (.iaload, 1) := by decide +kernel
theorem dX7_restore_145 : decode cX7_restore 145 = .ok (.iastore, 1) := by decide +kernel
theorem dX7_restore_146 : decode cX7_restore 146 = .ok (.aload_n 0, 1) := by decide +kernel
theorem dX7_restore_147 : decode cX7_restore 147 = .ok (.getfield 28, 3) := by decide +kernel
theorem dX7_restore_150 : decode cX7_restore 150 = .ok (.iload_n 2, 1) := by decide +kernel
theorem dX7_restore_151 : decode cX7_restore 151 = .ok (.aload_n 0, 1) := by decide +kernel
theorem dX7_restore_152 : decode cX7_restore 152 = .ok (.getfield 71, 3) := by decide +kernel
theorem dX7_restore_155 : decode cX7_restore 155 = .ok (.iconst 4, 1) := by decide +kernel
theorem dX7_restore_156 : decode cX7_restore 156 = .ok (.iload_n 1, 1) := by decide +kernel
theorem dX7_restore_157 : decode cX7_restore 157 = .ok (.imul, 1) := by decide +kernel
theorem dX7_restore_158 : decode cX7_restore 158 = .ok (.iload_n 2, 1) := by decide +kernel
theorem dX7_restore_159 : decode cX7_restore 159 = .ok (.iadd, 1) := by decide +kernel
theorem dX7_restore_160 : decode cX7_restore 160 = .ok (.iaload, 1) := by decide +kernel
theorem dX7_restore_161 : decode cX7_restore 161 = .ok (.iastore, 1) := by decide +kernel
theorem dX7_restore_162 : decode cX7_restore 162 = .ok (.iinc 2 1, 3) := by decide +kernel
theorem dX7_restore_165 : decode cX7_restore 165 = .ok (.goto (-40), 3) := by decide +kernel
theorem dX7_restore_168 : decode cX7_restore 168 = .ok (.iconst 0, 1) := by decide +kernel
theorem dX7_restore_169 : decode cX7_restore 169 = .ok (.istore_n 2, 1) := by decide +kernel
theorem dX7_restore_170 : decode cX7_restore 170 = .ok (.iload_n 2, 1) := by decide +kernel
theorem dX7_restore_171 : decode cX7_restore 171 = .ok (.bipush 14, 2) := by decide +kernel
theorem dX7_restore_173 : decode cX7_restore 173 = .ok (.if_icmp .ge 26, 3) := by decide +kernel
theorem dX7_restore_176 : decode cX7_restore 176 = .ok (.aload_n 0, 1) := by decide +kernel
theorem dX7_restore_177 : decode cX7_restore 177 = .ok (.getfield 31, 3) := by decide +kernel
theorem dX7_restore_180 : decode cX7_restore 180 = .ok (.iload_n 2, 1) := by decide +kernel
theorem dX7_restore_181 : decode cX7_restore 181 = .ok (.aload_n 0, 1) := by decide +kernel
theorem dX7_restore_182 : decode cX7_restore 182 = .ok (.getfield 74, 3) := by decide +kernel
theorem dX7_restore_185 : decode cX7_restore 185 = .ok (.bipush 14, 2) := by decide +kernel
theorem dX7_restore_187 : decode cX7_restore 187 = .ok (.iload_n 1, 1) := by decide +kernel
theorem dX7_restore_188 : decode cX7_restore 188 = .ok (.imul, 1) := by decide +kernel
theorem dX7_restore_189 : decode cX7_restore 189 = .ok (.iload_n 2, 1) := by decide +kernel
theorem dX7_restore_190 : decode cX7_restore 190 = .ok (.iadd, 1) := by decide +kernel
theorem dX7_restore_191 : decode cX7_restore 191 = .ok (.iaload, 1) := by decide +kernel
theorem dX7_restore_192 : decode cX7_restore 192 = .ok (.iastore, 1) := by decide +kernel
theorem dX7_restore_193 : decode cX7_restore 193 = .ok (.iinc 2 1, 3) := by decide +kernel
theorem dX7_restore_196 : decode cX7_restore 196 = .ok (.goto (-26), 3) := by decide +kernel
theorem dX7_restore_199 : decode cX7_restore 199 = .ok (.aload_n 0, 1) := by decide +kernel
theorem dX7_restore_200 : decode cX7_restore 200 = .ok (.iconst 0, 1) := by decide +kernel
theorem dX7_restore_201 : decode cX7_restore 201 = .ok (.putfield 192, 3) := by decide +kernel
theorem dX7_restore_204 : decode cX7_restore 204 = .ok (.iconst 1, 1) := by decide +kernel
theorem dX7_restore_205 : decode cX7_restore 205 = .ok (.ireturn, 1) := by decide +kernel
theorem dX7_kind_0 : decode cX7_kind 0 = .ok (.aload_n 0, 1) := by decide +kernel
theorem dX7_kind_1 : decode cX7_kind 1 = .ok (.iload_n 1, 1) := by decide +kernel
theorem dX7_kind_2 : decode cX7_kind 2 = .ok (.invokevirtual 217, 3) := by decide +kernel
theorem dX7_kind_5 : decode cX7_kind 5 = .ok (.ifCond .eq 12, 3) := by decide +kernel
theorem dX7_kind_8 : decode cX7_kind 8 = .ok (.aload_n 0, 1) := by decide +kernel
theorem dX7_kind_9 : decode cX7_kind 9 = .ok (.getfield 28, 3) := by decide +kernel
theorem dX7_kind_12 : decode cX7_kind 12 = .ok (.iload_n 1, 1) := by decide +kernel
theorem dX7_kind_13 : decode cX7_kind 13 = .ok (.iaload, 1) := by decide +kernel
theorem dX7_kind_14 : decode cX7_kind 14 = .ok (.goto 5, 3) := by decide +kernel
theorem dX7_kind_17 : decode cX7_kind 17 = .ok (.ldc 93, 2) := by decide +kernel
theorem dX7_kind_19 : decode cX7_kind 19 = .ok (.ireturn, 1) := by decide +kernel
theorem dX7_isOf_0 : decode cX7_isOf 0 = .ok (.iload_n 1, 1) := by decide +kernel
theorem dX7_isOf_1 : decode cX7_isOf 1 = .ok (.iconst 1, 1) := by decide +kernel
theorem dX7_isOf_2 : decode cX7_isOf 2 = .ok (.if_icmp .eq 13, 3) := by decide +kernel
theorem dX7_isOf_5 : decode cX7_isOf 5 = .ok (.iload_n 1, 1) := by decide +kernel
theorem dX7_isOf_6 : decode cX7_isOf 6 = .ok (.iconst 2, 1) := by decide +kernel
theorem dX7_isOf_7 : decode cX7_isOf 7 = .ok (.if_icmp .eq 8, 3) := by decide +kernel
theorem dX7_isOf_10 : decode cX7_isOf 10 = .ok (.iload_n 1, 1) := by decide +kernel
theorem dX7_isOf_11 : decode cX7_isOf 11 = .ok (.iconst 3, 1) := by decide +kernel
theorem dX7_isOf_12 : decode cX7_isOf 12 = .ok (.if_icmp .ne 7, 3) := by decide +kernel
theorem dX7_isOf_15 : decode cX7_isOf 15 = .ok (.iconst 1, 1) := by decide +kernel
theorem dX7_isOf_16 : decode cX7_isOf 16 = .ok (.goto 4, 3) := by decide +kernel
theorem dX7_isOf_19 : decode cX7_isOf 19 = .ok (.iconst 0, 1) := by decide +kernel
theorem dX7_isOf_20 : decode cX7_isOf 20 = .ok (.istore_n 3, 1) := by decide +kernel
theorem dX7_isOf_21 : decode cX7_isOf 21 = .ok (.iload_n 2, 1) := by decide +kernel
theorem dX7_isOf_22 : decode cX7_isOf 22 = .ok (.ifCond .eq 27, 3) := by decide +kernel
theorem dX7_isOf_25 : decode cX7_isOf 25 = .ok (.iload_n 2, 1) := by decide +kernel
theorem dX7_isOf_26 : decode cX7_isOf 26 = .ok (.iload_n 1, 1) := by decide +kernel
theorem dX7_isOf_27 : decode cX7_isOf 27 = .ok (.if_icmp .eq 22, 3) := by decide +kernel
theorem dX7_isOf_30 : decode cX7_isOf 30 = .ok (.iload_n 2, 1) := by decide +kernel
theorem dX7_isOf_31 : decode cX7_isOf 31 = .ok (.iconst 1, 1) := by decide +kernel
theorem dX7_isOf_32 : decode cX7_isOf 32 = .ok (.if_icmp .ne 7, 3) := by decide +kernel
theorem dX7_isOf_35 : decode cX7_isOf 35 = .ok (.iload_n 3, 1) := by decide +kernel
theorem dX7_isOf_36 : decode cX7_isOf 36 = .ok (.ifCond .ne 13, 3) := by decide +kernel
theorem dX7_isOf_39 : decode cX7_isOf 39 = .ok (.iload_n 2, 1) := by decide +kernel
theorem dX7_isOf_40 : decode cX7_isOf 40 = .ok (.iconst 4, 1) := by decide +kernel
theorem dX7_isOf_41 : decode cX7_isOf 41 = .ok (.if_icmp .ne 12, 3) := by decide +kernel
theorem dX7_isOf_44 : decode cX7_isOf 44 = .ok (.iload_n 1, 1) := by decide +kernel
theorem dX7_isOf_45 : decode cX7_isOf 45 = .ok (.iconst 5, 1) := by decide +kernel
theorem dX7_isOf_46 : decode cX7_isOf 46 = .ok (.if_icmp .ne 7, 3) := by decide +kernel
theorem dX7_isOf_49 : decode cX7_isOf 49 = .ok (.iconst 1, 1) := by decide +kernel
theorem dX7_isOf_50 : decode cX7_isOf 50 = .ok (.goto 4, 3) := by decide +kernel
theorem dX7_isOf_53 : decode cX7_isOf 53 = .ok (.iconst 0, 1) := by decide +kernel
theorem dX7_isOf_54 : decode cX7_isOf 54 = .ok (.ireturn, 1) := by decide +kernel
theorem dX7_as_0 : decode cX7_as 0 = .ok (.aload_n 0, 1) := by decide +kernel
theorem dX7_as_1 : decode cX7_as 1 = .ok (.iload_n 1, 1) := by decide +kernel
theorem dX7_as_2 : decode cX7_as 2 = .ok (.invokevirtual 217, 3) := by decide +kernel
theorem dX7_as_5 : decode cX7_as 5 = .ok (.ifCond .eq 12, 3) := by decide +kernel
theorem dX7_as_8 : decode cX7_as 8 = .ok (.iload_n 2, 1) := by decide +kernel
theorem dX7_as_9 : decode cX7_as 9 = .ok (.iconst 0, 1) := by decide +kernel
theorem dX7_as_10 : decode cX7_as 10 = .ok (.iconst 5, 1) := by decide +kernel
theorem dX7_as_11 : decode cX7_as 11 = .ok (.invokestatic 85, 3) := by decide +kernel
theorem dX7_as_14 : decode cX7_as 14 = .ok (.ifCond .ne 6, 3) := by decide +kernel
theorem dX7_as_17 : decode cX7_as 17 = .ok (.ldc 93, 2) := by decide +kernel
theorem dX7_as_19 : decode cX7_as 19 = .ok (.ireturn, 1) := by decide +kernel
theorem dX7_as_20 : decode cX7_as 20 = .ok (.aload_n 0, 1) := by decide +kernel
theorem dX7_as_21 : decode cX7_as 21 = .ok (.aload_n 0, 1) := by decide +kernel
theorem dX7_as_22 : decode cX7_as 22 = .ok (.getfield 28, 3) := by decide +kernel
theorem dX7_as_25 : decode cX7_as 25 = .ok (.iload_n 1, 1) := by decide +kernel
theorem dX7_as_26 : decode cX7_as 26 = .ok (.iaload, 1) := by decide +kernel
theorem dX7_as_27 : decode cX7_as 27 = .ok (.iload_n 2, 1) := by decide +kernel
theorem dX7_as_28 : decode cX7_as 28 = .ok (.invokevirtual 285, 3) := by decide +kernel
theorem dX7_as_31 : decode cX7_as 31 = .ok (.ifCond .eq 11, 3) := by decide +kernel
theorem dX7_as_34 : decode cX7_as 34 = .ok (.aload_n 0, 1) := by decide +kernel
theorem dX7_as_35 : decode cX7_as 35 = .ok (.iload_n 1, 1) := by decide +kernel
theorem dX7_as_36 : decode cX7_as 36 = .ok (.invokevirtual 98, 3) := by decide +kernel
theorem dX7_as_39 : decode cX7_as 39 = .ok (.goto 8, 3) := by decide +kernel
theorem dX7_as_42 : decode cX7_as 42 = .ok (.aload_n 0, 1) := by decide +kernel
theorem dX7_as_43 : decode cX7_as 43 = .ok (.iconst 3, 1) := by decide +kernel
theorem dX7_as_44 : decode cX7_as 44 = .ok (.invokevirtual 94, 3) := by decide +kernel
theorem dX7_as_47 : decode cX7_as 47 = .ok (.ireturn, 1) := by decide +kernel
theorem dX7_leaves_0 : decode cX7_leaves 0 = .ok (.aload_n 0, 1) := by decide +kernel
theorem dX7_leaves_1 : decode cX7_leaves 1 = .ok (.getfield 288, 3) := by decide +kernel
theorem dX7_leaves_4 : decode cX7_leaves 4 = .ok (.bipush 16, 2) := by decide +kernel
theorem dX7_leaves_6 : decode cX7_leaves 6 = .ok (.if_icmp .ge 23, 3) := by decide +kernel
theorem dX7_leaves_9 : decode cX7_leaves 9 = .ok (.aload_n 0, 1) := by decide +kernel
theorem dX7_leaves_10 : decode cX7_leaves 10 = .ok (.getfield 77, 3) := by decide +kernel
theorem dX7_leaves_13 : decode cX7_leaves 13 = .ok (.aload_n 0, 1) := by decide +kernel
theorem dX7_leaves_14 : decode cX7_leaves 14 = .ok (.getfield 288, 3) := by decide +kernel
theorem dX7_leaves_17 : decode cX7_leaves 17 = .ok (.iload_n 1, 1) := by decide +kernel
theorem dX7_leaves_18 : decode cX7_leaves 18 = .ok (.iastore, 1) := by decide +kernel
theorem dX7_leaves_19 : decode cX7_leaves 19 = .ok (.aload_n 0, 1) := by decide +kernel
theorem dX7_leaves_20 : decode cX7_leaves 20 = .ok (.dup, 1) := by decide +kernel
theorem dX7_leaves_21 : decode cX7_leaves 21 = .ok (.getfield 288, 3) := by decide +kernel
theorem dX7_leaves_24 : decode cX7_leaves 24 = .ok (.iconst 1, 1) := by decide +kernel
theorem dX7_leaves_25 : decode cX7_leaves 25 = .ok (.iadd, 1) := by decide +kernel
theorem dX7_leaves_26 : decode cX7_leaves 26 = .ok (.putfield 288, 3) := by decide +kernel
theorem dX7_leaves_29 : decode cX7_leaves 29 = .ok (.return_, 1) := by decide +kernel
theorem dX7_body10_0 : decode cX7_body10 0 = .ok (.aload_n 0, 1) := by decide +kernel
theorem dX7_body10_1 : decode cX7_body10 1 = .ok (.bipush 10, 2) := by decide +kernel
theorem dX7_body10_3 : decode cX7_body10 3 = .ok (.invokevirtual 291, 3) := by decide +kernel
theorem dX7_body10_6 : decode cX7_body10 6 = .ok (.aload_n 0, 1) := by decide +kernel
theorem dX7_body10_7 : decode cX7_body10 7 = .ok (.getfield 25, 3) := by decide +kernel
theorem dX7_body10_10 : decode cX7_body10 10 = .ok (.iload_n 1, 1) := by decide +kernel
theorem dX7_body10_11 : decode cX7_body10 11 = .ok (.iaload, 1) := by decide +kernel
theorem dX7_body10_12 : decode cX7_body10 12 = .ok (.ireturn, 1) := by decide +kernel
theorem dX7_body13_0 : decode cX7_body13 0 = .ok (.aload_n 0, 1) := by decide +kernel
theorem dX7_body13_1 : decode cX7_body13 1 = .ok (.bipush 13, 2) := by decide +kernel
theorem dX7_body13_3 : decode cX7_body13 3 = .ok (.invokevirtual 291, 3) := by decide +kernel
theorem dX7_body13_6 : decode cX7_body13 6 = .ok (.aload_n 0, 1) := by decide +kernel
theorem dX7_body13_7 : decode cX7_body13 7 = .ok (.iload_n 1, 1) := by decide +kernel
theorem dX7_body13_8 : decode cX7_body13 8 = .ok (.invokevirtual 295, 3) := by decide +kernel
theorem dX7_body13_11 : decode cX7_body13 11 = .ok (.bipush 100, 2) := by decide +kernel
theorem dX7_body13_13 : decode cX7_body13 13 = .ok (.isub, 1) := by decide +kernel
theorem dX7_body13_14 : decode cX7_body13 14 = .ok (.ireturn, 1) := by decide +kernel
theorem dX7_boySize_0 : decode cX7_boySize 0 = .ok (.aload_n 0, 1) := by decide +kernel
theorem dX7_boySize_1 : decode cX7_boySize 1 = .ok (.getfield 28, 3) := by decide +kernel
theorem dX7_boySize_4 : decode cX7_boySize 4 = .ok (.iload_n 1, 1) := by decide +kernel
theorem dX7_boySize_5 : decode cX7_boySize 5 = .ok (.iaload, 1) := by decide +kernel
theorem dX7_boySize_6 : decode cX7_boySize 6 = .ok (.iconst 4, 1) := by decide +kernel
theorem dX7_boySize_7 : decode cX7_boySize 7 = .ok (.if_icmp .ne 9, 3) := by decide +kernel
theorem dX7_boySize_10 : decode cX7_boySize 10 = .ok (.aload_n 0, 1) := by decide +kernel
theorem dX7_boySize_11 : decode cX7_boySize 11 = .ok (.iload_n 1, 1) := by decide +kernel
theorem dX7_boySize_12 : decode cX7_boySize 12 = .ok (.invokevirtual 298, 3) := by decide +kernel
theorem dX7_boySize_15 : decode cX7_boySize 15 = .ok (.ireturn, 1) := by decide +kernel
theorem dX7_boySize_16 : decode cX7_boySize 16 = .ok (.aload_n 0, 1) := by decide +kernel
theorem dX7_boySize_17 : decode cX7_boySize 17 = .ok (.bipush 14, 2) := by decide +kernel
theorem dX7_boySize_19 : decode cX7_boySize 19 = .ok (.invokevirtual 291, 3) := by decide +kernel
theorem dX7_boySize_22 : decode cX7_boySize 22 = .ok (.iconst 2, 1) := by decide +kernel
theorem dX7_boySize_23 : decode cX7_boySize 23 = .ok (.aload_n 0, 1) := by decide +kernel
theorem dX7_boySize_24 : decode cX7_boySize 24 = .ok (.iload_n 1, 1) := by decide +kernel
theorem dX7_boySize_25 : decode cX7_boySize 25 = .ok (.invokevirtual 298, 3) := by decide +kernel
theorem dX7_boySize_28 : decode cX7_boySize 28 = .ok (.imul, 1) := by decide +kernel
theorem dX7_boySize_29 : decode cX7_boySize 29 = .ok (.ireturn, 1) := by decide +kernel
theorem dX7_body20_0 : decode cX7_body20 0 = .ok (.aload_n 0, 1) := by decide +kernel
theorem dX7_body20_1 : decode cX7_body20 1 = .ok (.bipush 20, 2) := by decide +kernel
theorem dX7_body20_3 : decode cX7_body20 3 = .ok (.invokevirtual 291, 3) := by decide +kernel
theorem dX7_body20_6 : decode cX7_body20 6 = .ok (.iload_n 1, 1) := by decide +kernel
theorem dX7_body20_7 : decode cX7_body20 7 = .ok (.ireturn, 1) := by decide +kernel
theorem dX7_body21_0 : decode cX7_body21 0 = .ok (.aload_n 0, 1) := by decide +kernel
theorem dX7_body21_1 : decode cX7_body21 1 = .ok (.bipush 21, 2) := by decide +kernel
theorem dX7_body21_3 : decode cX7_body21 3 = .ok (.invokevirtual 291, 3) := by decide +kernel
theorem dX7_body21_6 : decode cX7_body21 6 = .ok (.aload_n 0, 1) := by decide +kernel
theorem dX7_body21_7 : decode cX7_body21 7 = .ok (.iload_n 1, 1) := by decide +kernel
theorem dX7_body21_8 : decode cX7_body21 8 = .ok (.invokevirtual 301, 3) := by decide +kernel
theorem dX7_body21_11 : decode cX7_body21 11 = .ok (.aload_n 0, 1) := by decide +kernel
theorem dX7_body21_12 : decode cX7_body21 12 = .ok (.getfield 31, 3) := by decide +kernel
theorem dX7_body21_15 : decode cX7_body21 15 = .ok (.bipush 8, 2) := by decide +kernel
theorem dX7_body21_17 : decode cX7_body21 17 = .ok (.iload_n 1, 1) := by decide +kernel
theorem dX7_body21_18 : decode cX7_body21 18 = .ok (.iadd, 1) := by decide +kernel
theorem dX7_body21_19 : decode cX7_body21 19 = .ok (.iaload, 1) := by decide +kernel
theorem dX7_body21_20 : decode cX7_body21 20 = .ok (.iadd, 1) := by decide +kernel
theorem dX7_body21_21 : decode cX7_body21 21 = .ok (.ireturn, 1) := by decide +kernel
theorem dX7_markOf_0 : decode cX7_markOf 0 = .ok (.aload_n 0, 1) := by decide +kernel
theorem dX7_markOf_1 : decode cX7_markOf 1 = .ok (.getfield 28, 3) := by decide +kernel
theorem dX7_markOf_4 : decode cX7_markOf 4 = .ok (.iload_n 1, 1) := by decide +kernel
theorem dX7_markOf_5 : decode cX7_markOf 5 = .ok (.iaload, 1) := by decide +kernel
theorem dX7_markOf_6 : decode cX7_markOf 6 = .ok (.tableswitch 62 1 3 #[26, 32, 46], 26) := by decide +kernel
theorem dX7_markOf_32 : decode cX7_markOf 32 = .ok (.aload_n 0, 1) := by decide +kernel
theorem dX7_markOf_33 : decode cX7_markOf 33 = .ok (.iload_n 1, 1) := by decide +kernel
theorem dX7_markOf_34 : decode cX7_markOf 34 = .ok (.invokevirtual 304, 3) := by decide +kernel
theorem dX7_markOf_37 : decode cX7_markOf 37 = .ok (.ireturn, 1) := by decide +kernel
theorem dX7_markOf_38 : decode cX7_markOf 38 = .ok (.aload_n 0, 1) := by decide +kernel
theorem dX7_markOf_39 : decode cX7_markOf 39 = .ok (.bipush 24, 2) := by decide +kernel
theorem dX7_markOf_41 : decode cX7_markOf 41 = .ok (.invokevirtual 291, 3) := by decide +kernel
theorem dX7_markOf_44 : decode cX7_markOf 44 = .ok (.iconst 2, 1) := by decide +kernel
theorem dX7_markOf_45 : decode cX7_markOf 45 = .ok (.aload_n 0, 1) := by decide +kernel
theorem dX7_markOf_46 : decode cX7_markOf 46 = .ok (.iload_n 1, 1) := by decide +kernel
theorem dX7_markOf_47 : decode cX7_markOf 47 = .ok (.invokevirtual 304, 3) := by decide +kernel
theorem dX7_markOf_50 : decode cX7_markOf 50 = .ok (.imul, 1) := by decide +kernel
theorem dX7_markOf_51 : decode cX7_markOf 51 = .ok (.ireturn, 1) := by decide +kernel
theorem dX7_markOf_52 : decode cX7_markOf 52 = .ok (.aload_n 0, 1) := by decide +kernel
theorem dX7_markOf_53 : decode cX7_markOf 53 = .ok (.bipush 22, 2) := by decide +kernel
theorem dX7_markOf_55 : decode cX7_markOf 55 = .ok (.invokevirtual 291, 3) := by decide +kernel
theorem dX7_markOf_58 : decode cX7_markOf 58 = .ok (.aload_n 0, 1) := by decide +kernel
theorem dX7_markOf_59 : decode cX7_markOf 59 = .ok (.iload_n 1, 1) := by decide +kernel
theorem dX7_markOf_60 : decode cX7_markOf 60 = .ok (.invokevirtual 304, 3) := by decide +kernel
theorem dX7_markOf_63 : decode cX7_markOf 63 = .ok (.sipush 1000, 3) := by decide +kernel
theorem dX7_markOf_66 : decode cX7_markOf 66 = .ok (.isub, 1) := by decide +kernel
theorem dX7_markOf_67 : decode cX7_markOf 67 = .ok (.ireturn, 1) := by decide +kernel
theorem dX7_markOf_68 : decode cX7_markOf 68 = .ok (.aload_n 0, 1) := by decide +kernel
theorem dX7_markOf_69 : decode cX7_markOf 69 = .ok (.bipush 23, 2) := by decide +kernel
theorem dX7_markOf_71 : decode cX7_markOf 71 = .ok (.invokevirtual 291, 3) := by decide +kernel
theorem dX7_markOf_74 : decode cX7_markOf 74 = .ok (.aload_n 0, 1) := by decide +kernel
theorem dX7_markOf_75 : decode cX7_markOf 75 = .ok (.iload_n 1, 1) := by decide +kernel
theorem dX7_markOf_76 : decode cX7_markOf 76 = .ok (.invokevirtual 301, 3) := by decide +kernel
theorem dX7_markOf_79 : decode cX7_markOf 79 = .ok (.aload_n 0, 1) := by decide +kernel
theorem dX7_markOf_80 : decode cX7_markOf 80 = .ok (.iload_n 1, 1) := by decide +kernel
theorem dX7_markOf_81 : decode cX7_markOf 81 = .ok (.invokevirtual 307, 3) := by decide +kernel
theorem dX7_markOf_84 : decode cX7_markOf 84 = .ok (.isub, 1) := by decide +kernel
theorem dX7_markOf_85 : decode cX7_markOf 85 = .ok (.ireturn, 1) := by decide +kernel
theorem dX7_body11_0 : decode cX7_body11 0 = .ok (.aload_n 0, 1) := by decide +kernel
theorem dX7_body11_1 : decode cX7_body11 1 = .ok (.bipush 11, 2) := by decide +kernel
theorem dX7_body11_3 : decode cX7_body11 3 = .ok (.invokevirtual 291, 3) := by decide +kernel
theorem dX7_body11_6 : decode cX7_body11 6 = .ok (.aload_n 0, 1) := by decide +kernel
theorem dX7_body11_7 : decode cX7_body11 7 = .ok (.iload_n 1, 1) := by decide +kernel
theorem dX7_body11_8 : decode cX7_body11 8 = .ok (.invokevirtual 295, 3) := by decide +kernel
theorem dX7_body11_11 : decode cX7_body11 11 = .ok (.aload_n 0, 1) := by decide +kernel
theorem dX7_body11_12 : decode cX7_body11 12 = .ok (.iload_n 1, 1) := by decide +kernel
theorem dX7_body11_13 : decode cX7_body11 13 = .ok (.invokevirtual 310, 3) := by decide +kernel
theorem dX7_body11_16 : decode cX7_body11 16 = .ok (.iadd, 1) := by decide +kernel
theorem dX7_body11_17 : decode cX7_body11 17 = .ok (.ireturn, 1) := by decide +kernel
theorem dX7_sizeOf_0 : decode cX7_sizeOf 0 = .ok (.aload_n 0, 1) := by decide +kernel
theorem dX7_sizeOf_1 : decode cX7_sizeOf 1 = .ok (.getfield 28, 3) := by decide +kernel
theorem dX7_sizeOf_4 : decode cX7_sizeOf 4 = .ok (.iload_n 1, 1) := by decide +kernel
theorem dX7_sizeOf_5 : decode cX7_sizeOf 5 = .ok (.iaload, 1) := by decide +kernel
theorem dX7_sizeOf_6 : decode cX7_sizeOf 6 = .ok (.tableswitch 45 1 3 #[26, 32, 26], 26) := by decide +kernel
theorem dX7_sizeOf_32 : decode cX7_sizeOf 32 = .ok (.aload_n 0, 1) := by decide +kernel
theorem dX7_sizeOf_33 : decode cX7_sizeOf 33 = .ok (.iload_n 1, 1) := by decide +kernel
theorem dX7_sizeOf_34 : decode cX7_sizeOf 34 = .ok (.invokevirtual 313, 3) := by decide +kernel
theorem dX7_sizeOf_37 : decode cX7_sizeOf 37 = .ok (.ireturn, 1) := by decide +kernel
theorem dX7_sizeOf_38 : decode cX7_sizeOf 38 = .ok (.aload_n 0, 1) := by decide +kernel
theorem dX7_sizeOf_39 : decode cX7_sizeOf 39 = .ok (.bipush 12, 2) := by decide +kernel
theorem dX7_sizeOf_41 : decode cX7_sizeOf 41 = .ok (.invokevirtual 291, 3) := by decide +kernel
theorem dX7_sizeOf_44 : decode cX7_sizeOf 44 = .ok (.aload_n 0, 1) := by decide +kernel
theorem dX7_sizeOf_45 : decode cX7_sizeOf 45 = .ok (.iload_n 1, 1) := by decide +kernel
theorem dX7_sizeOf_46 : decode cX7_sizeOf 46 = .ok (.invokevirtual 313, 3) := by decide +kernel
theorem dX7_sizeOf_49 : decode cX7_sizeOf 49 = .ok (.ineg, 1) := by decide +kernel
theorem dX7_sizeOf_50 : decode cX7_sizeOf 50 = .ok (.ireturn, 1) := by decide +kernel
theorem dX7_sizeOf_51 : decode cX7_sizeOf 51 = .ok (.aload_n 0, 1) := by decide +kernel
theorem dX7_sizeOf_52 : decode cX7_sizeOf 52 = .ok (.iload_n 1, 1) := by decide +kernel
theorem dX7_sizeOf_53 : decode cX7_sizeOf 53 = .ok (.invokevirtual 307, 3) := by decide +kernel
theorem dX7_sizeOf_56 : decode cX7_sizeOf 56 = .ok (.ireturn, 1) := by decide +kernel
theorem dX7_ask_0 : decode cX7_ask 0 = .ok (.aload_n 0, 1) := by decide +kernel
theorem dX7_ask_1 : decode cX7_ask 1 = .ok (.iload_n 1, 1) := by decide +kernel
theorem dX7_ask_2 : decode cX7_ask 2 = .ok (.invokevirtual 217, 3) := by decide +kernel
theorem dX7_ask_5 : decode cX7_ask 5 = .ok (.ifCond .eq 12, 3) := by decide +kernel
theorem dX7_ask_8 : decode cX7_ask 8 = .ok (.iload_n 2, 1) := by decide +kernel
theorem dX7_ask_9 : decode cX7_ask 9 = .ok (.iconst 0, 1) := by decide +kernel
theorem dX7_ask_10 : decode cX7_ask 10 = .ok (.iconst 1, 1) := by decide +kernel
theorem dX7_ask_11 : decode cX7_ask 11 = .ok (.invokestatic 85, 3) := by decide +kernel
theorem dX7_ask_14 : decode cX7_ask 14 = .ok (.ifCond .ne 6, 3) := by decide +kernel
theorem dX7_ask_17 : decode cX7_ask 17 = .ok (.ldc 93, 2) := by decide +kernel
theorem dX7_ask_19 : decode cX7_ask 19 = .ok (.ireturn, 1) := by decide +kernel
theorem dX7_ask_20 : decode cX7_ask 20 = .ok (.aload_n 0, 1) := by decide +kernel
theorem dX7_ask_21 : decode cX7_ask 21 = .ok (.iconst 0, 1) := by decide +kernel
theorem dX7_ask_22 : decode cX7_ask 22 = .ok (.putfield 288, 3) := by decide +kernel
theorem dX7_ask_25 : decode cX7_ask 25 = .ok (.iload_n 2, 1) := by decide +kernel
theorem dX7_ask_26 : decode cX7_ask 26 = .ok (.ifCond .ne 11, 3) := by decide +kernel
theorem dX7_ask_29 : decode cX7_ask 29 = .ok (.aload_n 0, 1) := by decide +kernel
theorem dX7_ask_30 : decode cX7_ask 30 = .ok (.iload_n 1, 1) := by decide +kernel
theorem dX7_ask_31 : decode cX7_ask 31 = .ok (.invokevirtual 316, 3) := by decide +kernel
theorem dX7_ask_34 : decode cX7_ask 34 = .ok (.goto 8, 3) := by decide +kernel
theorem dX7_ask_37 : decode cX7_ask 37 = .ok (.aload_n 0, 1) := by decide +kernel
theorem dX7_ask_38 : decode cX7_ask 38 = .ok (.iload_n 1, 1) := by decide +kernel
theorem dX7_ask_39 : decode cX7_ask 39 = .ok (.invokevirtual 310, 3) := by decide +kernel
theorem dX7_ask_42 : decode cX7_ask 42 = .ok (.ireturn, 1) := by decide +kernel
theorem dX7_trace_0 : decode cX7_trace 0 = .ok (.iload_n 1, 1) := by decide +kernel
theorem dX7_trace_1 : decode cX7_trace 1 = .ok (.iconst 0, 1) := by decide +kernel
theorem dX7_trace_2 : decode cX7_trace 2 = .ok (.aload_n 0, 1) := by decide +kernel
theorem dX7_trace_3 : decode cX7_trace 3 = .ok (.getfield 288, 3) := by decide +kernel
theorem dX7_trace_6 : decode cX7_trace 6 = .ok (.iconst 1, 1) := by decide +kernel
theorem dX7_trace_7 : decode cX7_trace 7 = .ok (.isub, 1) := by decide +kernel
theorem dX7_trace_8 : decode cX7_trace 8 = .ok (.invokestatic 85, 3) := by decide +kernel
theorem dX7_trace_11 : decode cX7_trace 11 = .ok (.ifCond .eq 12, 3) := by decide +kernel
theorem dX7_trace_14 : decode cX7_trace 14 = .ok (.aload_n 0, 1) := by decide +kernel
theorem dX7_trace_15 : decode cX7_trace 15 = .ok (.getfield 77, 3) := by decide +kernel
theorem dX7_trace_18 : decode cX7_trace 18 = .ok (.iload_n 1, 1) := by decide +kernel
theorem dX7_trace_19 : decode cX7_trace 19 = .ok (.iaload, 1) := by decide +kernel
theorem dX7_trace_20 : decode cX7_trace 20 = .ok (.goto 5, 3) := by decide +kernel
theorem dX7_trace_23 : decode cX7_trace 23 = .ok (.ldc 150, 2) := by decide +kernel
theorem dX7_trace_25 : decode cX7_trace 25 = .ok (.ireturn, 1) := by decide +kernel
theorem dX7_count_0 : decode cX7_count 0 = .ok (.iconst 0, 1) := by decide +kernel
theorem dX7_count_1 : decode cX7_count 1 = .ok (.istore_n 2, 1) := by decide +kernel
theorem dX7_count_2 : decode cX7_count 2 = .ok (.iconst 0, 1) := by decide +kernel
theorem dX7_count_3 : decode cX7_count 3 = .ok (.istore_n 3, 1) := by decide +kernel
theorem dX7_count_4 : decode cX7_count 4 = .ok (.iload_n 3, 1) := by decide +kernel
theorem dX7_count_5 : decode cX7_count 5 = .ok (.bipush 8, 2) := by decide +kernel
theorem dX7_count_7 : decode cX7_count 7 = .ok (.if_icmp .ge 26, 3) := by decide +kernel
theorem dX7_count_10 : decode cX7_count 10 = .ok (.iload_n 2, 1) := by decide +kernel
theorem dX7_count_11 : decode cX7_count 11 = .ok (.aload_n 0, 1) := by decide +kernel
theorem dX7_count_12 : decode cX7_count 12 = .ok (.getfield 7, 3) := by decide +kernel
theorem dX7_count_15 : decode cX7_count 15 = .ok (.iload_n 3, 1) := by decide +kernel
theorem dX7_count_16 : decode cX7_count 16 = .ok (.iaload, 1) := by decide +kernel
theorem dX7_count_17 : decode cX7_count 17 = .ok (.ifCond .lt 7, 3) := by decide +kernel
theorem dX7_count_20 : decode cX7_count 20 = .ok (.iconst 1, 1) := by decide +kernel
theorem dX7_count_21 : decode cX7_count 21 = .ok (.goto 4, 3) := by decide +kernel
theorem dX7_count_24 : decode cX7_count 24 = .ok (.iconst 0, 1) := by decide +kernel
theorem dX7_count_25 : decode cX7_count 25 = .ok (.iadd, 1) := by decide +kernel
theorem dX7_count_26 : decode cX7_count 26 = .ok (.istore_n 2, 1) := by decide +kernel
theorem dX7_count_27 : decode cX7_count 27 = .ok (.iinc 3 1, 3) := by decide +kernel
theorem dX7_count_30 : decode cX7_count 30 = .ok (.goto (-26), 3) := by decide +kernel
theorem dX7_count_33 : decode cX7_count 33 = .ok (.iload_n 1, 1) := by decide +kernel
theorem dX7_count_34 : decode cX7_count 34 = .ok (.tableswitch 86 0 7 #[46, 48, 53, 58, 63, 71, 76, 81], 46) := by decide +kernel
theorem dX7_count_80 : decode cX7_count 80 = .ok (.iload_n 2, 1) := by decide +kernel
theorem dX7_count_81 : decode cX7_count 81 = .ok (.ireturn, 1) := by decide +kernel
theorem dX7_count_82 : decode cX7_count 82 = .ok (.aload_n 0, 1) := by decide +kernel
theorem dX7_count_83 : decode cX7_count 83 = .ok (.getfield 177, 3) := by decide +kernel
theorem dX7_count_86 : decode cX7_count 86 = .ok (.ireturn, 1) := by decide +kernel
theorem dX7_count_87 : decode cX7_count 87 = .ok (.aload_n 0, 1) := by decide +kernel
theorem dX7_count_88 : decode cX7_count 88 = .ok (.getfield 180, 3) := by decide +kernel
theorem dX7_count_91 : decode cX7_count 91 = .ok (.ireturn, 1) := by decide +kernel
theorem dX7_count_92 : decode cX7_count 92 = .ok (.aload_n 0, 1) := by decide +kernel
theorem dX7_count_93 : decode cX7_count 93 = .ok (.getfield 183, 3) := by decide +kernel
theorem dX7_count_96 : decode cX7_count 96 = .ok (.ireturn, 1) := by decide +kernel
theorem dX7_count_97 : decode cX7_count 97 = .ok (.aload_n 0, 1) := by decide +kernel
theorem dX7_count_98 : decode cX7_count 98 = .ok (.getfield 31, 3) := by decide +kernel
theorem dX7_count_101 : decode cX7_count 101 = .ok (.bipush 13, 2) := by decide +kernel
theorem dX7_count_103 : decode cX7_count 103 = .ok (.iaload, 1) := by decide +kernel
theorem dX7_count_104 : decode cX7_count 104 = .ok (.ireturn, 1) := by decide +kernel
theorem dX7_count_105 : decode cX7_count 105 = .ok (.aload_n 0, 1) := by decide +kernel
theorem dX7_count_106 : decode cX7_count 106 = .ok (.invokevirtual 240, 3) := by decide +kernel
theorem dX7_count_109 : decode cX7_count 109 = .ok (.ireturn, 1) := by decide +kernel
theorem dX7_count_110 : decode cX7_count 110 = .ok (.aload_n 0, 1) := by decide +kernel
theorem dX7_count_111 : decode cX7_count 111 = .ok (.getfield 192, 3) := by decide +kernel
theorem dX7_count_114 : decode cX7_count 114 = .ok (.ireturn, 1) := by decide +kernel
theorem dX7_count_115 : decode cX7_count 115 = .ok (.aload_n 0, 1) := by decide +kernel
theorem dX7_count_116 : decode cX7_count 116 = .ok (.getfield 108, 3) := by decide +kernel
theorem dX7_count_119 : decode cX7_count 119 = .ok (.ireturn, 1) := by decide +kernel
theorem dX7_count_120 : decode cX7_count 120 = .ok (.ldc 93, 2) := by decide +kernel
theorem dX7_count_122 : decode cX7_count 122 = .ok (.ireturn, 1) := by decide +kernel
theorem dJ6_bitCount_0f7a4_0 : decode cJ6_bitCount_0f7a4 0 = .ok (.iload_n 0, 1) := by decide +kernel
theorem dJ6_bitCount_0f7a4_1 : decode cJ6_bitCount_0f7a4 1 = .ok (.iload_n 0, 1) := by decide +kernel
theorem dJ6_bitCount_0f7a4_2 : decode cJ6_bitCount_0f7a4 2 = .ok (.iconst 1, 1) := by decide +kernel
theorem dJ6_bitCount_0f7a4_3 : decode cJ6_bitCount_0f7a4 3 = .ok (.iushr, 1) := by decide +kernel
theorem dJ6_bitCount_0f7a4_4 : decode cJ6_bitCount_0f7a4 4 = .ok (.ldc_w 265, 3) := by decide +kernel
theorem dJ6_bitCount_0f7a4_7 : decode cJ6_bitCount_0f7a4 7 = .ok (.iand, 1) := by decide +kernel
theorem dJ6_bitCount_0f7a4_8 : decode cJ6_bitCount_0f7a4 8 = .ok (.isub, 1) := by decide +kernel
theorem dJ6_bitCount_0f7a4_9 : decode cJ6_bitCount_0f7a4 9 = .ok (.istore_n 0, 1) := by decide +kernel
theorem dJ6_bitCount_0f7a4_10 : decode cJ6_bitCount_0f7a4 10 = .ok (.iload_n 0, 1) := by decide +kernel
theorem dJ6_bitCount_0f7a4_11 : decode cJ6_bitCount_0f7a4 11 = .ok (.ldc_w 266, 3) := by decide +kernel
theorem dJ6_bitCount_0f7a4_14 : decode cJ6_bitCount_0f7a4 14 = .ok (.iand, 1) := by decide +kernel
theorem dJ6_bitCount_0f7a4_15 : decode cJ6_bitCount_0f7a4 15 = .ok (.iload_n 0, 1) := by decide +kernel
theorem dJ6_bitCount_0f7a4_16 : decode cJ6_bitCount_0f7a4 16 = .ok (.iconst 2, 1) := by decide +kernel
theorem dJ6_bitCount_0f7a4_17 : decode cJ6_bitCount_0f7a4 17 = .ok (.iushr, 1) := by decide +kernel
theorem dJ6_bitCount_0f7a4_18 : decode cJ6_bitCount_0f7a4 18 = .ok (.ldc_w 266, 3) := by decide +kernel
theorem dJ6_bitCount_0f7a4_21 : decode cJ6_bitCount_0f7a4 21 = .ok (.iand, 1) := by decide +kernel
theorem dJ6_bitCount_0f7a4_22 : decode cJ6_bitCount_0f7a4 22 = .ok (.iadd, 1) := by decide +kernel
theorem dJ6_bitCount_0f7a4_23 : decode cJ6_bitCount_0f7a4 23 = .ok (.istore_n 0, 1) := by decide +kernel
theorem dJ6_bitCount_0f7a4_24 : decode cJ6_bitCount_0f7a4 24 = .ok (.iload_n 0, 1) := by decide +kernel
theorem dJ6_bitCount_0f7a4_25 : decode cJ6_bitCount_0f7a4 25 = .ok (.iload_n 0, 1) := by decide +kernel
theorem dJ6_bitCount_0f7a4_26 : decode cJ6_bitCount_0f7a4 26 = .ok (.iconst 4, 1) := by decide +kernel
theorem dJ6_bitCount_0f7a4_27 : decode cJ6_bitCount_0f7a4 27 = .ok (.iushr, 1) := by decide +kernel
theorem dJ6_bitCount_0f7a4_28 : decode cJ6_bitCount_0f7a4 28 = .ok (.iadd, 1) := by decide +kernel
theorem dJ6_bitCount_0f7a4_29 : decode cJ6_bitCount_0f7a4 29 = .ok (.ldc_w 267, 3) := by decide +kernel
theorem dJ6_bitCount_0f7a4_32 : decode cJ6_bitCount_0f7a4 32 = .ok (.iand, 1) := by decide +kernel
theorem dJ6_bitCount_0f7a4_33 : decode cJ6_bitCount_0f7a4 33 = .ok (.istore_n 0, 1) := by decide +kernel
theorem dJ6_bitCount_0f7a4_34 : decode cJ6_bitCount_0f7a4 34 = .ok (.iload_n 0, 1) := by decide +kernel
theorem dJ6_bitCount_0f7a4_35 : decode cJ6_bitCount_0f7a4 35 = .ok (.iload_n 0, 1) := by decide +kernel
theorem dJ6_bitCount_0f7a4_36 : decode cJ6_bitCount_0f7a4 36 = .ok (.bipush 8, 2) := by decide +kernel
theorem dJ6_bitCount_0f7a4_38 : decode cJ6_bitCount_0f7a4 38 = .ok (.iushr, 1) := by decide +kernel
theorem dJ6_bitCount_0f7a4_39 : decode cJ6_bitCount_0f7a4 39 = .ok (.iadd, 1) := by decide +kernel
theorem dJ6_bitCount_0f7a4_40 : decode cJ6_bitCount_0f7a4 40 = .ok (.istore_n 0, 1) := by decide +kernel
theorem dJ6_bitCount_0f7a4_41 : decode cJ6_bitCount_0f7a4 41 = .ok (.iload_n 0, 1) := by decide +kernel
theorem dJ6_bitCount_0f7a4_42 : decode cJ6_bitCount_0f7a4 42 = .ok (.iload_n 0, 1) := by decide +kernel
theorem dJ6_bitCount_0f7a4_43 : decode cJ6_bitCount_0f7a4 43 = .ok (.bipush 16, 2) := by decide +kernel
theorem dJ6_bitCount_0f7a4_45 : decode cJ6_bitCount_0f7a4 45 = .ok (.iushr, 1) := by decide +kernel
theorem dJ6_bitCount_0f7a4_46 : decode cJ6_bitCount_0f7a4 46 = .ok (.iadd, 1) := by decide +kernel
theorem dJ6_bitCount_0f7a4_47 : decode cJ6_bitCount_0f7a4 47 = .ok (.istore_n 0, 1) := by decide +kernel
theorem dJ6_bitCount_0f7a4_48 : decode cJ6_bitCount_0f7a4 48 = .ok (.iload_n 0, 1) := by decide +kernel
theorem dJ6_bitCount_0f7a4_49 : decode cJ6_bitCount_0f7a4 49 = .ok (.bipush 63, 2) := by decide +kernel
theorem dJ6_bitCount_0f7a4_51 : decode cJ6_bitCount_0f7a4 51 = .ok (.iand, 1) := by decide +kernel
theorem dJ6_bitCount_0f7a4_52 : decode cJ6_bitCount_0f7a4 52 = .ok (.ireturn, 1) := by decide +kernel
theorem dJ9_max_7cf53_0 : decode cJ9_max_7cf53 0 = .ok (.iload_n 0, 1) := by decide +kernel
theorem dJ9_max_7cf53_1 : decode cJ9_max_7cf53 1 = .ok (.iload_n 1, 1) := by decide +kernel
theorem dJ9_max_7cf53_2 : decode cJ9_max_7cf53 2 = .ok (.if_icmp .lt 7, 3) := by decide +kernel
theorem dJ9_max_7cf53_5 : decode cJ9_max_7cf53 5 = .ok (.iload_n 0, 1) := by decide +kernel
theorem dJ9_max_7cf53_6 : decode cJ9_max_7cf53 6 = .ok (.goto 4, 3) := by decide +kernel
theorem dJ9_max_7cf53_9 : decode cJ9_max_7cf53 9 = .ok (.iload_n 1, 1) := by decide +kernel
theorem dJ9_max_7cf53_10 : decode cJ9_max_7cf53 10 = .ok (.ireturn, 1) := by decide +kernel
theorem dJ9_min_7cf53_0 : decode cJ9_min_7cf53 0 = .ok (.iload_n 0, 1) := by decide +kernel
theorem dJ9_min_7cf53_1 : decode cJ9_min_7cf53 1 = .ok (.iload_n 1, 1) := by decide +kernel
theorem dJ9_min_7cf53_2 : decode cJ9_min_7cf53 2 = .ok (.if_icmp .gt 7, 3) := by decide +kernel
theorem dJ9_min_7cf53_5 : decode cJ9_min_7cf53 5 = .ok (.iload_n 0, 1) := by decide +kernel
theorem dJ9_min_7cf53_6 : decode cJ9_min_7cf53 6 = .ok (.goto 4, 3) := by decide +kernel
theorem dJ9_min_7cf53_9 : decode cJ9_min_7cf53 9 = .ok (.iload_n 1, 1) := by decide +kernel
theorem dJ9_min_7cf53_10 : decode cJ9_min_7cf53 10 = .ok (.ireturn, 1) := by decide +kernel
theorem dL_law_0 : decode cL_law 0 = .ok (.new 7, 3) := by decide +kernel
theorem dL_law_3 : decode cL_law 3 = .ok (.dup, 1) := by decide +kernel
theorem dL_law_4 : decode cL_law 4 = .ok (.invokespecial 9, 3) := by decide +kernel
theorem dL_law_7 : decode cL_law 7 = .ok (.astore_n 1, 1) := by decide +kernel
theorem dL_law_8 : decode cL_law 8 = .ok (.new 10, 3) := by decide +kernel
theorem dL_law_11 : decode cL_law 11 = .ok (.dup, 1) := by decide +kernel
theorem dL_law_12 : decode cL_law 12 = .ok (.invokespecial 12, 3) := by decide +kernel
theorem dL_law_15 : decode cL_law 15 = .ok (.astore_n 2, 1) := by decide +kernel
theorem dL_law_16 : decode cL_law 16 = .ok (.iconst 0, 1) := by decide +kernel
theorem dL_law_17 : decode cL_law 17 = .ok (.istore_n 3, 1) := by decide +kernel
theorem dL_law_18 : decode cL_law 18 = .ok (.iload_n 3, 1) := by decide +kernel
theorem dL_law_19 : decode cL_law 19 = .ok (.aload_n 0, 1) := by decide +kernel
theorem dL_law_20 : decode cL_law 20 = .ok (.arraylength, 1) := by decide +kernel
theorem dL_law_21 : decode cL_law 21 = .ok (.bipush 6, 2) := by decide +kernel
theorem dL_law_23 : decode cL_law 23 = .ok (.isub, 1) := by decide +kernel
theorem dL_law_24 : decode cL_law 24 = .ok (.if_icmp .gt 1263, 3) := by decide +kernel
theorem dL_law_27 : decode cL_law 27 = .ok (.aload_n 0, 1) := by decide +kernel
theorem dL_law_28 : decode cL_law 28 = .ok (.iload_n 3, 1) := by decide +kernel
theorem dL_law_29 : decode cL_law 29 = .ok (.iaload, 1) := by decide +kernel
theorem dL_law_30 : decode cL_law 30 = .ok (.bipush 63, 2) := by decide +kernel
theorem dL_law_32 : decode cL_law 32 = .ok (.iand, 1) := by decide +kernel
theorem dL_law_33 : decode cL_law 33 = .ok (.tableswitch 1248 0 35 #[159, 202, 245, 308, 331, 354, 367, 380, 393, 436, 469, 482, 505, 538, 571, 604, 627, 650, 673, 716, 729, 782, 825, 878, 901, 934, 978, 1011, 1054, 1077, 1100, 1123, 1156, 1189, 1212, 1235], 159) := by decide +kernel
theorem dL_law_192 : decode cL_law 192 = .ok (.aload_n 1, 1) := by decide +kernel
theorem dL_law_193 : decode cL_law 193 = .ok (.aload_n 0, 1) := by decide +kernel
theorem dL_law_194 : decode cL_law 194 = .ok (.iload_n 3, 1) := by decide +kernel
theorem dL_law_195 : decode cL_law 195 = .ok (.iconst 1, 1) := by decide +kernel
theorem dL_law_196 : decode cL_law 196 = .ok (.iadd, 1) := by decide +kernel
theorem dL_law_197 : decode cL_law 197 = .ok (.iaload, 1) := by decide +kernel
theorem dL_law_198 : decode cL_law 198 = .ok (.aload_n 0, 1) := by decide +kernel
theorem dL_law_199 : decode cL_law 199 = .ok (.iload_n 3, 1) := by decide +kernel
theorem dL_law_200 : decode cL_law 200 = .ok (.iconst 2, 1) := by decide +kernel
theorem dL_law_201 : decode cL_law 201 = .ok (.iadd, 1) := by decide +kernel
theorem dL_law_202 : decode cL_law 202 = .ok (.iaload, 1) := by decide +kernel
theorem dL_law_203 : decode cL_law 203 = .ok (.aload_n 0, 1) := by decide +kernel
theorem dL_law_204 : decode cL_law 204 = .ok (.iload_n 3, 1) := by decide +kernel
theorem dL_law_205 : decode cL_law 205 = .ok (.iconst 3, 1) := by decide +kernel
theorem dL_law_206 : decode cL_law 206 = .ok (.iadd, 1) := by decide +kernel
theorem dL_law_207 : decode cL_law 207 = .ok (.iaload, 1) := by decide +kernel
theorem dL_law_208 : decode cL_law 208 = .ok (.invokevirtual 13, 3) := by decide +kernel
theorem dL_law_211 : decode cL_law 211 = .ok (.aload_n 2, 1) := by decide +kernel
theorem dL_law_212 : decode cL_law 212 = .ok (.aload_n 0, 1) := by decide +kernel
theorem dL_law_213 : decode cL_law 213 = .ok (.iload_n 3, 1) := by decide +kernel
theorem dL_law_214 : decode cL_law 214 = .ok (.iconst 1, 1) := by decide +kernel
theorem dL_law_215 : decode cL_law 215 = .ok (.iadd, 1) := by decide +kernel
theorem dL_law_216 : decode cL_law 216 = .ok (.iaload, 1) := by decide +kernel
theorem dL_law_217 : decode cL_law 217 = .ok (.aload_n 0, 1) := by decide +kernel
theorem dL_law_218 : decode cL_law 218 = .ok (.iload_n 3, 1) := by decide +kernel
theorem dL_law_219 : decode cL_law 219 = .ok (.iconst 2, 1) := by decide +kernel
theorem dL_law_220 : decode cL_law 220 = .ok (.iadd, 1) := by decide +kernel
theorem dL_law_221 : decode cL_law 221 = .ok (.iaload, 1) := by decide +kernel
theorem dL_law_222 : decode cL_law 222 = .ok (.aload_n 0, 1) := by decide +kernel
theorem dL_law_223 : decode cL_law 223 = .ok (.iload_n 3, 1) := by decide +kernel
theorem dL_law_224 : decode cL_law 224 = .ok (.iconst 3, 1) := by decide +kernel
theorem dL_law_225 : decode cL_law 225 = .ok (.iadd, 1) := by decide +kernel
theorem dL_law_226 : decode cL_law 226 = .ok (.iaload, 1) := by decide +kernel
theorem dL_law_227 : decode cL_law 227 = .ok (.invokevirtual 17, 3) := by decide +kernel
theorem dL_law_230 : decode cL_law 230 = .ok (.if_icmp .eq 1051, 3) := by decide +kernel
theorem dL_law_233 : decode cL_law 233 = .ok (.iconst 0, 1) := by decide +kernel
theorem dL_law_234 : decode cL_law 234 = .ok (.ireturn, 1) := by decide +kernel
theorem dL_law_235 : decode cL_law 235 = .ok (.aload_n 1, 1) := by decide +kernel
theorem dL_law_236 : decode cL_law 236 = .ok (.aload_n 0, 1) := by decide +kernel
theorem dL_law_237 : decode cL_law 237 = .ok (.iload_n 3, 1) := by decide +kernel
theorem dL_law_238 : decode cL_law 238 = .ok (.iconst 1, 1) := by decide +kernel
theorem dL_law_239 : decode cL_law 239 = .ok (.iadd, 1) := by decide +kernel
theorem dL_law_240 : decode cL_law 240 = .ok (.iaload, 1) := by decide +kernel
theorem dL_law_241 : decode cL_law 241 = .ok (.aload_n 0, 1) := by decide +kernel
theorem dL_law_242 : decode cL_law 242 = .ok (.iload_n 3, 1) := by decide +kernel
theorem dL_law_243 : decode cL_law 243 = .ok (.iconst 2, 1) := by decide +kernel
theorem dL_law_244 : decode cL_law 244 = .ok (.iadd, 1) := by decide +kernel
theorem dL_law_245 : decode cL_law 245 = .ok (.iaload, 1) := by decide +kernel
theorem dL_law_246 : decode cL_law 246 = .ok (.aload_n 0, 1) := by decide +kernel
theorem dL_law_247 : decode cL_law 247 = .ok (.iload_n 3, 1) := by decide +kernel
theorem dL_law_248 : decode cL_law 248 = .ok (.iconst 3, 1) := by decide +kernel
theorem dL_law_249 : decode cL_law 249 = .ok (.iadd, 1) := by decide +kernel
theorem dL_law_250 : decode cL_law 250 = .ok (.iaload, 1) := by decide +kernel
theorem dL_law_251 : decode cL_law 251 = .ok (.invokevirtual 18, 3) := by decide +kernel
theorem dL_law_254 : decode cL_law 254 = .ok (.aload_n 2, 1) := by decide +kernel
theorem dL_law_255 : decode cL_law 255 = .ok (.aload_n 0, 1) := by decide +kernel
theorem dL_law_256 : decode cL_law 256 = .ok (.iload_n 3, 1) := by decide +kernel
theorem dL_law_257 : decode cL_law 257 = .ok (.iconst 1, 1) := by decide +kernel
theorem dL_law_258 : decode cL_law 258 = .ok (.iadd, 1) := by decide +kernel
theorem dL_law_259 : decode cL_law 259 = .ok (.iaload, 1) := by decide +kernel
theorem dL_law_260 : decode cL_law 260 = .ok (.aload_n 0, 1) := by decide +kernel
theorem dL_law_261 : decode cL_law 261 = .ok (.iload_n 3, 1) := by decide +kernel
theorem dL_law_262 : decode cL_law 262 = .ok (.iconst 2, 1) := by decide +kernel
theorem dL_law_263 : decode cL_law 263 = .ok (.iadd, 1) := by decide +kernel
theorem dL_law_264 : decode cL_law 264 = .ok (.iaload, 1) := by decide +kernel
theorem dL_law_265 : decode cL_law 265 = .ok (.aload_n 0, 1) := by decide +kernel
theorem dL_law_266 : decode cL_law 266 = .ok (.iload_n 3, 1) := by decide +kernel
theorem dL_law_267 : decode cL_law 267 = .ok (.iconst 3, 1) := by decide +kernel
theorem dL_law_268 : decode cL_law 268 = .ok (.iadd, 1) := by decide +kernel
theorem dL_law_269 : decode cL_law 269 = .ok (.iaload, 1) := by decide +kernel
theorem dL_law_270 : decode cL_law 270 = .ok (.invokevirtual 21, 3) := by decide +kernel
theorem dL_law_273 : decode cL_law 273 = .ok (.if_icmp .eq 1008, 3) := by decide +kernel
theorem dL_law_276 : decode cL_law 276 = .ok (.iconst 0, 1) := by decide +kernel
theorem dL_law_277 : decode cL_law 277 = .ok (.ireturn, 1) := by decide +kernel
theorem dL_law_278 : decode cL_law 278 = .ok (.aload_n 1, 1) := by decide +kernel
theorem dL_law_279 : decode cL_law 279 = .ok (.aload_n 0, 1) := by decide +kernel
theorem dL_law_280 : decode cL_law 280 = .ok (.iload_n 3, 1) := by decide +kernel
theorem dL_law_281 : decode cL_law 281 = .ok (.iconst 1, 1) := by decide +kernel
theorem dL_law_282 : decode cL_law 282 = .ok (.iadd, 1) := by decide +kernel
theorem dL_law_283 : decode cL_law 283 = .ok (.iaload, 1) := by decide +kernel
theorem dL_law_284 : decode cL_law 284 = .ok (.aload_n 0, 1) := by decide +kernel
theorem dL_law_285 : decode cL_law 285 = .ok (.iload_n 3, 1) := by decide +kernel
theorem dL_law_286 : decode cL_law 286 = .ok (.iconst 2, 1) := by decide +kernel
theorem dL_law_287 : decode cL_law 287 = .ok (.iadd, 1) := by decide +kernel
theorem dL_law_288 : decode cL_law 288 = .ok (.iaload, 1) := by decide +kernel
theorem dL_law_289 : decode cL_law 289 = .ok (.aload_n 0, 1) := by decide +kernel
theorem dL_law_290 : decode cL_law 290 = .ok (.iload_n 3, 1) := by decide +kernel
theorem dL_law_291 : decode cL_law 291 = .ok (.iconst 3, 1) := by decide +kernel
theorem dL_law_292 : decode cL_law 292 = .ok (.iadd, 1) := by decide +kernel
theorem dL_law_293 : decode cL_law 293 = .ok (.iaload, 1) := by decide +kernel
theorem dL_law_294 : decode cL_law 294 = .ok (.aload_n 0, 1) := by decide +kernel
theorem dL_law_295 : decode cL_law 295 = .ok (.iload_n 3, 1) := by decide +kernel
theorem dL_law_296 : decode cL_law 296 = .ok (.iconst 4, 1) := by decide +kernel
theorem dL_law_297 : decode cL_law 297 = .ok (.iadd, 1) := by decide +kernel
theorem dL_law_298 : decode cL_law 298 = .ok (.iaload, 1) := by decide +kernel
theorem dL_law_299 : decode cL_law 299 = .ok (.aload_n 0, 1) := by decide +kernel
theorem dL_law_300 : decode cL_law 300 = .ok (.iload_n 3, 1) := by decide +kernel
theorem dL_law_301 : decode cL_law 301 = .ok (.iconst 5, 1) := by decide +kernel
theorem dL_law_302 : decode cL_law 302 = .ok (.iadd, 1) := by decide +kernel
theorem dL_law_303 : decode cL_law 303 = .ok (.iaload, 1) := by decide +kernel
theorem dL_law_304 : decode cL_law 304 = .ok (.invokevirtual 22, 3) := by decide +kernel
theorem dL_law_307 : decode cL_law 307 = .ok (.aload_n 2, 1) := by decide +kernel
theorem dL_law_308 : decode cL_law 308 = .ok (.aload_n 0, 1) := by decide +kernel
theorem dL_law_309 : decode cL_law 309 = .ok (.iload_n 3, 1) := by decide +kernel
theorem dL_law_310 : decode cL_law 310 = .ok (.iconst 1, 1) := by decide +kernel
theorem dL_law_311 : decode cL_law 311 = .ok (.iadd, 1) := by decide +kernel
theorem dL_law_312 : decode cL_law 312 = .ok (.iaload, 1) := by decide +kernel
theorem dL_law_313 : decode cL_law 313 = .ok (.aload_n 0, 1) := by decide +kernel
theorem dL_law_314 : decode cL_law 314 = .ok (.iload_n 3, 1) := by decide +kernel
theorem dL_law_315 : decode cL_law 315 = .ok (.iconst 2, 1) := by decide +kernel
theorem dL_law_316 : decode cL_law 316 = .ok (.iadd, 1) := by decide +kernel
theorem dL_law_317 : decode cL_law 317 = .ok (.iaload, 1) := by decide +kernel
theorem dL_law_318 : decode cL_law 318 = .ok (.aload_n 0, 1) := by decide +kernel
theorem dL_law_319 : decode cL_law 319 = .ok (.iload_n 3, 1) := by decide +kernel
theorem dL_law_320 : decode cL_law 320 = .ok (.iconst 3, 1) := by decide +kernel
theorem dL_law_321 : decode cL_law 321 = .ok (.iadd, 1) := by decide +kernel
theorem dL_law_322 : decode cL_law 322 = .ok (.iaload, 1) := by decide +kernel
theorem dL_law_323 : decode cL_law 323 = .ok (.aload_n 0, 1) := by decide +kernel
theorem dL_law_324 : decode cL_law 324 = .ok (.iload_n 3, 1) := by decide +kernel
theorem dL_law_325 : decode cL_law 325 = .ok (.iconst 4, 1) := by decide +kernel
theorem dL_law_326 : decode cL_law 326 = .ok (.iadd, 1) := by decide +kernel
theorem dL_law_327 : decode cL_law 327 = .ok (.iaload, 1) := by decide +kernel
theorem dL_law_328 : decode cL_law 328 = .ok (.aload_n 0, 1) := by decide +kernel
theorem dL_law_329 : decode cL_law 329 = .ok (.iload_n 3, 1) := by decide +kernel
theorem dL_law_330 : decode cL_law 330 = .ok (.iconst 5, 1) := by decide +kernel
theorem dL_law_331 : decode cL_law 331 = .ok (.iadd, 1) := by decide +kernel
theorem dL_law_332 : decode cL_law 332 = .ok (.iaload, 1) := by decide +kernel
theorem dL_law_333 : decode cL_law 333 = .ok (.invokevirtual 26, 3) := by decide +kernel
theorem dL_law_336 : decode cL_law 336 = .ok (.if_icmp .eq 945, 3) := by decide +kernel
theorem dL_law_339 : decode cL_law 339 = .ok (.iconst 0, 1) := by decide +kernel
theorem dL_law_340 : decode cL_law 340 = .ok (.ireturn, 1) := by decide +kernel
theorem dL_law_341 : decode cL_law 341 = .ok (.aload_n 1, 1) := by decide +kernel
theorem dL_law_342 : decode cL_law 342 = .ok (.aload_n 0, 1) := by decide +kernel
theorem dL_law_343 : decode cL_law 343 = .ok (.iload_n 3, 1) := by decide +kernel
theorem dL_law_344 : decode cL_law 344 = .ok (.iconst 1, 1) := by decide +kernel
theorem dL_law_345 : decode cL_law 345 = .ok (.iadd, 1) := by decide +kernel
theorem dL_law_346 : decode cL_law 346 = .ok (.iaload, 1) := by decide +kernel
theorem dL_law_347 : decode cL_law 347 = .ok (.invokevirtual 27, 3) := by decide +kernel
theorem dL_law_350 : decode cL_law 350 = .ok (.aload_n 2, 1) := by decide +kernel
theorem dL_law_351 : decode cL_law 351 = .ok (.aload_n 0, 1) := by decide +kernel
theorem dL_law_352 : decode cL_law 352 = .ok (.iload_n 3, 1) := by decide +kernel
theorem dL_law_353 : decode cL_law 353 = .ok (.iconst 1, 1) := by decide +kernel
theorem dL_law_354 : decode cL_law 354 = .ok (.iadd, 1) := by decide +kernel
theorem dL_law_355 : decode cL_law 355 = .ok (.iaload, 1) := by decide +kernel
theorem dL_law_356 : decode cL_law 356 = .ok (.invokevirtual 31, 3) := by decide +kernel
theorem dL_law_359 : decode cL_law 359 = .ok (.if_icmp .eq 922, 3) := by decide +kernel
theorem dL_law_362 : decode cL_law 362 = .ok (.iconst 0, 1) := by decide +kernel
theorem dL_law_363 : decode cL_law 363 = .ok (.ireturn, 1) := by decide +kernel
theorem dL_law_364 : decode cL_law 364 = .ok (.aload_n 1, 1) := by decide +kernel
theorem dL_law_365 : decode cL_law 365 = .ok (.aload_n 0, 1) := by decide +kernel
theorem dL_law_366 : decode cL_law 366 = .ok (.iload_n 3, 1) := by decide +kernel
theorem dL_law_367 : decode cL_law 367 = .ok (.iconst 1, 1) := by decide +kernel
theorem dL_law_368 : decode cL_law 368 = .ok (.iadd, 1) := by decide +kernel
theorem dL_law_369 : decode cL_law 369 = .ok (.iaload, 1) := by decide +kernel
theorem dL_law_370 : decode cL_law 370 = .ok (.invokevirtual 32, 3) := by decide +kernel
theorem dL_law_373 : decode cL_law 373 = .ok (.aload_n 2, 1) := by decide +kernel
theorem dL_law_374 : decode cL_law 374 = .ok (.aload_n 0, 1) := by decide +kernel
theorem dL_law_375 : decode cL_law 375 = .ok (.iload_n 3, 1) := by decide +kernel
theorem dL_law_376 : decode cL_law 376 = .ok (.iconst 1, 1) := by decide +kernel
theorem dL_law_377 : decode cL_law 377 = .ok (.iadd, 1) := by decide +kernel
theorem dL_law_378 : decode cL_law 378 = .ok (.iaload, 1) := by decide +kernel
theorem dL_law_379 : decode cL_law 379 = .ok (.invokevirtual 35, 3) := by decide +kernel
theorem dL_law_382 : decode cL_law 382 = .ok (.if_icmp .eq 899, 3) := by decide +kernel
theorem dL_law_385 : decode cL_law 385 = .ok (.iconst 0, 1) := by decide +kernel
theorem dL_law_386 : decode cL_law 386 = .ok (.ireturn, 1) := by decide +kernel
theorem dL_law_387 : decode cL_law 387 = .ok (.aload_n 1, 1) := by decide +kernel
theorem dL_law_388 : decode cL_law 388 = .ok (.invokevirtual 36, 3) := by decide +kernel
theorem dL_law_391 : decode cL_law 391 = .ok (.aload_n 2, 1) := by decide +kernel
theorem dL_law_392 : decode cL_law 392 = .ok (.invokevirtual 40, 3) := by decide +kernel
theorem dL_law_395 : decode cL_law 395 = .ok (.if_icmp .eq 886, 3) := by decide +kernel
theorem dL_law_398 : decode cL_law 398 = .ok (.iconst 0, 1) := by decide +kernel
theorem dL_law_399 : decode cL_law 399 = .ok (.ireturn, 1) := by decide +kernel
theorem dL_law_400 : decode cL_law 400 = .ok (.aload_n 1, 1) := by decide +kernel
theorem dL_law_401 : decode cL_law 401 = .ok (.invokevirtual 41, 3) := by decide +kernel
theorem dL_law_404 : decode cL_law 404 = .ok (.aload_n 2, 1) := by decide +kernel
theorem dL_law_405 : decode cL_law 405 = .ok (.invokevirtual 44, 3) := by decide +kernel
theorem dL_law_408 : decode cL_law 408 = .ok (.if_icmp .eq 873, 3) := by decide +kernel
theorem dL_law_411 : decode cL_law 411 = .ok (.iconst 0, 1) := by decide +kernel
theorem dL_law_412 : decode cL_law 412 = .ok (.ireturn, 1) := by decide +kernel
theorem dL_law_413 : decode cL_law 413 = .ok (.aload_n 1, 1) := by decide +kernel
theorem dL_law_414 : decode cL_law 414 = .ok (.invokevirtual 45, 3) := by decide +kernel
theorem dL_law_417 : decode cL_law 417 = .ok (.aload_n 2, 1) := by decide +kernel
theorem dL_law_418 : decode cL_law 418 = .ok (.invokevirtual 48, 3) := by decide +kernel
theorem dL_law_421 : decode cL_law 421 = .ok (.if_icmp .eq 860, 3) := by decide +kernel
theorem dL_law_424 : decode cL_law 424 = .ok (.iconst 0, 1) := by decide +kernel
theorem dL_law_425 : decode cL_law 425 = .ok (.ireturn, 1) := by decide +kernel
theorem dL_law_426 : decode cL_law 426 = .ok (.aload_n 1, 1) := by decide +kernel
theorem dL_law_427 : decode cL_law 427 = .ok (.aload_n 0, 1) := by decide +kernel
theorem dL_law_428 : decode cL_law 428 = .ok (.iload_n 3, 1) := by decide +kernel
theorem dL_law_429 : decode cL_law 429 = .ok (.iconst 1, 1) := by decide +kernel
theorem dL_law_430 : decode cL_law 430 = .ok (.iadd, 1) := by decide +kernel
theorem dL_law_431 : decode cL_law 431 = .ok (.iaload, 1) := by decide +kernel
theorem dL_law_432 : decode cL_law 432 = .ok (.aload_n 0, 1) := by decide +kernel
theorem dL_law_433 : decode cL_law 433 = .ok (.iload_n 3, 1) := by decide +kernel
theorem dL_law_434 : decode cL_law 434 = .ok (.iconst 2, 1) := by decide +kernel
theorem dL_law_435 : decode cL_law 435 = .ok (.iadd, 1) := by decide +kernel
theorem dL_law_436 : decode cL_law 436 = .ok (.iaload, 1) := by decide +kernel
theorem dL_law_437 : decode cL_law 437 = .ok (.aload_n 0, 1) := by decide +kernel
theorem dL_law_438 : decode cL_law 438 = .ok (.iload_n 3, 1) := by decide +kernel
theorem dL_law_439 : decode cL_law 439 = .ok (.iconst 3, 1) := by decide +kernel
theorem dL_law_440 : decode cL_law 440 = .ok (.iadd, 1) := by decide +kernel
theorem dL_law_441 : decode cL_law 441 = .ok (.iaload, 1) := by decide +kernel
theorem dL_law_442 : decode cL_law 442 = .ok (.invokevirtual 49, 3) := by decide +kernel
theorem dL_law_445 : decode cL_law 445 = .ok (.aload_n 2, 1) := by decide +kernel
theorem dL_law_446 : decode cL_law 446 = .ok (.aload_n 0, 1) := by decide +kernel
theorem dL_law_447 : decode cL_law 447 = .ok (.iload_n 3, 1) := by decide +kernel
theorem dL_law_448 : decode cL_law 448 = .ok (.iconst 1, 1) := by decide +kernel
theorem dL_law_449 : decode cL_law 449 = .ok (.iadd, 1) := by decide +kernel
theorem dL_law_450 : decode cL_law 450 = .ok (.iaload, 1) := by decide +kernel
theorem dL_law_451 : decode cL_law 451 = .ok (.aload_n 0, 1) := by decide +kernel
theorem dL_law_452 : decode cL_law 452 = .ok (.iload_n 3, 1) := by decide +kernel
theorem dL_law_453 : decode cL_law 453 = .ok (.iconst 2, 1) := by decide +kernel
theorem dL_law_454 : decode cL_law 454 = .ok (.iadd, 1) := by decide +kernel
theorem dL_law_455 : decode cL_law 455 = .ok (.iaload, 1) := by decide +kernel
theorem dL_law_456 : decode cL_law 456 = .ok (.aload_n 0, 1) := by decide +kernel
theorem dL_law_457 : decode cL_law 457 = .ok (.iload_n 3, 1) := by decide +kernel
theorem dL_law_458 : decode cL_law 458 = .ok (.iconst 3, 1) := by decide +kernel
theorem dL_law_459 : decode cL_law 459 = .ok (.iadd, 1) := by decide +kernel
theorem dL_law_460 : decode cL_law 460 = .ok (.iaload, 1) := by decide +kernel
theorem dL_law_461 : decode cL_law 461 = .ok (.invokevirtual 52, 3) := by decide +kernel
theorem dL_law_464 : decode cL_law 464 = .ok (.if_icmp .eq 817, 3) := by decide +kernel
theorem dL_law_467 : decode cL_law 467 = .ok (.iconst 0, 1) := by decide +kernel
theorem dL_law_468 : decode cL_law 468 = .ok (.ireturn, 1) := by decide +kernel
theorem dL_law_469 : decode cL_law 469 = .ok (.aload_n 1, 1) := by decide +kernel
theorem dL_law_470 : decode cL_law 470 = .ok (.aload_n 0, 1) := by decide +kernel
theorem dL_law_471 : decode cL_law 471 = .ok (.iload_n 3, 1) := by decide +kernel
theorem dL_law_472 : decode cL_law 472 = .ok (.iconst 1, 1) := by decide +kernel
theorem dL_law_473 : decode cL_law 473 = .ok (.iadd, 1) := by decide +kernel
theorem dL_law_474 : decode cL_law 474 = .ok (.iaload, 1) := by decide +kernel
theorem dL_law_475 : decode cL_law 475 = .ok (.aload_n 0, 1) := by decide +kernel
theorem dL_law_476 : decode cL_law 476 = .ok (.iload_n 3, 1) := by decide +kernel
theorem dL_law_477 : decode cL_law 477 = .ok (.iconst 2, 1) := by decide +kernel
theorem dL_law_478 : decode cL_law 478 = .ok (.iadd, 1) := by decide +kernel
theorem dL_law_479 : decode cL_law 479 = .ok (.iaload, 1) := by decide +kernel
theorem dL_law_480 : decode cL_law 480 = .ok (.invokevirtual 53, 3) := by decide +kernel
theorem dL_law_483 : decode cL_law 483 = .ok (.aload_n 2, 1) := by decide +kernel
theorem dL_law_484 : decode cL_law 484 = .ok (.aload_n 0, 1) := by decide +kernel
theorem dL_law_485 : decode cL_law 485 = .ok (.iload_n 3, 1) := by decide +kernel
theorem dL_law_486 : decode cL_law 486 = .ok (.iconst 1, 1) := by decide +kernel
theorem dL_law_487 : decode cL_law 487 = .ok (.iadd, 1) := by decide +kernel
theorem dL_law_488 : decode cL_law 488 = .ok (.iaload, 1) := by decide +kernel
theorem dL_law_489 : decode cL_law 489 = .ok (.aload_n 0, 1) := by decide +kernel
theorem dL_law_490 : decode cL_law 490 = .ok (.iload_n 3, 1) := by decide +kernel
theorem dL_law_491 : decode cL_law 491 = .ok (.iconst 2, 1) := by decide +kernel
theorem dL_law_492 : decode cL_law 492 = .ok (.iadd, 1) := by decide +kernel
theorem dL_law_493 : decode cL_law 493 = .ok (.iaload, 1) := by decide +kernel
theorem dL_law_494 : decode cL_law 494 = .ok (.invokevirtual 57, 3) := by decide +kernel
theorem dL_law_497 : decode cL_law 497 = .ok (.if_icmp .eq 784, 3) := by decide +kernel
theorem dL_law_500 : decode cL_law 500 = .ok (.iconst 0, 1) := by decide +kernel
theorem dL_law_501 : decode cL_law 501 = .ok (.ireturn, 1) := by decide +kernel
theorem dL_law_502 : decode cL_law 502 = .ok (.aload_n 1, 1) := by decide +kernel
theorem dL_law_503 : decode cL_law 503 = .ok (.invokevirtual 58, 3) := by decide +kernel
theorem dL_law_506 : decode cL_law 506 = .ok (.aload_n 2, 1) := by decide +kernel
theorem dL_law_507 : decode cL_law 507 = .ok (.invokevirtual 61, 3) := by decide +kernel
theorem dL_law_510 : decode cL_law 510 = .ok (.if_icmp .eq 771, 3) := by decide +kernel
theorem dL_law_513 : decode cL_law 513 = .ok (.iconst 0, 1) := by decide +kernel
theorem dL_law_514 : decode cL_law 514 = .ok (.ireturn, 1) := by decide +kernel
theorem dL_law_515 : decode cL_law 515 = .ok (.aload_n 1, 1) := by decide +kernel
theorem dL_law_516 : decode cL_law 516 = .ok (.aload_n 0, 1) := by decide +kernel
theorem dL_law_517 : decode cL_law 517 = .ok (.iload_n 3, 1) := by decide +kernel
theorem dL_law_518 : decode cL_law 518 = .ok (.iconst 1, 1) := by decide +kernel
theorem dL_law_519 : decode cL_law 519 = .ok (.iadd, 1) := by decide +kernel
theorem dL_law_520 : decode cL_law 520 = .ok (.iaload, 1) := by decide +kernel
theorem dL_law_521 : decode cL_law 521 = .ok (.invokevirtual 62, 3) := by decide +kernel
theorem dL_law_524 : decode cL_law 524 = .ok (.aload_n 2, 1) := by decide +kernel
theorem dL_law_525 : decode cL_law 525 = .ok (.aload_n 0, 1) := by decide +kernel
theorem dL_law_526 : decode cL_law 526 = .ok (.iload_n 3, 1) := by decide +kernel
theorem dL_law_527 : decode cL_law 527 = .ok (.iconst 1, 1) := by decide +kernel
theorem dL_law_528 : decode cL_law 528 = .ok (.iadd, 1) := by decide +kernel
theorem dL_law_529 : decode cL_law 529 = .ok (.iaload, 1) := by decide +kernel
theorem dL_law_530 : decode cL_law 530 = .ok (.invokevirtual 65, 3) := by decide +kernel
theorem dL_law_533 : decode cL_law 533 = .ok (.if_icmp .eq 748, 3) := by decide +kernel
theorem dL_law_536 : decode cL_law 536 = .ok (.iconst 0, 1) := by decide +kernel
theorem dL_law_537 : decode cL_law 537 = .ok (.ireturn, 1) := by decide +kernel
theorem dL_law_538 : decode cL_law 538 = .ok (.aload_n 1, 1) := by decide +kernel
theorem dL_law_539 : decode cL_law 539 = .ok (.aload_n 0, 1) := by decide +kernel
theorem dL_law_540 : decode cL_law 540 = .ok (.iload_n 3, 1) := by decide +kernel
theorem dL_law_541 : decode cL_law 541 = .ok (.iconst 1, 1) := by decide +kernel
theorem dL_law_542 : decode cL_law 542 = .ok (.iadd, 1) := by decide +kernel
theorem dL_law_543 : decode cL_law 543 = .ok (.iaload, 1) := by decide +kernel
theorem dL_law_544 : decode cL_law 544 = .ok (.aload_n 0, 1) := by decide +kernel
theorem dL_law_545 : decode cL_law 545 = .ok (.iload_n 3, 1) := by decide +kernel
theorem dL_law_546 : decode cL_law 546 = .ok (.iconst 2, 1) := by decide +kernel
theorem dL_law_547 : decode cL_law 547 = .ok (.iadd, 1) := by decide +kernel
theorem dL_law_548 : decode cL_law 548 = .ok (.iaload, 1) := by decide +kernel
theorem dL_law_549 : decode cL_law 549 = .ok (.invokevirtual 66, 3) := by decide +kernel
theorem dL_law_552 : decode cL_law 552 = .ok (.aload_n 2, 1) := by decide +kernel
theorem dL_law_553 : decode cL_law 553 = .ok (.aload_n 0, 1) := by decide +kernel
theorem dL_law_554 : decode cL_law 554 = .ok (.iload_n 3, 1) := by decide +kernel
theorem dL_law_555 : decode cL_law 555 = .ok (.iconst 1, 1) := by decide +kernel
theorem dL_law_556 : decode cL_law 556 = .ok (.iadd, 1) := by decide +kernel
theorem dL_law_557 : decode cL_law 557 = .ok (.iaload, 1) := by decide +kernel
theorem dL_law_558 : decode cL_law 558 = .ok (.aload_n 0, 1) := by decide +kernel
theorem dL_law_559 : decode cL_law 559 = .ok (.iload_n 3, 1) := by decide +kernel
theorem dL_law_560 : decode cL_law 560 = .ok (.iconst 2, 1) := by decide +kernel
theorem dL_law_561 : decode cL_law 561 = .ok (.iadd, 1) := by decide +kernel
theorem dL_law_562 : decode cL_law 562 = .ok (.iaload, 1) := by decide +kernel
theorem dL_law_563 : decode cL_law 563 = .ok (.invokevirtual 69, 3) := by decide +kernel
theorem dL_law_566 : decode cL_law 566 = .ok (.if_icmp .eq 715, 3) := by decide +kernel
theorem dL_law_569 : decode cL_law 569 = .ok (.iconst 0, 1) := by decide +kernel
theorem dL_law_570 : decode cL_law 570 = .ok (.ireturn, 1) := by decide +kernel
theorem dL_law_571 : decode cL_law 571 = .ok (.aload_n 1, 1) := by decide +kernel
theorem dL_law_572 : decode cL_law 572 = .ok (.aload_n 0, 1) := by decide +kernel
theorem dL_law_573 : decode cL_law 573 = .ok (.iload_n 3, 1) := by decide +kernel
theorem dL_law_574 : decode cL_law 574 = .ok (.iconst 1, 1) := by decide +kernel
theorem dL_law_575 : decode cL_law 575 = .ok (.iadd, 1) := by decide +kernel
theorem dL_law_576 : decode cL_law 576 = .ok (.iaload, 1) := by decide +kernel
theorem dL_law_577 : decode cL_law 577 = .ok (.aload_n 0, 1) := by decide +kernel
theorem dL_law_578 : decode cL_law 578 = .ok (.iload_n 3, 1) := by decide +kernel
theorem dL_law_579 : decode cL_law 579 = .ok (.iconst 2, 1) := by decide +kernel
theorem dL_law_580 : decode cL_law 580 = .ok (.iadd, 1) := by decide +kernel
theorem dL_law_581 : decode cL_law 581 = .ok (.iaload, 1) := by decide +kernel
theorem dL_law_582 : decode cL_law 582 = .ok (.invokevirtual 70, 3) := by decide +kernel
theorem dL_law_585 : decode cL_law 585 = .ok (.aload_n 2, 1) := by decide +kernel
theorem dL_law_586 : decode cL_law 586 = .ok (.aload_n 0, 1) := by decide +kernel
theorem dL_law_587 : decode cL_law 587 = .ok (.iload_n 3, 1) := by decide +kernel
theorem dL_law_588 : decode cL_law 588 = .ok (.iconst 1, 1) := by decide +kernel
theorem dL_law_589 : decode cL_law 589 = .ok (.iadd, 1) := by decide +kernel
theorem dL_law_590 : decode cL_law 590 = .ok (.iaload, 1) := by decide +kernel
theorem dL_law_591 : decode cL_law 591 = .ok (.aload_n 0, 1) := by decide +kernel
theorem dL_law_592 : decode cL_law 592 = .ok (.iload_n 3, 1) := by decide +kernel
theorem dL_law_593 : decode cL_law 593 = .ok (.iconst 2, 1) := by decide +kernel
theorem dL_law_594 : decode cL_law 594 = .ok (.iadd, 1) := by decide +kernel
theorem dL_law_595 : decode cL_law 595 = .ok (.iaload, 1) := by decide +kernel
theorem dL_law_596 : decode cL_law 596 = .ok (.invokevirtual 73, 3) := by decide +kernel
theorem dL_law_599 : decode cL_law 599 = .ok (.if_icmp .eq 682, 3) := by decide +kernel
theorem dL_law_602 : decode cL_law 602 = .ok (.iconst 0, 1) := by decide +kernel
theorem dL_law_603 : decode cL_law 603 = .ok (.ireturn, 1) := by decide +kernel
theorem dL_law_604 : decode cL_law 604 = .ok (.aload_n 1, 1) := by decide +kernel
theorem dL_law_605 : decode cL_law 605 = .ok (.aload_n 0, 1) := by decide +kernel
theorem dL_law_606 : decode cL_law 606 = .ok (.iload_n 3, 1) := by decide +kernel
theorem dL_law_607 : decode cL_law 607 = .ok (.iconst 1, 1) := by decide +kernel
theorem dL_law_608 : decode cL_law 608 = .ok (.iadd, 1) := by decide +kernel
theorem dL_law_609 : decode cL_law 609 = .ok (.iaload, 1) := by decide +kernel
theorem dL_law_610 : decode cL_law 610 = .ok (.aload_n 0, 1) := by decide +kernel
theorem dL_law_611 : decode cL_law 611 = .ok (.iload_n 3, 1) := by decide +kernel
theorem dL_law_612 : decode cL_law 612 = .ok (.iconst 2, 1) := by decide +kernel
theorem dL_law_613 : decode cL_law 613 = .ok (.iadd, 1) := by decide +kernel
theorem dL_law_614 : decode cL_law 614 = .ok (.iaload, 1) := by decide +kernel
theorem dL_law_615 : decode cL_law 615 = .ok (.invokevirtual 74, 3) := by decide +kernel
theorem dL_law_618 : decode cL_law 618 = .ok (.aload_n 2, 1) := by decide +kernel
theorem dL_law_619 : decode cL_law 619 = .ok (.aload_n 0, 1) := by decide +kernel
theorem dL_law_620 : decode cL_law 620 = .ok (.iload_n 3, 1) := by decide +kernel
theorem dL_law_621 : decode cL_law 621 = .ok (.iconst 1, 1) := by decide +kernel
theorem dL_law_622 : decode cL_law 622 = .ok (.iadd, 1) := by decide +kernel
theorem dL_law_623 : decode cL_law 623 = .ok (.iaload, 1) := by decide +kernel
theorem dL_law_624 : decode cL_law 624 = .ok (.aload_n 0, 1) := by decide +kernel
theorem dL_law_625 : decode cL_law 625 = .ok (.iload_n 3, 1) := by decide +kernel
theorem dL_law_626 : decode cL_law 626 = .ok (.iconst 2, 1) := by decide +kernel
theorem dL_law_627 : decode cL_law 627 = .ok (.iadd, 1) := by decide +kernel
theorem dL_law_628 : decode cL_law 628 = .ok (.iaload, 1) := by decide +kernel
theorem dL_law_629 : decode cL_law 629 = .ok (.invokevirtual 77, 3) := by decide +kernel
theorem dL_law_632 : decode cL_law 632 = .ok (.if_icmp .eq 649, 3) := by decide +kernel
theorem dL_law_635 : decode cL_law 635 = .ok (.iconst 0, 1) := by decide +kernel
theorem dL_law_636 : decode cL_law 636 = .ok (.ireturn, 1) := by decide +kernel
theorem dL_law_637 : decode cL_law 637 = .ok (.aload_n 1, 1) := by decide +kernel
theorem dL_law_638 : decode cL_law 638 = .ok (.aload_n 0, 1) := by decide +kernel
theorem dL_law_639 : decode cL_law 639 = .ok (.iload_n 3, 1) := by decide +kernel
theorem dL_law_640 : decode cL_law 640 = .ok (.iconst 1, 1) := by decide +kernel
theorem dL_law_641 : decode cL_law 641 = .ok (.iadd, 1) := by decide +kernel
theorem dL_law_642 : decode cL_law 642 = .ok (.iaload, 1) := by decide +kernel
theorem dL_law_643 : decode cL_law 643 = .ok (.invokevirtual 78, 3) := by decide +kernel
theorem dL_law_646 : decode cL_law 646 = .ok (.aload_n 2, 1) := by decide +kernel
theorem dL_law_647 : decode cL_law 647 = .ok (.aload_n 0, 1) := by decide +kernel
theorem dL_law_648 : decode cL_law 648 = .ok (.iload_n 3, 1) := by decide +kernel
theorem dL_law_649 : decode cL_law 649 = .ok (.iconst 1, 1) := by decide +kernel
theorem dL_law_650 : decode cL_law 650 = .ok (.iadd, 1) := by decide +kernel
theorem dL_law_651 : decode cL_law 651 = .ok (.iaload, 1) := by decide +kernel
theorem dL_law_652 : decode cL_law 652 = .ok (.invokevirtual 81, 3) := by decide +kernel
theorem dL_law_655 : decode cL_law 655 = .ok (.if_icmp .eq 626, 3) := by decide +kernel
theorem dL_law_658 : decode cL_law 658 = .ok (.iconst 0, 1) := by decide +kernel
theorem dL_law_659 : decode cL_law 659 = .ok (.ireturn, 1) := by decide +kernel
theorem dL_law_660 : decode cL_law 660 = .ok (.aload_n 1, 1) := by decide +kernel
theorem dL_law_661 : decode cL_law 661 = .ok (.aload_n 0, 1) := by decide +kernel
theorem dL_law_662 : decode cL_law 662 = .ok (.iload_n 3, 1) := by decide +kernel
theorem dL_law_663 : decode cL_law 663 = .ok (.iconst 1, 1) := by decide +kernel
theorem dL_law_664 : decode cL_law 664 = .ok (.iadd, 1) := by decide +kernel
theorem dL_law_665 : decode cL_law 665 = .ok (.iaload, 1) := by decide +kernel
theorem dL_law_666 : decode cL_law 666 = .ok (.invokevirtual 82, 3) := by decide +kernel
theorem dL_law_669 : decode cL_law 669 = .ok (.aload_n 2, 1) := by decide +kernel
theorem dL_law_670 : decode cL_law 670 = .ok (.aload_n 0, 1) := by decide +kernel
theorem dL_law_671 : decode cL_law 671 = .ok (.iload_n 3, 1) := by decide +kernel
theorem dL_law_672 : decode cL_law 672 = .ok (.iconst 1, 1) := by decide +kernel
theorem dL_law_673 : decode cL_law 673 = .ok (.iadd, 1) := by decide +kernel
theorem dL_law_674 : decode cL_law 674 = .ok (.iaload, 1) := by decide +kernel
theorem dL_law_675 : decode cL_law 675 = .ok (.invokevirtual 85, 3) := by decide +kernel
theorem dL_law_678 : decode cL_law 678 = .ok (.if_icmp .eq 603, 3) := by decide +kernel
theorem dL_law_681 : decode cL_law 681 = .ok (.iconst 0, 1) := by decide +kernel
theorem dL_law_682 : decode cL_law 682 = .ok (.ireturn, 1) := by decide +kernel
theorem dL_law_683 : decode cL_law 683 = .ok (.aload_n 1, 1) := by decide +kernel
theorem dL_law_684 : decode cL_law 684 = .ok (.aload_n 0, 1) := by decide +kernel
theorem dL_law_685 : decode cL_law 685 = .ok (.iload_n 3, 1) := by decide +kernel
theorem dL_law_686 : decode cL_law 686 = .ok (.iconst 1, 1) := by decide +kernel
theorem dL_law_687 : decode cL_law 687 = .ok (.iadd, 1) := by decide +kernel
theorem dL_law_688 : decode cL_law 688 = .ok (.iaload, 1) := by decide +kernel
theorem dL_law_689 : decode cL_law 689 = .ok (.invokevirtual 86, 3) := by decide +kernel
theorem dL_law_692 : decode cL_law 692 = .ok (.aload_n 2, 1) := by decide +kernel
theorem dL_law_693 : decode cL_law 693 = .ok (.aload_n 0, 1) := by decide +kernel
theorem dL_law_694 : decode cL_law 694 = .ok (.iload_n 3, 1) := by decide +kernel
theorem dL_law_695 : decode cL_law 695 = .ok (.iconst 1, 1) := by decide +kernel
theorem dL_law_696 : decode cL_law 696 = .ok (.iadd, 1) := by decide +kernel
theorem dL_law_697 : decode cL_law 697 = .ok (.iaload, 1) := by decide +kernel
theorem dL_law_698 : decode cL_law 698 = .ok (.invokevirtual 89, 3) := by decide +kernel
theorem dL_law_701 : decode cL_law 701 = .ok (.if_icmp .eq 580, 3) := by decide +kernel
theorem dL_law_704 : decode cL_law 704 = .ok (.iconst 0, 1) := by decide +kernel
theorem dL_law_705 : decode cL_law 705 = .ok (.ireturn, 1) := by decide +kernel
theorem dL_law_706 : decode cL_law 706 = .ok (.aload_n 1, 1) := by decide +kernel
theorem dL_law_707 : decode cL_law 707 = .ok (.aload_n 0, 1) := by decide +kernel
theorem dL_law_708 : decode cL_law 708 = .ok (.iload_n 3, 1) := by decide +kernel
theorem dL_law_709 : decode cL_law 709 = .ok (.iconst 1, 1) := by decide +kernel
theorem dL_law_710 : decode cL_law 710 = .ok (.iadd, 1) := by decide +kernel
theorem dL_law_711 : decode cL_law 711 = .ok (.iaload, 1) := by decide +kernel
theorem dL_law_712 : decode cL_law 712 = .ok (.aload_n 0, 1) := by decide +kernel
theorem dL_law_713 : decode cL_law 713 = .ok (.iload_n 3, 1) := by decide +kernel
theorem dL_law_714 : decode cL_law 714 = .ok (.iconst 2, 1) := by decide +kernel
theorem dL_law_715 : decode cL_law 715 = .ok (.iadd, 1) := by decide +kernel
theorem dL_law_716 : decode cL_law 716 = .ok (.iaload, 1) := by decide +kernel
theorem dL_law_717 : decode cL_law 717 = .ok (.aload_n 0, 1) := by decide +kernel
theorem dL_law_718 : decode cL_law 718 = .ok (.iload_n 3, 1) := by decide +kernel
theorem dL_law_719 : decode cL_law 719 = .ok (.iconst 3, 1) := by decide +kernel
theorem dL_law_720 : decode cL_law 720 = .ok (.iadd, 1) := by decide +kernel
theorem dL_law_721 : decode cL_law 721 = .ok (.iaload, 1) := by decide +kernel
theorem dL_law_722 : decode cL_law 722 = .ok (.invokevirtual 90, 3) := by decide +kernel
theorem dL_law_725 : decode cL_law 725 = .ok (.aload_n 2, 1) := by decide +kernel
theorem dL_law_726 : decode cL_law 726 = .ok (.aload_n 0, 1) := by decide +kernel
theorem dL_law_727 : decode cL_law 727 = .ok (.iload_n 3, 1) := by decide +kernel
theorem dL_law_728 : decode cL_law 728 = .ok (.iconst 1, 1) := by decide +kernel
theorem dL_law_729 : decode cL_law 729 = .ok (.iadd, 1) := by decide +kernel
theorem dL_law_730 : decode cL_law 730 = .ok (.iaload, 1) := by decide +kernel
theorem dL_law_731 : decode cL_law 731 = .ok (.aload_n 0, 1) := by decide +kernel
theorem dL_law_732 : decode cL_law 732 = .ok (.iload_n 3, 1) := by decide +kernel
theorem dL_law_733 : decode cL_law 733 = .ok (.iconst 2, 1) := by decide +kernel
theorem dL_law_734 : decode cL_law 734 = .ok (.iadd, 1) := by decide +kernel
theorem dL_law_735 : decode cL_law 735 = .ok (.iaload, 1) := by decide +kernel
theorem dL_law_736 : decode cL_law 736 = .ok (.aload_n 0, 1) := by decide +kernel
theorem dL_law_737 : decode cL_law 737 = .ok (.iload_n 3, 1) := by decide +kernel
theorem dL_law_738 : decode cL_law 738 = .ok (.iconst 3, 1) := by decide +kernel
theorem dL_law_739 : decode cL_law 739 = .ok (.iadd, 1) := by decide +kernel
theorem dL_law_740 : decode cL_law 740 = .ok (.iaload, 1) := by decide +kernel
theorem dL_law_741 : decode cL_law 741 = .ok (.invokevirtual 93, 3) := by decide +kernel
theorem dL_law_744 : decode cL_law 744 = .ok (.if_icmp .eq 537, 3) := by decide +kernel
theorem dL_law_747 : decode cL_law 747 = .ok (.iconst 0, 1) := by decide +kernel
theorem dL_law_748 : decode cL_law 748 = .ok (.ireturn, 1) := by decide +kernel
theorem dL_law_749 : decode cL_law 749 = .ok (.aload_n 1, 1) := by decide +kernel
theorem dL_law_750 : decode cL_law 750 = .ok (.invokevirtual 94, 3) := by decide +kernel
theorem dL_law_753 : decode cL_law 753 = .ok (.aload_n 2, 1) := by decide +kernel
theorem dL_law_754 : decode cL_law 754 = .ok (.invokevirtual 97, 3) := by decide +kernel
theorem dL_law_757 : decode cL_law 757 = .ok (.if_icmp .eq 524, 3) := by decide +kernel
theorem dL_law_760 : decode cL_law 760 = .ok (.iconst 0, 1) := by decide +kernel
theorem dL_law_761 : decode cL_law 761 = .ok (.ireturn, 1) := by decide +kernel
theorem dL_law_762 : decode cL_law 762 = .ok (.aload_n 1, 1) := by decide +kernel
theorem dL_law_763 : decode cL_law 763 = .ok (.aload_n 0, 1) := by decide +kernel
theorem dL_law_764 : decode cL_law 764 = .ok (.iload_n 3, 1) := by decide +kernel
theorem dL_law_765 : decode cL_law 765 = .ok (.iconst 1, 1) := by decide +kernel
theorem dL_law_766 : decode cL_law 766 = .ok (.iadd, 1) := by decide +kernel
theorem dL_law_767 : decode cL_law 767 = .ok (.iaload, 1) := by decide +kernel
theorem dL_law_768 : decode cL_law 768 = .ok (.aload_n 0, 1) := by decide +kernel
theorem dL_law_769 : decode cL_law 769 = .ok (.iload_n 3, 1) := by decide +kernel
theorem dL_law_770 : decode cL_law 770 = .ok (.iconst 2, 1) := by decide +kernel
theorem dL_law_771 : decode cL_law 771 = .ok (.iadd, 1) := by decide +kernel
theorem dL_law_772 : decode cL_law 772 = .ok (.iaload, 1) := by decide +kernel
theorem dL_law_773 : decode cL_law 773 = .ok (.aload_n 0, 1) := by decide +kernel
theorem dL_law_774 : decode cL_law 774 = .ok (.iload_n 3, 1) := by decide +kernel
theorem dL_law_775 : decode cL_law 775 = .ok (.iconst 3, 1) := by decide +kernel
theorem dL_law_776 : decode cL_law 776 = .ok (.iadd, 1) := by decide +kernel
theorem dL_law_777 : decode cL_law 777 = .ok (.iaload, 1) := by decide +kernel
theorem dL_law_778 : decode cL_law 778 = .ok (.aload_n 0, 1) := by decide +kernel
theorem dL_law_779 : decode cL_law 779 = .ok (.iload_n 3, 1) := by decide +kernel
theorem dL_law_780 : decode cL_law 780 = .ok (.iconst 4, 1) := by decide +kernel
theorem dL_law_781 : decode cL_law 781 = .ok (.iadd, 1) := by decide +kernel
theorem dL_law_782 : decode cL_law 782 = .ok (.iaload, 1) := by decide +kernel
theorem dL_law_783 : decode cL_law 783 = .ok (.invokevirtual 98, 3) := by decide +kernel
theorem dL_law_786 : decode cL_law 786 = .ok (.aload_n 2, 1) := by decide +kernel
theorem dL_law_787 : decode cL_law 787 = .ok (.aload_n 0, 1) := by decide +kernel
theorem dL_law_788 : decode cL_law 788 = .ok (.iload_n 3, 1) := by decide +kernel
theorem dL_law_789 : decode cL_law 789 = .ok (.iconst 1, 1) := by decide +kernel
theorem dL_law_790 : decode cL_law 790 = .ok (.iadd, 1) := by decide +kernel
theorem dL_law_791 : decode cL_law 791 = .ok (.iaload, 1) := by decide +kernel
theorem dL_law_792 : decode cL_law 792 = .ok (.aload_n 0, 1) := by decide +kernel
theorem dL_law_793 : decode cL_law 793 = .ok (.iload_n 3, 1) := by decide +kernel
theorem dL_law_794 : decode cL_law 794 = .ok (.iconst 2, 1) := by decide +kernel
theorem dL_law_795 : decode cL_law 795 = .ok (.iadd, 1) := by decide +kernel
theorem dL_law_796 : decode cL_law 796 = .ok (.iaload, 1) := by decide +kernel
theorem dL_law_797 : decode cL_law 797 = .ok (.aload_n 0, 1) := by decide +kernel
theorem dL_law_798 : decode cL_law 798 = .ok (.iload_n 3, 1) := by decide +kernel
theorem dL_law_799 : decode cL_law 799 = .ok (.iconst 3, 1) := by decide +kernel
theorem dL_law_800 : decode cL_law 800 = .ok (.iadd, 1) := by decide +kernel
theorem dL_law_801 : decode cL_law 801 = .ok (.iaload, 1) := by decide +kernel
theorem dL_law_802 : decode cL_law 802 = .ok (.aload_n 0, 1) := by decide +kernel
theorem dL_law_803 : decode cL_law 803 = .ok (.iload_n 3, 1) := by decide +kernel
theorem dL_law_804 : decode cL_law 804 = .ok (.iconst 4, 1) := by decide +kernel
theorem dL_law_805 : decode cL_law 805 = .ok (.iadd, 1) := by decide +kernel
theorem dL_law_806 : decode cL_law 806 = .ok (.iaload, 1) := by decide +kernel
theorem dL_law_807 : decode cL_law 807 = .ok (.invokevirtual 102, 3) := by decide +kernel
theorem dL_law_810 : decode cL_law 810 = .ok (.if_icmp .eq 471, 3) := by decide +kernel
theorem dL_law_813 : decode cL_law 813 = .ok (.iconst 0, 1) := by decide +kernel
theorem dL_law_814 : decode cL_law 814 = .ok (.ireturn, 1) := by decide +kernel
theorem dL_law_815 : decode cL_law 815 = .ok (.aload_n 1, 1) := by decide +kernel
theorem dL_law_816 : decode cL_law 816 = .ok (.aload_n 0, 1) := by decide +kernel
theorem dL_law_817 : decode cL_law 817 = .ok (.iload_n 3, 1) := by decide +kernel
theorem dL_law_818 : decode cL_law 818 = .ok (.iconst 1, 1) := by decide +kernel
theorem dL_law_819 : decode cL_law 819 = .ok (.iadd, 1) := by decide +kernel
theorem dL_law_820 : decode cL_law 820 = .ok (.iaload, 1) := by decide +kernel
theorem dL_law_821 : decode cL_law 821 = .ok (.aload_n 0, 1) := by decide +kernel
theorem dL_law_822 : decode cL_law 822 = .ok (.iload_n 3, 1) := by decide +kernel
theorem dL_law_823 : decode cL_law 823 = .ok (.iconst 2, 1) := by decide +kernel
theorem dL_law_824 : decode cL_law 824 = .ok (.iadd, 1) := by decide +kernel
theorem dL_law_825 : decode cL_law 825 = .ok (.iaload, 1) := by decide +kernel
theorem dL_law_826 : decode cL_law 826 = .ok (.aload_n 0, 1) := by decide +kernel
theorem dL_law_827 : decode cL_law 827 = .ok (.iload_n 3, 1) := by decide +kernel
theorem dL_law_828 : decode cL_law 828 = .ok (.iconst 3, 1) := by decide +kernel
theorem dL_law_829 : decode cL_law 829 = .ok (.iadd, 1) := by decide +kernel
theorem dL_law_830 : decode cL_law 830 = .ok (.iaload, 1) := by decide +kernel
theorem dL_law_831 : decode cL_law 831 = .ok (.invokevirtual 103, 3) := by decide +kernel
theorem dL_law_834 : decode cL_law 834 = .ok (.aload_n 2, 1) := by decide +kernel
theorem dL_law_835 : decode cL_law 835 = .ok (.aload_n 0, 1) := by decide +kernel
theorem dL_law_836 : decode cL_law 836 = .ok (.iload_n 3, 1) := by decide +kernel
theorem dL_law_837 : decode cL_law 837 = .ok (.iconst 1, 1) := by decide +kernel
theorem dL_law_838 : decode cL_law 838 = .ok (.iadd, 1) := by decide +kernel
theorem dL_law_839 : decode cL_law 839 = .ok (.iaload, 1) := by decide +kernel
theorem dL_law_840 : decode cL_law 840 = .ok (.aload_n 0, 1) := by decide +kernel
theorem dL_law_841 : decode cL_law 841 = .ok (.iload_n 3, 1) := by decide +kernel
theorem dL_law_842 : decode cL_law 842 = .ok (.iconst 2, 1) := by decide +kernel
theorem dL_law_843 : decode cL_law 843 = .ok (.iadd, 1) := by decide +kernel
theorem dL_law_844 : decode cL_law 844 = .ok (.iaload, 1) := by decide +kernel
theorem dL_law_845 : decode cL_law 845 = .ok (.aload_n 0, 1) := by decide +kernel
theorem dL_law_846 : decode cL_law 846 = .ok (.iload_n 3, 1) := by decide +kernel
theorem dL_law_847 : decode cL_law 847 = .ok (.iconst 3, 1) := by decide +kernel
theorem dL_law_848 : decode cL_law 848 = .ok (.iadd, 1) := by decide +kernel
theorem dL_law_849 : decode cL_law 849 = .ok (.iaload, 1) := by decide +kernel
theorem dL_law_850 : decode cL_law 850 = .ok (.invokevirtual 106, 3) := by decide +kernel
theorem dL_law_853 : decode cL_law 853 = .ok (.if_icmp .eq 428, 3) := by decide +kernel
theorem dL_law_856 : decode cL_law 856 = .ok (.iconst 0, 1) := by decide +kernel
theorem dL_law_857 : decode cL_law 857 = .ok (.ireturn, 1) := by decide +kernel
theorem dL_law_858 : decode cL_law 858 = .ok (.aload_n 1, 1) := by decide +kernel
theorem dL_law_859 : decode cL_law 859 = .ok (.aload_n 0, 1) := by decide +kernel
theorem dL_law_860 : decode cL_law 860 = .ok (.iload_n 3, 1) := by decide +kernel
theorem dL_law_861 : decode cL_law 861 = .ok (.iconst 1, 1) := by decide +kernel
theorem dL_law_862 : decode cL_law 862 = .ok (.iadd, 1) := by decide +kernel
theorem dL_law_863 : decode cL_law 863 = .ok (.iaload, 1) := by decide +kernel
theorem dL_law_864 : decode cL_law 864 = .ok (.aload_n 0, 1) := by decide +kernel
theorem dL_law_865 : decode cL_law 865 = .ok (.iload_n 3, 1) := by decide +kernel
theorem dL_law_866 : decode cL_law 866 = .ok (.iconst 2, 1) := by decide +kernel
theorem dL_law_867 : decode cL_law 867 = .ok (.iadd, 1) := by decide +kernel
theorem dL_law_868 : decode cL_law 868 = .ok (.iaload, 1) := by decide +kernel
theorem dL_law_869 : decode cL_law 869 = .ok (.aload_n 0, 1) := by decide +kernel
theorem dL_law_870 : decode cL_law 870 = .ok (.iload_n 3, 1) := by decide +kernel
theorem dL_law_871 : decode cL_law 871 = .ok (.iconst 3, 1) := by decide +kernel
theorem dL_law_872 : decode cL_law 872 = .ok (.iadd, 1) := by decide +kernel
theorem dL_law_873 : decode cL_law 873 = .ok (.iaload, 1) := by decide +kernel
theorem dL_law_874 : decode cL_law 874 = .ok (.aload_n 0, 1) := by decide +kernel
theorem dL_law_875 : decode cL_law 875 = .ok (.iload_n 3, 1) := by decide +kernel
theorem dL_law_876 : decode cL_law 876 = .ok (.iconst 4, 1) := by decide +kernel
theorem dL_law_877 : decode cL_law 877 = .ok (.iadd, 1) := by decide +kernel
theorem dL_law_878 : decode cL_law 878 = .ok (.iaload, 1) := by decide +kernel
theorem dL_law_879 : decode cL_law 879 = .ok (.invokevirtual 107, 3) := by decide +kernel
theorem dL_law_882 : decode cL_law 882 = .ok (.aload_n 2, 1) := by decide +kernel
theorem dL_law_883 : decode cL_law 883 = .ok (.aload_n 0, 1) := by decide +kernel
theorem dL_law_884 : decode cL_law 884 = .ok (.iload_n 3, 1) := by decide +kernel
theorem dL_law_885 : decode cL_law 885 = .ok (.iconst 1, 1) := by decide +kernel
theorem dL_law_886 : decode cL_law 886 = .ok (.iadd, 1) := by decide +kernel
theorem dL_law_887 : decode cL_law 887 = .ok (.iaload, 1) := by decide +kernel
theorem dL_law_888 : decode cL_law 888 = .ok (.aload_n 0, 1) := by decide +kernel
theorem dL_law_889 : decode cL_law 889 = .ok (.iload_n 3, 1) := by decide +kernel
theorem dL_law_890 : decode cL_law 890 = .ok (.iconst 2, 1) := by decide +kernel
theorem dL_law_891 : decode cL_law 891 = .ok (.iadd, 1) := by decide +kernel
theorem dL_law_892 : decode cL_law 892 = .ok (.iaload, 1) := by decide +kernel
theorem dL_law_893 : decode cL_law 893 = .ok (.aload_n 0, 1) := by decide +kernel
theorem dL_law_894 : decode cL_law 894 = .ok (.iload_n 3, 1) := by decide +kernel
theorem dL_law_895 : decode cL_law 895 = .ok (.iconst 3, 1) := by decide +kernel
theorem dL_law_896 : decode cL_law 896 = .ok (.iadd, 1) := by decide +kernel
theorem dL_law_897 : decode cL_law 897 = .ok (.iaload, 1) := by decide +kernel
theorem dL_law_898 : decode cL_law 898 = .ok (.aload_n 0, 1) := by decide +kernel
theorem dL_law_899 : decode cL_law 899 = .ok (.iload_n 3, 1) := by decide +kernel
theorem dL_law_900 : decode cL_law 900 = .ok (.iconst 4, 1) := by decide +kernel
theorem dL_law_901 : decode cL_law 901 = .ok (.iadd, 1) := by decide +kernel
theorem dL_law_902 : decode cL_law 902 = .ok (.iaload, 1) := by decide +kernel
theorem dL_law_903 : decode cL_law 903 = .ok (.invokevirtual 110, 3) := by decide +kernel
theorem dL_law_906 : decode cL_law 906 = .ok (.if_icmp .eq 375, 3) := by decide +kernel
theorem dL_law_909 : decode cL_law 909 = .ok (.iconst 0, 1) := by decide +kernel
theorem dL_law_910 : decode cL_law 910 = .ok (.ireturn, 1) := by decide +kernel
theorem dL_law_911 : decode cL_law 911 = .ok (.aload_n 1, 1) := by decide +kernel
theorem dL_law_912 : decode cL_law 912 = .ok (.aload_n 0, 1) := by decide +kernel
theorem dL_law_913 : decode cL_law 913 = .ok (.iload_n 3, 1) := by decide +kernel
theorem dL_law_914 : decode cL_law 914 = .ok (.iconst 1, 1) := by decide +kernel
theorem dL_law_915 : decode cL_law 915 = .ok (.iadd, 1) := by decide +kernel
theorem dL_law_916 : decode cL_law 916 = .ok (.iaload, 1) := by decide +kernel
theorem dL_law_917 : decode cL_law 917 = .ok (.invokevirtual 111, 3) := by decide +kernel
theorem dL_law_920 : decode cL_law 920 = .ok (.aload_n 2, 1) := by decide +kernel
theorem dL_law_921 : decode cL_law 921 = .ok (.aload_n 0, 1) := by decide +kernel
theorem dL_law_922 : decode cL_law 922 = .ok (.iload_n 3, 1) := by decide +kernel
theorem dL_law_923 : decode cL_law 923 = .ok (.iconst 1, 1) := by decide +kernel
theorem dL_law_924 : decode cL_law 924 = .ok (.iadd, 1) := by decide +kernel
theorem dL_law_925 : decode cL_law 925 = .ok (.iaload, 1) := by decide +kernel
theorem dL_law_926 : decode cL_law 926 = .ok (.invokevirtual 114, 3) := by decide +kernel
theorem dL_law_929 : decode cL_law 929 = .ok (.if_icmp .eq 352, 3) := by decide +kernel
theorem dL_law_932 : decode cL_law 932 = .ok (.iconst 0, 1) := by decide +kernel
theorem dL_law_933 : decode cL_law 933 = .ok (.ireturn, 1) := by decide +kernel
theorem dL_law_934 : decode cL_law 934 = .ok (.aload_n 1, 1) := by decide +kernel
theorem dL_law_935 : decode cL_law 935 = .ok (.aload_n 0, 1) := by decide +kernel
theorem dL_law_936 : decode cL_law 936 = .ok (.iload_n 3, 1) := by decide +kernel
theorem dL_law_937 : decode cL_law 937 = .ok (.iconst 1, 1) := by decide +kernel
theorem dL_law_938 : decode cL_law 938 = .ok (.iadd, 1) := by decide +kernel
theorem dL_law_939 : decode cL_law 939 = .ok (.iaload, 1) := by decide +kernel
theorem dL_law_940 : decode cL_law 940 = .ok (.aload_n 0, 1) := by decide +kernel
theorem dL_law_941 : decode cL_law 941 = .ok (.iload_n 3, 1) := by decide +kernel
theorem dL_law_942 : decode cL_law 942 = .ok (.iconst 2, 1) := by decide +kernel
theorem dL_law_943 : decode cL_law 943 = .ok (.iadd, 1) := by decide +kernel
theorem dL_law_944 : decode cL_law 944 = .ok (.iaload, 1) := by decide +kernel
theorem dL_law_945 : decode cL_law 945 = .ok (.invokevirtual 115, 3) := by decide +kernel
theorem dL_law_948 : decode cL_law 948 = .ok (.aload_n 2, 1) := by decide +kernel
theorem dL_law_949 : decode cL_law 949 = .ok (.aload_n 0, 1) := by decide +kernel
theorem dL_law_950 : decode cL_law 950 = .ok (.iload_n 3, 1) := by decide +kernel
theorem dL_law_951 : decode cL_law 951 = .ok (.iconst 1, 1) := by decide +kernel
theorem dL_law_952 : decode cL_law 952 = .ok (.iadd, 1) := by decide +kernel
theorem dL_law_953 : decode cL_law 953 = .ok (.iaload, 1) := by decide +kernel
theorem dL_law_954 : decode cL_law 954 = .ok (.aload_n 0, 1) := by decide +kernel
theorem dL_law_955 : decode cL_law 955 = .ok (.iload_n 3, 1) := by decide +kernel
theorem dL_law_956 : decode cL_law 956 = .ok (.iconst 2, 1) := by decide +kernel
theorem dL_law_957 : decode cL_law 957 = .ok (.iadd, 1) := by decide +kernel
theorem dL_law_958 : decode cL_law 958 = .ok (.iaload, 1) := by decide +kernel
theorem dL_law_959 : decode cL_law 959 = .ok (.invokevirtual 118, 3) := by decide +kernel
theorem dL_law_962 : decode cL_law 962 = .ok (.if_icmp .eq 319, 3) := by decide +kernel
theorem dL_law_965 : decode cL_law 965 = .ok (.iconst 0, 1) := by decide +kernel
theorem dL_law_966 : decode cL_law 966 = .ok (.ireturn, 1) := by decide +kernel
theorem dL_law_967 : decode cL_law 967 = .ok (.aload_n 1, 1) := by decide +kernel
theorem dL_law_968 : decode cL_law 968 = .ok (.aload_n 0, 1) := by decide +kernel
theorem dL_law_969 : decode cL_law 969 = .ok (.iload_n 3, 1) := by decide +kernel
theorem dL_law_970 : decode cL_law 970 = .ok (.iconst 1, 1) := by decide +kernel
theorem dL_law_971 : decode cL_law 971 = .ok (.iadd, 1) := by decide +kernel
theorem dL_law_972 : decode cL_law 972 = .ok (.iaload, 1) := by decide +kernel
theorem dL_law_973 : decode cL_law 973 = .ok (.aload_n 0, 1) := by decide +kernel
theorem dL_law_974 : decode cL_law 974 = .ok (.iload_n 3, 1) := by decide +kernel
theorem dL_law_975 : decode cL_law 975 = .ok (.iconst 2, 1) := by decide +kernel
theorem dL_law_976 : decode cL_law 976 = .ok (.iadd, 1) := by decide +kernel
theorem dL_law_977 : decode cL_law 977 = .ok (.iaload, 1) := by decide +kernel
theorem dL_law_978 : decode cL_law 978 = .ok (.aload_n 0, 1) := by decide +kernel
theorem dL_law_979 : decode cL_law 979 = .ok (.iload_n 3, 1) := by decide +kernel
theorem dL_law_980 : decode cL_law 980 = .ok (.iconst 3, 1) := by decide +kernel
theorem dL_law_981 : decode cL_law 981 = .ok (.iadd, 1) := by decide +kernel
theorem dL_law_982 : decode cL_law 982 = .ok (.iaload, 1) := by decide +kernel
theorem dL_law_983 : decode cL_law 983 = .ok (.invokevirtual 119, 3) := by decide +kernel
theorem dL_law_986 : decode cL_law 986 = .ok (.aload_n 2, 1) := by decide +kernel
theorem dL_law_987 : decode cL_law 987 = .ok (.aload_n 0, 1) := by decide +kernel
theorem dL_law_988 : decode cL_law 988 = .ok (.iload_n 3, 1) := by decide +kernel
theorem dL_law_989 : decode cL_law 989 = .ok (.iconst 1, 1) := by decide +kernel
theorem dL_law_990 : decode cL_law 990 = .ok (.iadd, 1) := by decide +kernel
theorem dL_law_991 : decode cL_law 991 = .ok (.iaload, 1) := by decide +kernel
theorem dL_law_992 : decode cL_law 992 = .ok (.aload_n 0, 1) := by decide +kernel
theorem dL_law_993 : decode cL_law 993 = .ok (.iload_n 3, 1) := by decide +kernel
theorem dL_law_994 : decode cL_law 994 = .ok (.iconst 2, 1) := by decide +kernel
theorem dL_law_995 : decode cL_law 995 = .ok (.iadd, 1) := by decide +kernel
theorem dL_law_996 : decode cL_law 996 = .ok (.iaload, 1) := by decide +kernel
theorem dL_law_997 : decode cL_law 997 = .ok (.aload_n 0, 1) := by decide +kernel
theorem dL_law_998 : decode cL_law 998 = .ok (.iload_n 3, 1) := by decide +kernel
theorem dL_law_999 : decode cL_law 999 = .ok (.iconst 3, 1) := by decide +kernel
theorem dL_law_1000 : decode cL_law 1000 = .ok (.iadd, 1) := by decide +kernel
theorem dL_law_1001 : decode cL_law 1001 = .ok (.iaload, 1) := by decide +kernel
theorem dL_law_1002 : decode cL_law 1002 = .ok (.invokevirtual 123, 3) := by decide +kernel
theorem dL_law_1005 : decode cL_law 1005 = .ok (.lcmp, 1) := by decide +kernel
theorem dL_law_1006 : decode cL_law 1006 = .ok (.ifCond .eq 275, 3) := by decide +kernel
theorem dL_law_1009 : decode cL_law 1009 = .ok (.iconst 0, 1) := by decide +kernel
theorem dL_law_1010 : decode cL_law 1010 = .ok (.ireturn, 1) := by decide +kernel
theorem dL_law_1011 : decode cL_law 1011 = .ok (.aload_n 1, 1) := by decide +kernel
theorem dL_law_1012 : decode cL_law 1012 = .ok (.aload_n 0, 1) := by decide +kernel
theorem dL_law_1013 : decode cL_law 1013 = .ok (.iload_n 3, 1) := by decide +kernel
theorem dL_law_1014 : decode cL_law 1014 = .ok (.iconst 1, 1) := by decide +kernel
theorem dL_law_1015 : decode cL_law 1015 = .ok (.iadd, 1) := by decide +kernel
theorem dL_law_1016 : decode cL_law 1016 = .ok (.iaload, 1) := by decide +kernel
theorem dL_law_1017 : decode cL_law 1017 = .ok (.aload_n 0, 1) := by decide +kernel
theorem dL_law_1018 : decode cL_law 1018 = .ok (.iload_n 3, 1) := by decide +kernel
theorem dL_law_1019 : decode cL_law 1019 = .ok (.iconst 2, 1) := by decide +kernel
theorem dL_law_1020 : decode cL_law 1020 = .ok (.iadd, 1) := by decide +kernel
theorem dL_law_1021 : decode cL_law 1021 = .ok (.iaload, 1) := by decide +kernel
theorem dL_law_1022 : decode cL_law 1022 = .ok (.invokevirtual 124, 3) := by decide +kernel
theorem dL_law_1025 : decode cL_law 1025 = .ok (.aload_n 2, 1) := by decide +kernel
theorem dL_law_1026 : decode cL_law 1026 = .ok (.aload_n 0, 1) := by decide +kernel
theorem dL_law_1027 : decode cL_law 1027 = .ok (.iload_n 3, 1) := by decide +kernel
theorem dL_law_1028 : decode cL_law 1028 = .ok (.iconst 1, 1) := by decide +kernel
theorem dL_law_1029 : decode cL_law 1029 = .ok (.iadd, 1) := by decide +kernel
theorem dL_law_1030 : decode cL_law 1030 = .ok (.iaload, 1) := by decide +kernel
theorem dL_law_1031 : decode cL_law 1031 = .ok (.aload_n 0, 1) := by decide +kernel
theorem dL_law_1032 : decode cL_law 1032 = .ok (.iload_n 3, 1) := by decide +kernel
theorem dL_law_1033 : decode cL_law 1033 = .ok (.iconst 2, 1) := by decide +kernel
theorem dL_law_1034 : decode cL_law 1034 = .ok (.iadd, 1) := by decide +kernel
theorem dL_law_1035 : decode cL_law 1035 = .ok (.iaload, 1) := by decide +kernel
theorem dL_law_1036 : decode cL_law 1036 = .ok (.invokevirtual 127, 3) := by decide +kernel
theorem dL_law_1039 : decode cL_law 1039 = .ok (.if_icmp .eq 242, 3) := by decide +kernel
theorem dL_law_1042 : decode cL_law 1042 = .ok (.iconst 0, 1) := by decide +kernel
theorem dL_law_1043 : decode cL_law 1043 = .ok (.ireturn, 1) := by decide +kernel
theorem dL_law_1044 : decode cL_law 1044 = .ok (.aload_n 1, 1) := by decide +kernel
theorem dL_law_1045 : decode cL_law 1045 = .ok (.aload_n 0, 1) := by decide +kernel
theorem dL_law_1046 : decode cL_law 1046 = .ok (.iload_n 3, 1) := by decide +kernel
theorem dL_law_1047 : decode cL_law 1047 = .ok (.iconst 1, 1) := by decide +kernel
theorem dL_law_1048 : decode cL_law 1048 = .ok (.iadd, 1) := by decide +kernel
theorem dL_law_1049 : decode cL_law 1049 = .ok (.iaload, 1) := by decide +kernel
theorem dL_law_1050 : decode cL_law 1050 = .ok (.aload_n 0, 1) := by decide +kernel
theorem dL_law_1051 : decode cL_law 1051 = .ok (.iload_n 3, 1) := by decide +kernel
theorem dL_law_1052 : decode cL_law 1052 = .ok (.iconst 2, 1) := by decide +kernel
theorem dL_law_1053 : decode cL_law 1053 = .ok (.iadd, 1) := by decide +kernel
theorem dL_law_1054 : decode cL_law 1054 = .ok (.iaload, 1) := by decide +kernel
theorem dL_law_1055 : decode cL_law 1055 = .ok (.aload_n 0, 1) := by decide +kernel
theorem dL_law_1056 : decode cL_law 1056 = .ok (.iload_n 3, 1) := by decide +kernel
theorem dL_law_1057 : decode cL_law 1057 = .ok (.iconst 3, 1) := by decide +kernel
theorem dL_law_1058 : decode cL_law 1058 = .ok (.iadd, 1) := by decide +kernel
theorem dL_law_1059 : decode cL_law 1059 = .ok (.iaload, 1) := by decide +kernel
theorem dL_law_1060 : decode cL_law 1060 = .ok (.invokevirtual 128, 3) := by decide +kernel
theorem dL_law_1063 : decode cL_law 1063 = .ok (.aload_n 2, 1) := by decide +kernel
theorem dL_law_1064 : decode cL_law 1064 = .ok (.aload_n 0, 1) := by decide +kernel
theorem dL_law_1065 : decode cL_law 1065 = .ok (.iload_n 3, 1) := by decide +kernel
theorem dL_law_1066 : decode cL_law 1066 = .ok (.iconst 1, 1) := by decide +kernel
theorem dL_law_1067 : decode cL_law 1067 = .ok (.iadd, 1) := by decide +kernel
theorem dL_law_1068 : decode cL_law 1068 = .ok (.iaload, 1) := by decide +kernel
theorem dL_law_1069 : decode cL_law 1069 = .ok (.aload_n 0, 1) := by decide +kernel
theorem dL_law_1070 : decode cL_law 1070 = .ok (.iload_n 3, 1) := by decide +kernel
theorem dL_law_1071 : decode cL_law 1071 = .ok (.iconst 2, 1) := by decide +kernel
theorem dL_law_1072 : decode cL_law 1072 = .ok (.iadd, 1) := by decide +kernel
theorem dL_law_1073 : decode cL_law 1073 = .ok (.iaload, 1) := by decide +kernel
theorem dL_law_1074 : decode cL_law 1074 = .ok (.aload_n 0, 1) := by decide +kernel
theorem dL_law_1075 : decode cL_law 1075 = .ok (.iload_n 3, 1) := by decide +kernel
theorem dL_law_1076 : decode cL_law 1076 = .ok (.iconst 3, 1) := by decide +kernel
theorem dL_law_1077 : decode cL_law 1077 = .ok (.iadd, 1) := by decide +kernel
theorem dL_law_1078 : decode cL_law 1078 = .ok (.iaload, 1) := by decide +kernel
theorem dL_law_1079 : decode cL_law 1079 = .ok (.invokevirtual 131, 3) := by decide +kernel
theorem dL_law_1082 : decode cL_law 1082 = .ok (.if_icmp .eq 199, 3) := by decide +kernel
theorem dL_law_1085 : decode cL_law 1085 = .ok (.iconst 0, 1) := by decide +kernel
theorem dL_law_1086 : decode cL_law 1086 = .ok (.ireturn, 1) := by decide +kernel
theorem dL_law_1087 : decode cL_law 1087 = .ok (.aload_n 1, 1) := by decide +kernel
theorem dL_law_1088 : decode cL_law 1088 = .ok (.aload_n 0, 1) := by decide +kernel
theorem dL_law_1089 : decode cL_law 1089 = .ok (.iload_n 3, 1) := by decide +kernel
theorem dL_law_1090 : decode cL_law 1090 = .ok (.iconst 1, 1) := by decide +kernel
theorem dL_law_1091 : decode cL_law 1091 = .ok (.iadd, 1) := by decide +kernel
theorem dL_law_1092 : decode cL_law 1092 = .ok (.iaload, 1) := by decide +kernel
theorem dL_law_1093 : decode cL_law 1093 = .ok (.invokevirtual 132, 3) := by decide +kernel
theorem dL_law_1096 : decode cL_law 1096 = .ok (.aload_n 2, 1) := by decide +kernel
theorem dL_law_1097 : decode cL_law 1097 = .ok (.aload_n 0, 1) := by decide +kernel
theorem dL_law_1098 : decode cL_law 1098 = .ok (.iload_n 3, 1) := by decide +kernel
theorem dL_law_1099 : decode cL_law 1099 = .ok (.iconst 1, 1) := by decide +kernel
theorem dL_law_1100 : decode cL_law 1100 = .ok (.iadd, 1) := by decide +kernel
theorem dL_law_1101 : decode cL_law 1101 = .ok (.iaload, 1) := by decide +kernel
theorem dL_law_1102 : decode cL_law 1102 = .ok (.invokevirtual 135, 3) := by decide +kernel
theorem dL_law_1105 : decode cL_law 1105 = .ok (.if_icmp .eq 176, 3) := by decide +kernel
theorem dL_law_1108 : decode cL_law 1108 = .ok (.iconst 0, 1) := by decide +kernel
theorem dL_law_1109 : decode cL_law 1109 = .ok (.ireturn, 1) := by decide +kernel
theorem dL_law_1110 : decode cL_law 1110 = .ok (.aload_n 1, 1) := by decide +kernel
theorem dL_law_1111 : decode cL_law 1111 = .ok (.aload_n 0, 1) := by decide +kernel
theorem dL_law_1112 : decode cL_law 1112 = .ok (.iload_n 3, 1) := by decide +kernel
theorem dL_law_1113 : decode cL_law 1113 = .ok (.iconst 1, 1) := by decide +kernel
theorem dL_law_1114 : decode cL_law 1114 = .ok (.iadd, 1) := by decide +kernel
theorem dL_law_1115 : decode cL_law 1115 = .ok (.iaload, 1) := by decide +kernel
theorem dL_law_1116 : decode cL_law 1116 = .ok (.invokevirtual 136, 3) := by decide +kernel
theorem dL_law_1119 : decode cL_law 1119 = .ok (.aload_n 2, 1) := by decide +kernel
theorem dL_law_1120 : decode cL_law 1120 = .ok (.aload_n 0, 1) := by decide +kernel
theorem dL_law_1121 : decode cL_law 1121 = .ok (.iload_n 3, 1) := by decide +kernel
theorem dL_law_1122 : decode cL_law 1122 = .ok (.iconst 1, 1) := by decide +kernel
theorem dL_law_1123 : decode cL_law 1123 = .ok (.iadd, 1) := by decide +kernel
theorem dL_law_1124 : decode cL_law 1124 = .ok (.iaload, 1) := by decide +kernel
theorem dL_law_1125 : decode cL_law 1125 = .ok (.invokevirtual 139, 3) := by decide +kernel
theorem dL_law_1128 : decode cL_law 1128 = .ok (.if_icmp .eq 153, 3) := by decide +kernel
theorem dL_law_1131 : decode cL_law 1131 = .ok (.iconst 0, 1) := by decide +kernel
theorem dL_law_1132 : decode cL_law 1132 = .ok (.ireturn, 1) := by decide +kernel
theorem dL_law_1133 : decode cL_law 1133 = .ok (.aload_n 1, 1) := by decide +kernel
theorem dL_law_1134 : decode cL_law 1134 = .ok (.aload_n 0, 1) := by decide +kernel
theorem dL_law_1135 : decode cL_law 1135 = .ok (.iload_n 3, 1) := by decide +kernel
theorem dL_law_1136 : decode cL_law 1136 = .ok (.iconst 1, 1) := by decide +kernel
theorem dL_law_1137 : decode cL_law 1137 = .ok (.iadd, 1) := by decide +kernel
theorem dL_law_1138 : decode cL_law 1138 = .ok (.iaload, 1) := by decide +kernel
theorem dL_law_1139 : decode cL_law 1139 = .ok (.invokevirtual 140, 3) := by decide +kernel
theorem dL_law_1142 : decode cL_law 1142 = .ok (.aload_n 2, 1) := by decide +kernel
theorem dL_law_1143 : decode cL_law 1143 = .ok (.aload_n 0, 1) := by decide +kernel
theorem dL_law_1144 : decode cL_law 1144 = .ok (.iload_n 3, 1) := by decide +kernel
theorem dL_law_1145 : decode cL_law 1145 = .ok (.iconst 1, 1) := by decide +kernel
theorem dL_law_1146 : decode cL_law 1146 = .ok (.iadd, 1) := by decide +kernel
theorem dL_law_1147 : decode cL_law 1147 = .ok (.iaload, 1) := by decide +kernel
theorem dL_law_1148 : decode cL_law 1148 = .ok (.invokevirtual 143, 3) := by decide +kernel
theorem dL_law_1151 : decode cL_law 1151 = .ok (.if_icmp .eq 130, 3) := by decide +kernel
theorem dL_law_1154 : decode cL_law 1154 = .ok (.iconst 0, 1) := by decide +kernel
theorem dL_law_1155 : decode cL_law 1155 = .ok (.ireturn, 1) := by decide +kernel
theorem dL_law_1156 : decode cL_law 1156 = .ok (.aload_n 1, 1) := by decide +kernel
theorem dL_law_1157 : decode cL_law 1157 = .ok (.aload_n 0, 1) := by decide +kernel
theorem dL_law_1158 : decode cL_law 1158 = .ok (.iload_n 3, 1) := by decide +kernel
theorem dL_law_1159 : decode cL_law 1159 = .ok (.iconst 1, 1) := by decide +kernel
theorem dL_law_1160 : decode cL_law 1160 = .ok (.iadd, 1) := by decide +kernel
theorem dL_law_1161 : decode cL_law 1161 = .ok (.iaload, 1) := by decide +kernel
theorem dL_law_1162 : decode cL_law 1162 = .ok (.aload_n 0, 1) := by decide +kernel
theorem dL_law_1163 : decode cL_law 1163 = .ok (.iload_n 3, 1) := by decide +kernel
theorem dL_law_1164 : decode cL_law 1164 = .ok (.iconst 2, 1) := by decide +kernel
theorem dL_law_1165 : decode cL_law 1165 = .ok (.iadd, 1) := by decide +kernel
theorem dL_law_1166 : decode cL_law 1166 = .ok (.iaload, 1) := by decide +kernel
theorem dL_law_1167 : decode cL_law 1167 = .ok (.invokevirtual 144, 3) := by decide +kernel
theorem dL_law_1170 : decode cL_law 1170 = .ok (.aload_n 2, 1) := by decide +kernel
theorem dL_law_1171 : decode cL_law 1171 = .ok (.aload_n 0, 1) := by decide +kernel
theorem dL_law_1172 : decode cL_law 1172 = .ok (.iload_n 3, 1) := by decide +kernel
theorem dL_law_1173 : decode cL_law 1173 = .ok (.iconst 1, 1) := by decide +kernel
