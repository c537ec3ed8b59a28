theorem dX0_init_0 : decode cX0_init 0 = .ok (.aload_n 0, 1) := by decide +kernel
theorem dX0_init_1 : decode cX0_init 1 = .ok (.invokespecial 3, 3) := by decide +kernel
theorem dX0_init_4 : decode cX0_init 4 = .ok (.aload_n 0, 1) := by decide +kernel
theorem dX0_init_5 : decode cX0_init 5 = .ok (.bipush 16, 2) := by decide +kernel
theorem dX0_init_7 : decode cX0_init 7 = .ok (.newarray .int, 2) := by decide +kernel
theorem dX0_init_9 : decode cX0_init 9 = .ok (.putfield 9, 3) := by decide +kernel
theorem dX0_init_12 : decode cX0_init 12 = .ok (.aload_n 0, 1) := by decide +kernel
theorem dX0_init_13 : decode cX0_init 13 = .ok (.iconst 0, 1) := by decide +kernel
theorem dX0_init_14 : decode cX0_init 14 = .ok (.putfield 15, 3) := by decide +kernel
theorem dX0_init_17 : decode cX0_init 17 = .ok (.aload_n 0, 1) := by decide +kernel
theorem dX0_init_18 : decode cX0_init 18 = .ok (.iconst 0, 1) := by decide +kernel
theorem dX0_init_19 : decode cX0_init 19 = .ok (.putfield 19, 3) := by decide +kernel
theorem dX0_init_22 : decode cX0_init 22 = .ok (.aload_n 0, 1) := by decide +kernel
theorem dX0_init_23 : decode cX0_init 23 = .ok (.iconst 0, 1) := by decide +kernel
theorem dX0_init_24 : decode cX0_init 24 = .ok (.putfield 22, 3) := by decide +kernel
theorem dX0_init_27 : decode cX0_init 27 = .ok (.aload_n 0, 1) := by decide +kernel
theorem dX0_init_28 : decode cX0_init 28 = .ok (.iconst 0, 1) := by decide +kernel
theorem dX0_init_29 : decode cX0_init 29 = .ok (.putfield 25, 3) := by decide +kernel
theorem dX0_init_32 : decode cX0_init 32 = .ok (.aload_n 0, 1) := by decide +kernel
theorem dX0_init_33 : decode cX0_init 33 = .ok (.iconst 0, 1) := by decide +kernel
theorem dX0_init_34 : decode cX0_init 34 = .ok (.putfield 28, 3) := by decide +kernel
theorem dX0_init_37 : decode cX0_init 37 = .ok (.return_, 1) := by decide +kernel
theorem dX0_begin_0 : decode cX0_begin 0 = .ok (.aload_n 0, 1) := by decide +kernel
theorem dX0_begin_1 : decode cX0_begin 1 = .ok (.iconst 0, 1) := by decide +kernel
theorem dX0_begin_2 : decode cX0_begin 2 = .ok (.putfield 15, 3) := by decide +kernel
theorem dX0_begin_5 : decode cX0_begin 5 = .ok (.aload_n 0, 1) := by decide +kernel
theorem dX0_begin_6 : decode cX0_begin 6 = .ok (.iload_n 1, 1) := by decide +kernel
theorem dX0_begin_7 : decode cX0_begin 7 = .ok (.putfield 19, 3) := by decide +kernel
theorem dX0_begin_10 : decode cX0_begin 10 = .ok (.aload_n 0, 1) := by decide +kernel
theorem dX0_begin_11 : decode cX0_begin 11 = .ok (.iload_n 2, 1) := by decide +kernel
theorem dX0_begin_12 : decode cX0_begin 12 = .ok (.putfield 22, 3) := by decide +kernel
theorem dX0_begin_15 : decode cX0_begin 15 = .ok (.aload_n 0, 1) := by decide +kernel
theorem dX0_begin_16 : decode cX0_begin 16 = .ok (.iload_n 3, 1) := by decide +kernel
theorem dX0_begin_17 : decode cX0_begin 17 = .ok (.putfield 25, 3) := by decide +kernel
theorem dX0_begin_20 : decode cX0_begin 20 = .ok (.aload_n 0, 1) := by decide +kernel
theorem dX0_begin_21 : decode cX0_begin 21 = .ok (.iload 4, 2) := by decide +kernel
theorem dX0_begin_23 : decode cX0_begin 23 = .ok (.putfield 28, 3) := by decide +kernel
theorem dX0_begin_26 : decode cX0_begin 26 = .ok (.return_, 1) := by decide +kernel
theorem dX0_leave_0 : decode cX0_leave 0 = .ok (.aload_n 0, 1) := by decide +kernel
theorem dX0_leave_1 : decode cX0_leave 1 = .ok (.getfield 15, 3) := by decide +kernel
theorem dX0_leave_4 : decode cX0_leave 4 = .ok (.bipush 16, 2) := by decide +kernel
theorem dX0_leave_6 : decode cX0_leave 6 = .ok (.if_icmp .ge 23, 3) := by decide +kernel
theorem dX0_leave_9 : decode cX0_leave 9 = .ok (.aload_n 0, 1) := by decide +kernel
theorem dX0_leave_10 : decode cX0_leave 10 = .ok (.getfield 9, 3) := by decide +kernel
theorem dX0_leave_13 : decode cX0_leave 13 = .ok (.aload_n 0, 1) := by decide +kernel
theorem dX0_leave_14 : decode cX0_leave 14 = .ok (.getfield 15, 3) := by decide +kernel
theorem dX0_leave_17 : decode cX0_leave 17 = .ok (.iload_n 1, 1) := by decide +kernel
theorem dX0_leave_18 : decode cX0_leave 18 = .ok (.iastore, 1) := by decide +kernel
theorem dX0_leave_19 : decode cX0_leave 19 = .ok (.aload_n 0, 1) := by decide +kernel
theorem dX0_leave_20 : decode cX0_leave 20 = .ok (.dup, 1) := by decide +kernel
theorem dX0_leave_21 : decode cX0_leave 21 = .ok (.getfield 15, 3) := by decide +kernel
theorem dX0_leave_24 : decode cX0_leave 24 = .ok (.iconst 1, 1) := by decide +kernel
theorem dX0_leave_25 : decode cX0_leave 25 = .ok (.iadd, 1) := by decide +kernel
theorem dX0_leave_26 : decode cX0_leave 26 = .ok (.putfield 15, 3) := by decide +kernel
theorem dX0_leave_29 : decode cX0_leave 29 = .ok (.return_, 1) := by decide +kernel
theorem dX1_init_0 : decode cX1_init 0 = .ok (.aload_n 0, 1) := by decide +kernel
theorem dX1_init_1 : decode cX1_init 1 = .ok (.invokespecial 3, 3) := by decide +kernel
theorem dX1_init_4 : decode cX1_init 4 = .ok (.aload_n 0, 1) := by decide +kernel
theorem dX1_init_5 : decode cX1_init 5 = .ok (.iconst 0, 1) := by decide +kernel
theorem dX1_init_6 : decode cX1_init 6 = .ok (.putfield 9, 3) := by decide +kernel
theorem dX1_init_9 : decode cX1_init 9 = .ok (.aload_n 0, 1) := by decide +kernel
theorem dX1_init_10 : decode cX1_init 10 = .ok (.iconst 0, 1) := by decide +kernel
theorem dX1_init_11 : decode cX1_init 11 = .ok (.putfield 15, 3) := by decide +kernel
theorem dX1_init_14 : decode cX1_init 14 = .ok (.aload_n 0, 1) := by decide +kernel
theorem dX1_init_15 : decode cX1_init 15 = .ok (.iconst 0, 1) := by decide +kernel
theorem dX1_init_16 : decode cX1_init 16 = .ok (.putfield 18, 3) := by decide +kernel
theorem dX1_init_19 : decode cX1_init 19 = .ok (.aload_n 0, 1) := by decide +kernel
theorem dX1_init_20 : decode cX1_init 20 = .ok (.iconst 0, 1) := by decide +kernel
theorem dX1_init_21 : decode cX1_init 21 = .ok (.putfield 21, 3) := by decide +kernel
theorem dX1_init_24 : decode cX1_init 24 = .ok (.aload_n 0, 1) := by decide +kernel
theorem dX1_init_25 : decode cX1_init 25 = .ok (.iconst 0, 1) := by decide +kernel
theorem dX1_init_26 : decode cX1_init 26 = .ok (.putfield 24, 3) := by decide +kernel
theorem dX1_init_29 : decode cX1_init 29 = .ok (.aload_n 0, 1) := by decide +kernel
theorem dX1_init_30 : decode cX1_init 30 = .ok (.bipush 8, 2) := by decide +kernel
theorem dX1_init_32 : decode cX1_init 32 = .ok (.newarray .int, 2) := by decide +kernel
theorem dX1_init_34 : decode cX1_init 34 = .ok (.putfield 27, 3) := by decide +kernel
theorem dX1_init_37 : decode cX1_init 37 = .ok (.aload_n 0, 1) := by decide +kernel
theorem dX1_init_38 : decode cX1_init 38 = .ok (.bipush 8, 2) := by decide +kernel
theorem dX1_init_40 : decode cX1_init 40 = .ok (.newarray .int, 2) := by decide +kernel
theorem dX1_init_42 : decode cX1_init 42 = .ok (.putfield 31, 3) := by decide +kernel
theorem dX1_init_45 : decode cX1_init 45 = .ok (.aload_n 0, 1) := by decide +kernel
theorem dX1_init_46 : decode cX1_init 46 = .ok (.bipush 8, 2) := by decide +kernel
theorem dX1_init_48 : decode cX1_init 48 = .ok (.newarray .int, 2) := by decide +kernel
theorem dX1_init_50 : decode cX1_init 50 = .ok (.putfield 34, 3) := by decide +kernel
theorem dX1_init_53 : decode cX1_init 53 = .ok (.aload_n 0, 1) := by decide +kernel
theorem dX1_init_54 : decode cX1_init 54 = .ok (.iconst 4, 1) := by decide +kernel
theorem dX1_init_55 : decode cX1_init 55 = .ok (.newarray .int, 2) := by decide +kernel
theorem dX1_init_57 : decode cX1_init 57 = .ok (.putfield 37, 3) := by decide +kernel
theorem dX1_init_60 : decode cX1_init 60 = .ok (.aload_n 0, 1) := by decide +kernel
theorem dX1_init_61 : decode cX1_init 61 = .ok (.iconst 4, 1) := by decide +kernel
theorem dX1_init_62 : decode cX1_init 62 = .ok (.newarray .int, 2) := by decide +kernel
theorem dX1_init_64 : decode cX1_init 64 = .ok (.putfield 40, 3) := by decide +kernel
theorem dX1_init_67 : decode cX1_init 67 = .ok (.return_, 1) := by decide +kernel
theorem dX1_clear_0 : decode cX1_clear 0 = .ok (.aload_n 0, 1) := by decide +kernel
theorem dX1_clear_1 : decode cX1_clear 1 = .ok (.iconst 0, 1) := by decide +kernel
theorem dX1_clear_2 : decode cX1_clear 2 = .ok (.putfield 18, 3) := by decide +kernel
theorem dX1_clear_5 : decode cX1_clear 5 = .ok (.aload_n 0, 1) := by decide +kernel
theorem dX1_clear_6 : decode cX1_clear 6 = .ok (.iconst 0, 1) := by decide +kernel
theorem dX1_clear_7 : decode cX1_clear 7 = .ok (.putfield 21, 3) := by decide +kernel
theorem dX1_clear_10 : decode cX1_clear 10 = .ok (.aload_n 0, 1) := by decide +kernel
theorem dX1_clear_11 : decode cX1_clear 11 = .ok (.iconst 0, 1) := by decide +kernel
theorem dX1_clear_12 : decode cX1_clear 12 = .ok (.putfield 24, 3) := by decide +kernel
theorem dX1_clear_15 : decode cX1_clear 15 = .ok (.iconst 0, 1) := by decide +kernel
theorem dX1_clear_16 : decode cX1_clear 16 = .ok (.istore_n 1, 1) := by decide +kernel
theorem dX1_clear_17 : decode cX1_clear 17 = .ok (.iload_n 1, 1) := by decide +kernel
theorem dX1_clear_18 : decode cX1_clear 18 = .ok (.bipush 8, 2) := by decide +kernel
theorem dX1_clear_20 : decode cX1_clear 20 = .ok (.if_icmp .ge 30, 3) := by decide +kernel
theorem dX1_clear_23 : decode cX1_clear 23 = .ok (.aload_n 0, 1) := by decide +kernel
theorem dX1_clear_24 : decode cX1_clear 24 = .ok (.getfield 27, 3) := by decide +kernel
theorem dX1_clear_27 : decode cX1_clear 27 = .ok (.iload_n 1, 1) := by decide +kernel
theorem dX1_clear_28 : decode cX1_clear 28 = .ok (.iconst 0, 1) := by decide +kernel
theorem dX1_clear_29 : decode cX1_clear 29 = .ok (.iastore, 1) := by decide +kernel
theorem dX1_clear_30 : decode cX1_clear 30 = .ok (.aload_n 0, 1) := by decide +kernel
theorem dX1_clear_31 : decode cX1_clear 31 = .ok (.getfield 31, 3) := by decide +kernel
theorem dX1_clear_34 : decode cX1_clear 34 = .ok (.iload_n 1, 1) := by decide +kernel
theorem dX1_clear_35 : decode cX1_clear 35 = .ok (.iconst 0, 1) := by decide +kernel
theorem dX1_clear_36 : decode cX1_clear 36 = .ok (.iastore, 1) := by decide +kernel
theorem dX1_clear_37 : decode cX1_clear 37 = .ok (.aload_n 0, 1) := by decide +kernel
theorem dX1_clear_38 : decode cX1_clear 38 = .ok (.getfield 34, 3) := by decide +kernel
theorem dX1_clear_41 : decode cX1_clear 41 = .ok (.iload_n 1, 1) := by decide +kernel
theorem dX1_clear_42 : decode cX1_clear 42 = .ok (.iconst 0, 1) := by decide +kernel
theorem dX1_clear_43 : decode cX1_clear 43 = .ok (.iastore, 1) := by decide +kernel
theorem dX1_clear_44 : decode cX1_clear 44 = .ok (.iinc 1 1, 3) := by decide +kernel
theorem dX1_clear_47 : decode cX1_clear 47 = .ok (.goto (-30), 3) := by decide +kernel
theorem dX1_clear_50 : decode cX1_clear 50 = .ok (.return_, 1) := by decide +kernel
theorem dX1_become_0 : decode cX1_become 0 = .ok (.aload_n 0, 1) := by decide +kernel
theorem dX1_become_1 : decode cX1_become 1 = .ok (.aload_n 1, 1) := by decide +kernel
theorem dX1_become_2 : decode cX1_become 2 = .ok (.getfield 9, 3) := by decide +kernel
theorem dX1_become_5 : decode cX1_become 5 = .ok (.putfield 9, 3) := by decide +kernel
theorem dX1_become_8 : decode cX1_become 8 = .ok (.aload_n 0, 1) := by decide +kernel
theorem dX1_become_9 : decode cX1_become 9 = .ok (.aload_n 1, 1) := by decide +kernel
theorem dX1_become_10 : decode cX1_become 10 = .ok (.getfield 15, 3) := by decide +kernel
theorem dX1_become_13 : decode cX1_become 13 = .ok (.putfield 15, 3) := by decide +kernel
theorem dX1_become_16 : decode cX1_become 16 = .ok (.aload_n 0, 1) := by decide +kernel
theorem dX1_become_17 : decode cX1_become 17 = .ok (.aload_n 1, 1) := by decide +kernel
theorem dX1_become_18 : decode cX1_become 18 = .ok (.getfield 18, 3) := by decide +kernel
theorem dX1_become_21 : decode cX1_become 21 = .ok (.putfield 18, 3) := by decide +kernel
theorem dX1_become_24 : decode cX1_become 24 = .ok (.aload_n 0, 1) := by decide +kernel
theorem dX1_become_25 : decode cX1_become 25 = .ok (.aload_n 1, 1) := by decide +kernel
theorem dX1_become_26 : decode cX1_become 26 = .ok (.getfield 21, 3) := by decide +kernel
theorem dX1_become_29 : decode cX1_become 29 = .ok (.putfield 21, 3) := by decide +kernel
theorem dX1_become_32 : decode cX1_become 32 = .ok (.aload_n 0, 1) := by decide +kernel
theorem dX1_become_33 : decode cX1_become 33 = .ok (.aload_n 1, 1) := by decide +kernel
theorem dX1_become_34 : decode cX1_become 34 = .ok (.getfield 24, 3) := by decide +kernel
theorem dX1_become_37 : decode cX1_become 37 = .ok (.putfield 24, 3) := by decide +kernel
theorem dX1_become_40 : decode cX1_become 40 = .ok (.aload_n 1, 1) := by decide +kernel
theorem dX1_become_41 : decode cX1_become 41 = .ok (.getfield 27, 3) := by decide +kernel
theorem dX1_become_44 : decode cX1_become 44 = .ok (.iconst 0, 1) := by decide +kernel
theorem dX1_become_45 : decode cX1_become 45 = .ok (.aload_n 0, 1) := by decide +kernel
theorem dX1_become_46 : decode cX1_become 46 = .ok (.getfield 27, 3) := by decide +kernel
theorem dX1_become_49 : decode cX1_become 49 = .ok (.iconst 0, 1) := by decide +kernel
theorem dX1_become_50 : decode cX1_become 50 = .ok (.bipush 8, 2) := by decide +kernel
theorem dX1_become_52 : decode cX1_become 52 = .ok (.invokestatic 43, 3) := by decide +kernel
theorem dX1_become_55 : decode cX1_become 55 = .ok (.aload_n 1, 1) := by decide +kernel
theorem dX1_become_56 : decode cX1_become 56 = .ok (.getfield 31, 3) := by decide +kernel
theorem dX1_become_59 : decode cX1_become 59 = .ok (.iconst 0, 1) := by decide +kernel
theorem dX1_become_60 : decode cX1_become 60 = .ok (.aload_n 0, 1) := by decide +kernel
theorem dX1_become_61 : decode cX1_become 61 = .ok (.getfield 31, 3) := by decide +kernel
theorem dX1_become_64 : decode cX1_become 64 = .ok (.iconst 0, 1) := by decide +kernel
theorem dX1_become_65 : decode cX1_become 65 = .ok (.bipush 8, 2) := by decide +kernel
theorem dX1_become_67 : decode cX1_become 67 = .ok (.invokestatic 43, 3) := by decide +kernel
theorem dX1_become_70 : decode cX1_become 70 = .ok (.aload_n 1, 1) := by decide +kernel
theorem dX1_become_71 : decode cX1_become 71 = .ok (.getfield 34, 3) := by decide +kernel
theorem dX1_become_74 : decode cX1_become 74 = .ok (.iconst 0, 1) := by decide +kernel
theorem dX1_become_75 : decode cX1_become 75 = .ok (.aload_n 0, 1) := by decide +kernel
theorem dX1_become_76 : decode cX1_become 76 = .ok (.getfield 34, 3) := by decide +kernel
theorem dX1_become_79 : decode cX1_become 79 = .ok (.iconst 0, 1) := by decide +kernel
theorem dX1_become_80 : decode cX1_become 80 = .ok (.bipush 8, 2) := by decide +kernel
theorem dX1_become_82 : decode cX1_become 82 = .ok (.invokestatic 43, 3) := by decide +kernel
theorem dX1_become_85 : decode cX1_become 85 = .ok (.aload_n 1, 1) := by decide +kernel
theorem dX1_become_86 : decode cX1_become 86 = .ok (.getfield 37, 3) := by decide +kernel
theorem dX1_become_89 : decode cX1_become 89 = .ok (.iconst 0, 1) := by decide +kernel
theorem dX1_become_90 : decode cX1_become 90 = .ok (.aload_n 0, 1) := by decide +kernel
theorem dX1_become_91 : decode cX1_become 91 = .ok (.getfield 37, 3) := by decide +kernel
theorem dX1_become_94 : decode cX1_become 94 = .ok (.iconst 0, 1) := by decide +kernel
theorem dX1_become_95 : decode cX1_become 95 = .ok (.iconst 4, 1) := by decide +kernel
theorem dX1_become_96 : decode cX1_become 96 = .ok (.invokestatic 43, 3) := by decide +kernel
theorem dX1_become_99 : decode cX1_become 99 = .ok (.aload_n 1, 1) := by decide +kernel
theorem dX1_become_100 : decode cX1_become 100 = .ok (.getfield 40, 3) := by decide +kernel
theorem dX1_become_103 : decode cX1_become 103 = .ok (.iconst 0, 1) := by decide +kernel
theorem dX1_become_104 : decode cX1_become 104 = .ok (.aload_n 0, 1) := by decide +kernel
theorem dX1_become_105 : decode cX1_become 105 = .ok (.getfield 40, 3) := by decide +kernel
theorem dX1_become_108 : decode cX1_become 108 = .ok (.iconst 0, 1) := by decide +kernel
theorem dX1_become_109 : decode cX1_become 109 = .ok (.iconst 4, 1) := by decide +kernel
theorem dX1_become_110 : decode cX1_become 110 = .ok (.invokestatic 43, 3) := by decide +kernel
theorem dX1_become_113 : decode cX1_become 113 = .ok (.return_, 1) := by decide +kernel
theorem dX1_hasBlock_0 : decode cX1_hasBlock 0 = .ok (.iload_n 1, 1) := by decide +kernel
theorem dX1_hasBlock_1 : decode cX1_hasBlock 1 = .ok (.aload_n 0, 1) := by decide +kernel
theorem dX1_hasBlock_2 : decode cX1_hasBlock 2 = .ok (.getfield 18, 3) := by decide +kernel
theorem dX1_hasBlock_5 : decode cX1_hasBlock 5 = .ok (.invokestatic 49, 3) := by decide +kernel
theorem dX1_hasBlock_8 : decode cX1_hasBlock 8 = .ok (.ireturn, 1) := by decide +kernel
theorem dX1_hasClerk_0 : decode cX1_hasClerk 0 = .ok (.iload_n 1, 1) := by decide +kernel
theorem dX1_hasClerk_1 : decode cX1_hasClerk 1 = .ok (.aload_n 0, 1) := by decide +kernel
theorem dX1_hasClerk_2 : decode cX1_hasClerk 2 = .ok (.getfield 24, 3) := by decide +kernel
theorem dX1_hasClerk_5 : decode cX1_hasClerk 5 = .ok (.invokestatic 49, 3) := by decide +kernel
theorem dX1_hasClerk_8 : decode cX1_hasClerk 8 = .ok (.ireturn, 1) := by decide +kernel
theorem dX1_areBlocks_0 : decode cX1_areBlocks 0 = .ok (.iload_n 1, 1) := by decide +kernel
theorem dX1_areBlocks_1 : decode cX1_areBlocks 1 = .ok (.iconst 1, 1) := by decide +kernel
theorem dX1_areBlocks_2 : decode cX1_areBlocks 2 = .ok (.aload_n 0, 1) := by decide +kernel
theorem dX1_areBlocks_3 : decode cX1_areBlocks 3 = .ok (.getfield 18, 3) := by decide +kernel
theorem dX1_areBlocks_6 : decode cX1_areBlocks 6 = .ok (.ishl, 1) := by decide +kernel
theorem dX1_areBlocks_7 : decode cX1_areBlocks 7 = .ok (.invokestatic 49, 3) := by decide +kernel
theorem dX1_areBlocks_10 : decode cX1_areBlocks 10 = .ok (.ireturn, 1) := by decide +kernel
theorem dX1_above_0 : decode cX1_above 0 = .ok (.iconst 0, 1) := by decide +kernel
theorem dX1_above_1 : decode cX1_above 1 = .ok (.istore_n 2, 1) := by decide +kernel
theorem dX1_above_2 : decode cX1_above 2 = .ok (.iconst 0, 1) := by decide +kernel
theorem dX1_above_3 : decode cX1_above 3 = .ok (.istore_n 3, 1) := by decide +kernel
theorem dX1_above_4 : decode cX1_above 4 = .ok (.iload_n 3, 1) := by decide +kernel
theorem dX1_above_5 : decode cX1_above 5 = .ok (.aload_n 0, 1) := by decide +kernel
theorem dX1_above_6 : decode cX1_above 6 = .ok (.getfield 18, 3) := by decide +kernel
theorem dX1_above_9 : decode cX1_above 9 = .ok (.if_icmp .ge 29, 3) := by decide +kernel
theorem dX1_above_12 : decode cX1_above 12 = .ok (.aload_n 0, 1) := by decide +kernel
theorem dX1_above_13 : decode cX1_above 13 = .ok (.getfield 31, 3) := by decide +kernel
theorem dX1_above_16 : decode cX1_above 16 = .ok (.iload_n 3, 1) := by decide +kernel
theorem dX1_above_17 : decode cX1_above 17 = .ok (.iaload, 1) := by decide +kernel
theorem dX1_above_18 : decode cX1_above 18 = .ok (.iload_n 1, 1) := by decide +kernel
theorem dX1_above_19 : decode cX1_above 19 = .ok (.ishr, 1) := by decide +kernel
theorem dX1_above_20 : decode cX1_above 20 = .ok (.iconst 1, 1) := by decide +kernel
theorem dX1_above_21 : decode cX1_above 21 = .ok (.iand, 1) := by decide +kernel
theorem dX1_above_22 : decode cX1_above 22 = .ok (.iconst 1, 1) := by decide +kernel
theorem dX1_above_23 : decode cX1_above 23 = .ok (.if_icmp .ne 9, 3) := by decide +kernel
theorem dX1_above_26 : decode cX1_above 26 = .ok (.iload_n 2, 1) := by decide +kernel
theorem dX1_above_27 : decode cX1_above 27 = .ok (.iconst 1, 1) := by decide +kernel
theorem dX1_above_28 : decode cX1_above 28 = .ok (.iload_n 3, 1) := by decide +kernel
theorem dX1_above_29 : decode cX1_above 29 = .ok (.ishl, 1) := by decide +kernel
theorem dX1_above_30 : decode cX1_above 30 = .ok (.ior, 1) := by decide +kernel
theorem dX1_above_31 : decode cX1_above 31 = .ok (.istore_n 2, 1) := by decide +kernel
theorem dX1_above_32 : decode cX1_above 32 = .ok (.iinc 3 1, 3) := by decide +kernel
theorem dX1_above_35 : decode cX1_above 35 = .ok (.goto (-31), 3) := by decide +kernel
theorem dX1_above_38 : decode cX1_above 38 = .ok (.iload_n 2, 1) := by decide +kernel
theorem dX1_above_39 : decode cX1_above 39 = .ok (.ireturn, 1) := by decide +kernel
theorem dX1_standing_0 : decode cX1_standing 0 = .ok (.iconst 0, 1) := by decide +kernel
theorem dX1_standing_1 : decode cX1_standing 1 = .ok (.istore_n 2, 1) := by decide +kernel
theorem dX1_standing_2 : decode cX1_standing 2 = .ok (.iconst 0, 1) := by decide +kernel
theorem dX1_standing_3 : decode cX1_standing 3 = .ok (.istore_n 3, 1) := by decide +kernel
theorem dX1_standing_4 : decode cX1_standing 4 = .ok (.iload_n 3, 1) := by decide +kernel
theorem dX1_standing_5 : decode cX1_standing 5 = .ok (.aload_n 0, 1) := by decide +kernel
theorem dX1_standing_6 : decode cX1_standing 6 = .ok (.getfield 18, 3) := by decide +kernel
theorem dX1_standing_9 : decode cX1_standing 9 = .ok (.if_icmp .ge 56, 3) := by decide +kernel
theorem dX1_standing_12 : decode cX1_standing 12 = .ok (.aload_n 0, 1) := by decide +kernel
theorem dX1_standing_13 : decode cX1_standing 13 = .ok (.getfield 31, 3) := by decide +kernel
theorem dX1_standing_16 : decode cX1_standing 16 = .ok (.iload_n 3, 1) := by decide +kernel
theorem dX1_standing_17 : decode cX1_standing 17 = .ok (.iaload, 1) := by decide +kernel
theorem dX1_standing_18 : decode cX1_standing 18 = .ok (.ifCond .eq 14, 3) := by decide +kernel
theorem dX1_standing_21 : decode cX1_standing 21 = .ok (.aload_n 0, 1) := by decide +kernel
theorem dX1_standing_22 : decode cX1_standing 22 = .ok (.getfield 31, 3) := by decide +kernel
theorem dX1_standing_25 : decode cX1_standing 25 = .ok (.iload_n 3, 1) := by decide +kernel
theorem dX1_standing_26 : decode cX1_standing 26 = .ok (.iaload, 1) := by decide +kernel
theorem dX1_standing_27 : decode cX1_standing 27 = .ok (.iload_n 2, 1) := by decide +kernel
theorem dX1_standing_28 : decode cX1_standing 28 = .ok (.iand, 1) := by decide +kernel
theorem dX1_standing_29 : decode cX1_standing 29 = .ok (.ifCond .eq 7, 3) := by decide +kernel
theorem dX1_standing_32 : decode cX1_standing 32 = .ok (.iconst 1, 1) := by decide +kernel
theorem dX1_standing_33 : decode cX1_standing 33 = .ok (.goto 4, 3) := by decide +kernel
theorem dX1_standing_36 : decode cX1_standing 36 = .ok (.iconst 0, 1) := by decide +kernel
theorem dX1_standing_37 : decode cX1_standing 37 = .ok (.istore 4, 2) := by decide +kernel
theorem dX1_standing_39 : decode cX1_standing 39 = .ok (.iload 4, 2) := by decide +kernel
theorem dX1_standing_41 : decode cX1_standing 41 = .ok (.ifCond .eq 18, 3) := by decide +kernel
theorem dX1_standing_44 : decode cX1_standing 44 = .ok (.iload_n 1, 1) := by decide +kernel
theorem dX1_standing_45 : decode cX1_standing 45 = .ok (.iload_n 3, 1) := by decide +kernel
theorem dX1_standing_46 : decode cX1_standing 46 = .ok (.ishr, 1) := by decide +kernel
theorem dX1_standing_47 : decode cX1_standing 47 = .ok (.iconst 1, 1) := by decide +kernel
theorem dX1_standing_48 : decode cX1_standing 48 = .ok (.iand, 1) := by decide +kernel
theorem dX1_standing_49 : decode cX1_standing 49 = .ok (.iconst 1, 1) := by decide +kernel
theorem dX1_standing_50 : decode cX1_standing 50 = .ok (.if_icmp .ne 9, 3) := by decide +kernel
theorem dX1_standing_53 : decode cX1_standing 53 = .ok (.iload_n 2, 1) := by decide +kernel
theorem dX1_standing_54 : decode cX1_standing 54 = .ok (.iconst 1, 1) := by decide +kernel
theorem dX1_standing_55 : decode cX1_standing 55 = .ok (.iload_n 3, 1) := by decide +kernel
theorem dX1_standing_56 : decode cX1_standing 56 = .ok (.ishl, 1) := by decide +kernel
theorem dX1_standing_57 : decode cX1_standing 57 = .ok (.ior, 1) := by decide +kernel
theorem dX1_standing_58 : decode cX1_standing 58 = .ok (.istore_n 2, 1) := by decide +kernel
theorem dX1_standing_59 : decode cX1_standing 59 = .ok (.iinc 3 1, 3) := by decide +kernel
theorem dX1_standing_62 : decode cX1_standing 62 = .ok (.goto (-58), 3) := by decide +kernel
theorem dX1_standing_65 : decode cX1_standing 65 = .ok (.iload_n 2, 1) := by decide +kernel
theorem dX1_standing_66 : decode cX1_standing 66 = .ok (.ireturn, 1) := by decide +kernel
theorem dX1_settleLayers_0 : decode cX1_settleLayers 0 = .ok (.iconst 0, 1) := by decide +kernel
theorem dX1_settleLayers_1 : decode cX1_settleLayers 1 = .ok (.istore_n 1, 1) := by decide +kernel
theorem dX1_settleLayers_2 : decode cX1_settleLayers 2 = .ok (.iload_n 1, 1) := by decide +kernel
theorem dX1_settleLayers_3 : decode cX1_settleLayers 3 = .ok (.aload_n 0, 1) := by decide +kernel
theorem dX1_settleLayers_4 : decode cX1_settleLayers 4 = .ok (.getfield 18, 3) := by decide +kernel
theorem dX1_settleLayers_7 : decode cX1_settleLayers 7 = .ok (.if_icmp .ge 59, 3) := by decide +kernel
theorem dX1_settleLayers_10 : decode cX1_settleLayers 10 = .ok (.iconst 0, 1) := by decide +kernel
theorem dX1_settleLayers_11 : decode cX1_settleLayers 11 = .ok (.istore_n 2, 1) := by decide +kernel
theorem dX1_settleLayers_12 : decode cX1_settleLayers 12 = .ok (.iload_n 2, 1) := by decide +kernel
theorem dX1_settleLayers_13 : decode cX1_settleLayers 13 = .ok (.iload_n 1, 1) := by decide +kernel
theorem dX1_settleLayers_14 : decode cX1_settleLayers 14 = .ok (.if_icmp .ge 46, 3) := by decide +kernel
theorem dX1_settleLayers_17 : decode cX1_settleLayers 17 = .ok (.aload_n 0, 1) := by decide +kernel
theorem dX1_settleLayers_18 : decode cX1_settleLayers 18 = .ok (.getfield 31, 3) := by decide +kernel
theorem dX1_settleLayers_21 : decode cX1_settleLayers 21 = .ok (.iload_n 1, 1) := by decide +kernel
theorem dX1_settleLayers_22 : decode cX1_settleLayers 22 = .ok (.iaload, 1) := by decide +kernel
theorem dX1_settleLayers_23 : decode cX1_settleLayers 23 = .ok (.iload_n 2, 1) := by decide +kernel
theorem dX1_settleLayers_24 : decode cX1_settleLayers 24 = .ok (.ishr, 1) := by decide +kernel
theorem dX1_settleLayers_25 : decode cX1_settleLayers 25 = .ok (.iconst 1, 1) := by decide +kernel
theorem dX1_settleLayers_26 : decode cX1_settleLayers 26 = .ok (.iand, 1) := by decide +kernel
theorem dX1_settleLayers_27 : decode cX1_settleLayers 27 = .ok (.iconst 1, 1) := by decide +kernel
theorem dX1_settleLayers_28 : decode cX1_settleLayers 28 = .ok (.if_icmp .ne 26, 3) := by decide +kernel
theorem dX1_settleLayers_31 : decode cX1_settleLayers 31 = .ok (.aload_n 0, 1) := by decide +kernel
theorem dX1_settleLayers_32 : decode cX1_settleLayers 32 = .ok (.getfield 34, 3) := by decide +kernel
theorem dX1_settleLayers_35 : decode cX1_settleLayers 35 = .ok (.iload_n 1, 1) := by decide +kernel
theorem dX1_settleLayers_36 : decode cX1_settleLayers 36 = .ok (.aload_n 0, 1) := by decide +kernel
theorem dX1_settleLayers_37 : decode cX1_settleLayers 37 = .ok (.getfield 34, 3) := by decide +kernel
theorem dX1_settleLayers_40 : decode cX1_settleLayers 40 = .ok (.iload_n 1, 1) := by decide +kernel
theorem dX1_settleLayers_41 : decode cX1_settleLayers 41 = .ok (.iaload, 1) := by decide +kernel
theorem dX1_settleLayers_42 : decode cX1_settleLayers 42 = .ok (.aload_n 0, 1) := by decide +kernel
theorem dX1_settleLayers_43 : decode cX1_settleLayers 43 = .ok (.getfield 34, 3) := by decide +kernel
theorem dX1_settleLayers_46 : decode cX1_settleLayers 46 = .ok (.iload_n 2, 1) := by decide +kernel
theorem dX1_settleLayers_47 : decode cX1_settleLayers 47 = .ok (.iaload, 1) := by decide +kernel
theorem dX1_settleLayers_48 : decode cX1_settleLayers 48 = .ok (.iconst 1, 1) := by decide +kernel
theorem dX1_settleLayers_49 : decode cX1_settleLayers 49 = .ok (.iadd, 1) := by decide +kernel
theorem dX1_settleLayers_50 : decode cX1_settleLayers 50 = .ok (.invokestatic 53, 3) := by decide +kernel
theorem dX1_settleLayers_53 : decode cX1_settleLayers 53 = .ok (.iastore, 1) := by decide +kernel
theorem dX1_settleLayers_54 : decode cX1_settleLayers 54 = .ok (.iinc 2 1, 3) := by decide +kernel
theorem dX1_settleLayers_57 : decode cX1_settleLayers 57 = .ok (.goto (-45), 3) := by decide +kernel
theorem dX1_settleLayers_60 : decode cX1_settleLayers 60 = .ok (.iinc 1 1, 3) := by decide +kernel
theorem dX1_settleLayers_63 : decode cX1_settleLayers 63 = .ok (.goto (-61), 3) := by decide +kernel
theorem dX1_settleLayers_66 : decode cX1_settleLayers 66 = .ok (.return_, 1) := by decide +kernel
theorem dX1_chalkFor_0 : decode cX1_chalkFor 0 = .ok (.aload_n 0, 1) := by decide +kernel
theorem dX1_chalkFor_1 : decode cX1_chalkFor 1 = .ok (.getfield 37, 3) := by decide +kernel
theorem dX1_chalkFor_4 : decode cX1_chalkFor 4 = .ok (.iload_n 1, 1) := by decide +kernel
theorem dX1_chalkFor_5 : decode cX1_chalkFor 5 = .ok (.iaload, 1) := by decide +kernel
theorem dX1_chalkFor_6 : decode cX1_chalkFor 6 = .ok (.aload_n 0, 1) := by decide +kernel
theorem dX1_chalkFor_7 : decode cX1_chalkFor 7 = .ok (.getfield 40, 3) := by decide +kernel
theorem dX1_chalkFor_10 : decode cX1_chalkFor 10 = .ok (.iload_n 1, 1) := by decide +kernel
theorem dX1_chalkFor_11 : decode cX1_chalkFor 11 = .ok (.iaload, 1) := by decide +kernel
theorem dX1_chalkFor_12 : decode cX1_chalkFor 12 = .ok (.iload_n 2, 1) := by decide +kernel
theorem dX1_chalkFor_13 : decode cX1_chalkFor 13 = .ok (.iload_n 3, 1) := by decide +kernel
theorem dX1_chalkFor_14 : decode cX1_chalkFor 14 = .ok (.invokestatic 59, 3) := by decide +kernel
theorem dX1_chalkFor_17 : decode cX1_chalkFor 17 = .ok (.ireturn, 1) := by decide +kernel
theorem dX1_letRain_0 : decode cX1_letRain 0 = .ok (.aload_n 0, 1) := by decide +kernel
theorem dX1_letRain_1 : decode cX1_letRain 1 = .ok (.aload_n 1, 1) := by decide +kernel
theorem dX1_letRain_2 : decode cX1_letRain 2 = .ok (.invokevirtual 63, 3) := by decide +kernel
theorem dX1_letRain_5 : decode cX1_letRain 5 = .ok (.invokevirtual 69, 3) := by decide +kernel
theorem dX1_letRain_8 : decode cX1_letRain 8 = .ok (.istore_n 2, 1) := by decide +kernel
theorem dX1_letRain_9 : decode cX1_letRain 9 = .ok (.iconst 0, 1) := by decide +kernel
theorem dX1_letRain_10 : decode cX1_letRain 10 = .ok (.istore_n 3, 1) := by decide +kernel
theorem dX1_letRain_11 : decode cX1_letRain 11 = .ok (.iload_n 3, 1) := by decide +kernel
theorem dX1_letRain_12 : decode cX1_letRain 12 = .ok (.aload_n 0, 1) := by decide +kernel
theorem dX1_letRain_13 : decode cX1_letRain 13 = .ok (.getfield 18, 3) := by decide +kernel
theorem dX1_letRain_16 : decode cX1_letRain 16 = .ok (.if_icmp .ge 49, 3) := by decide +kernel
theorem dX1_letRain_19 : decode cX1_letRain 19 = .ok (.iload_n 2, 1) := by decide +kernel
theorem dX1_letRain_20 : decode cX1_letRain 20 = .ok (.iload_n 3, 1) := by decide +kernel
theorem dX1_letRain_21 : decode cX1_letRain 21 = .ok (.ishr, 1) := by decide +kernel
theorem dX1_letRain_22 : decode cX1_letRain 22 = .ok (.iconst 1, 1) := by decide +kernel
theorem dX1_letRain_23 : decode cX1_letRain 23 = .ok (.iand, 1) := by decide +kernel
theorem dX1_letRain_24 : decode cX1_letRain 24 = .ok (.iconst 1, 1) := by decide +kernel
theorem dX1_letRain_25 : decode cX1_letRain 25 = .ok (.if_icmp .ne 34, 3) := by decide +kernel
theorem dX1_letRain_28 : decode cX1_letRain 28 = .ok (.aload_n 0, 1) := by decide +kernel
theorem dX1_letRain_29 : decode cX1_letRain 29 = .ok (.iload_n 3, 1) := by decide +kernel
theorem dX1_letRain_30 : decode cX1_letRain 30 = .ok (.invokevirtual 73, 3) := by decide +kernel
theorem dX1_letRain_33 : decode cX1_letRain 33 = .ok (.iload_n 2, 1) := by decide +kernel
theorem dX1_letRain_34 : decode cX1_letRain 34 = .ok (.iand, 1) := by decide +kernel
theorem dX1_letRain_35 : decode cX1_letRain 35 = .ok (.ifCond .ne 24, 3) := by decide +kernel
theorem dX1_letRain_38 : decode cX1_letRain 38 = .ok (.aload_n 1, 1) := by decide +kernel
theorem dX1_letRain_39 : decode cX1_letRain 39 = .ok (.getfield 76, 3) := by decide +kernel
theorem dX1_letRain_42 : decode cX1_letRain 42 = .ok (.iload_n 3, 1) := by decide +kernel
theorem dX1_letRain_43 : decode cX1_letRain 43 = .ok (.iconst 0, 1) := by decide +kernel
theorem dX1_letRain_44 : decode cX1_letRain 44 = .ok (.aload_n 1, 1) := by decide +kernel
theorem dX1_letRain_45 : decode cX1_letRain 45 = .ok (.getfield 76, 3) := by decide +kernel
theorem dX1_letRain_48 : decode cX1_letRain 48 = .ok (.iload_n 3, 1) := by decide +kernel
theorem dX1_letRain_49 : decode cX1_letRain 49 = .ok (.iaload, 1) := by decide +kernel
theorem dX1_letRain_50 : decode cX1_letRain 50 = .ok (.aload_n 0, 1) := by decide +kernel
theorem dX1_letRain_51 : decode cX1_letRain 51 = .ok (.getfield 9, 3) := by decide +kernel
theorem dX1_letRain_54 : decode cX1_letRain 54 = .ok (.isub, 1) := by decide +kernel
theorem dX1_letRain_55 : decode cX1_letRain 55 = .ok (.invokestatic 53, 3) := by decide +kernel
theorem dX1_letRain_58 : decode cX1_letRain 58 = .ok (.iastore, 1) := by decide +kernel
theorem dX1_letRain_59 : decode cX1_letRain 59 = .ok (.iinc 3 1, 3) := by decide +kernel
theorem dX1_letRain_62 : decode cX1_letRain 62 = .ok (.goto (-51), 3) := by decide +kernel
theorem dX1_letRain_65 : decode cX1_letRain 65 = .ok (.return_, 1) := by decide +kernel
theorem dX2_init_0 : decode cX2_init 0 = .ok (.aload_n 0, 1) := by decide +kernel
theorem dX2_init_1 : decode cX2_init 1 = .ok (.invokespecial 3, 3) := by decide +kernel
theorem dX2_init_4 : decode cX2_init 4 = .ok (.aload_n 0, 1) := by decide +kernel
theorem dX2_init_5 : decode cX2_init 5 = .ok (.new 9, 3) := by decide +kernel
theorem dX2_init_8 : decode cX2_init 8 = .ok (.dup, 1) := by decide +kernel
theorem dX2_init_9 : decode cX2_init 9 = .ok (.invokespecial 11, 3) := by decide +kernel
theorem dX2_init_12 : decode cX2_init 12 = .ok (.putfield 12, 3) := by decide +kernel
theorem dX2_init_15 : decode cX2_init 15 = .ok (.aload_n 0, 1) := by decide +kernel
theorem dX2_init_16 : decode cX2_init 16 = .ok (.bipush 120, 2) := by decide +kernel
theorem dX2_init_18 : decode cX2_init 18 = .ok (.newarray .int, 2) := by decide +kernel
theorem dX2_init_20 : decode cX2_init 20 = .ok (.putfield 18, 3) := by decide +kernel
theorem dX2_init_23 : decode cX2_init 23 = .ok (.aload_n 0, 1) := by decide +kernel
theorem dX2_init_24 : decode cX2_init 24 = .ok (.iconst 0, 1) := by decide +kernel
theorem dX2_init_25 : decode cX2_init 25 = .ok (.putfield 22, 3) := by decide +kernel
theorem dX2_init_28 : decode cX2_init 28 = .ok (.aload_n 0, 1) := by decide +kernel
theorem dX2_init_29 : decode cX2_init 29 = .ok (.iconst 0, 1) := by decide +kernel
theorem dX2_init_30 : decode cX2_init 30 = .ok (.putfield 26, 3) := by decide +kernel
theorem dX2_init_33 : decode cX2_init 33 = .ok (.aload_n 0, 1) := by decide +kernel
theorem dX2_init_34 : decode cX2_init 34 = .ok (.iconst 0, 1) := by decide +kernel
theorem dX2_init_35 : decode cX2_init 35 = .ok (.putfield 29, 3) := by decide +kernel
theorem dX2_init_38 : decode cX2_init 38 = .ok (.return_, 1) := by decide +kernel
theorem dX2_hasTaken_0 : decode cX2_hasTaken 0 = .ok (.aload_n 0, 1) := by decide +kernel
theorem dX2_hasTaken_1 : decode cX2_hasTaken 1 = .ok (.getfield 22, 3) := by decide +kernel
theorem dX2_hasTaken_4 : decode cX2_hasTaken 4 = .ok (.bipush 120, 2) := by decide +kernel
theorem dX2_hasTaken_6 : decode cX2_hasTaken 6 = .ok (.if_icmp .lt 5, 3) := by decide +kernel
theorem dX2_hasTaken_9 : decode cX2_hasTaken 9 = .ok (.iconst 0, 1) := by decide +kernel
theorem dX2_hasTaken_10 : decode cX2_hasTaken 10 = .ok (.ireturn, 1) := by decide +kernel
theorem dX2_hasTaken_11 : decode cX2_hasTaken 11 = .ok (.aload_n 0, 1) := by decide +kernel
theorem dX2_hasTaken_12 : decode cX2_hasTaken 12 = .ok (.getfield 18, 3) := by decide +kernel
theorem dX2_hasTaken_15 : decode cX2_hasTaken 15 = .ok (.aload_n 0, 1) := by decide +kernel
theorem dX2_hasTaken_16 : decode cX2_hasTaken 16 = .ok (.getfield 22, 3) := by decide +kernel
theorem dX2_hasTaken_19 : decode cX2_hasTaken 19 = .ok (.iload_n 1, 1) := by decide +kernel
theorem dX2_hasTaken_20 : decode cX2_hasTaken 20 = .ok (.iastore, 1) := by decide +kernel
theorem dX2_hasTaken_21 : decode cX2_hasTaken 21 = .ok (.aload_n 0, 1) := by decide +kernel
theorem dX2_hasTaken_22 : decode cX2_hasTaken 22 = .ok (.dup, 1) := by decide +kernel
theorem dX2_hasTaken_23 : decode cX2_hasTaken 23 = .ok (.getfield 22, 3) := by decide +kernel
theorem dX2_hasTaken_26 : decode cX2_hasTaken 26 = .ok (.iconst 1, 1) := by decide +kernel
theorem dX2_hasTaken_27 : decode cX2_hasTaken 27 = .ok (.iadd, 1) := by decide +kernel
theorem dX2_hasTaken_28 : decode cX2_hasTaken 28 = .ok (.putfield 22, 3) := by decide +kernel
theorem dX2_hasTaken_31 : decode cX2_hasTaken 31 = .ok (.iconst 1, 1) := by decide +kernel
theorem dX2_hasTaken_32 : decode cX2_hasTaken 32 = .ok (.ireturn, 1) := by decide +kernel
theorem dX2_readCastle_0 : decode cX2_readCastle 0 = .ok (.aload_n 0, 1) := by decide +kernel
theorem dX2_readCastle_1 : decode cX2_readCastle 1 = .ok (.getfield 12, 3) := by decide +kernel
theorem dX2_readCastle_4 : decode cX2_readCastle 4 = .ok (.invokevirtual 32, 3) := by decide +kernel
theorem dX2_readCastle_7 : decode cX2_readCastle 7 = .ok (.aload_n 0, 1) := by decide +kernel
theorem dX2_readCastle_8 : decode cX2_readCastle 8 = .ok (.iconst 0, 1) := by decide +kernel
theorem dX2_readCastle_9 : decode cX2_readCastle 9 = .ok (.putfield 26, 3) := by decide +kernel
theorem dX2_readCastle_12 : decode cX2_readCastle 12 = .ok (.aload_n 0, 1) := by decide +kernel
theorem dX2_readCastle_13 : decode cX2_readCastle 13 = .ok (.iconst 0, 1) := by decide +kernel
theorem dX2_readCastle_14 : decode cX2_readCastle 14 = .ok (.putfield 29, 3) := by decide +kernel
theorem dX2_readCastle_17 : decode cX2_readCastle 17 = .ok (.aload_n 0, 1) := by decide +kernel
theorem dX2_readCastle_18 : decode cX2_readCastle 18 = .ok (.invokevirtual 35, 3) := by decide +kernel
theorem dX2_readCastle_21 : decode cX2_readCastle 21 = .ok (.aload_n 0, 1) := by decide +kernel
theorem dX2_readCastle_22 : decode cX2_readCastle 22 = .ok (.invokevirtual 38, 3) := by decide +kernel
theorem dX2_readCastle_25 : decode cX2_readCastle 25 = .ok (.iconst 1, 1) := by decide +kernel
theorem dX2_readCastle_26 : decode cX2_readCastle 26 = .ok (.istore_n 1, 1) := by decide +kernel
theorem dX2_readCastle_27 : decode cX2_readCastle 27 = .ok (.iload_n 1, 1) := by decide +kernel
theorem dX2_readCastle_28 : decode cX2_readCastle 28 = .ok (.bipush 8, 2) := by decide +kernel
theorem dX2_readCastle_30 : decode cX2_readCastle 30 = .ok (.if_icmp .gt 29, 3) := by decide +kernel
theorem dX2_readCastle_33 : decode cX2_readCastle 33 = .ok (.aload_n 0, 1) := by decide +kernel
theorem dX2_readCastle_34 : decode cX2_readCastle 34 = .ok (.getfield 29, 3) := by decide +kernel
theorem dX2_readCastle_37 : decode cX2_readCastle 37 = .ok (.ifCond .ne 22, 3) := by decide +kernel
theorem dX2_readCastle_40 : decode cX2_readCastle 40 = .ok (.aload_n 0, 1) := by decide +kernel
theorem dX2_readCastle_41 : decode cX2_readCastle 41 = .ok (.invokevirtual 41, 3) := by decide +kernel
theorem dX2_readCastle_44 : decode cX2_readCastle 44 = .ok (.bipush 98, 2) := by decide +kernel
theorem dX2_readCastle_46 : decode cX2_readCastle 46 = .ok (.if_icmp .ne 13, 3) := by decide +kernel
theorem dX2_readCastle_49 : decode cX2_readCastle 49 = .ok (.aload_n 0, 1) := by decide +kernel
theorem dX2_readCastle_50 : decode cX2_readCastle 50 = .ok (.invokevirtual 38, 3) := by decide +kernel
theorem dX2_readCastle_53 : decode cX2_readCastle 53 = .ok (.iinc 1 1, 3) := by decide +kernel
theorem dX2_readCastle_56 : decode cX2_readCastle 56 = .ok (.goto (-29), 3) := by decide +kernel
theorem dX2_readCastle_59 : decode cX2_readCastle 59 = .ok (.iconst 0, 1) := by decide +kernel
theorem dX2_readCastle_60 : decode cX2_readCastle 60 = .ok (.istore_n 1, 1) := by decide +kernel
theorem dX2_readCastle_61 : decode cX2_readCastle 61 = .ok (.iload_n 1, 1) := by decide +kernel
theorem dX2_readCastle_62 : decode cX2_readCastle 62 = .ok (.bipush 12, 2) := by decide +kernel
theorem dX2_readCastle_64 : decode cX2_readCastle 64 = .ok (.if_icmp .gt 29, 3) := by decide +kernel
theorem dX2_readCastle_67 : decode cX2_readCastle 67 = .ok (.aload_n 0, 1) := by decide +kernel
theorem dX2_readCastle_68 : decode cX2_readCastle 68 = .ok (.getfield 29, 3) := by decide +kernel
theorem dX2_readCastle_71 : decode cX2_readCastle 71 = .ok (.ifCond .ne 22, 3) := by decide +kernel
theorem dX2_readCastle_74 : decode cX2_readCastle 74 = .ok (.aload_n 0, 1) := by decide +kernel
theorem dX2_readCastle_75 : decode cX2_readCastle 75 = .ok (.invokevirtual 41, 3) := by decide +kernel
theorem dX2_readCastle_78 : decode cX2_readCastle 78 = .ok (.bipush 114, 2) := by decide +kernel
theorem dX2_readCastle_80 : decode cX2_readCastle 80 = .ok (.if_icmp .ne 13, 3) := by decide +kernel
theorem dX2_readCastle_83 : decode cX2_readCastle 83 = .ok (.aload_n 0, 1) := by decide +kernel
theorem dX2_readCastle_84 : decode cX2_readCastle 84 = .ok (.invokevirtual 45, 3) := by decide +kernel
theorem dX2_readCastle_87 : decode cX2_readCastle 87 = .ok (.iinc 1 1, 3) := by decide +kernel
theorem dX2_readCastle_90 : decode cX2_readCastle 90 = .ok (.goto (-29), 3) := by decide +kernel
theorem dX2_readCastle_93 : decode cX2_readCastle 93 = .ok (.iconst 0, 1) := by decide +kernel
theorem dX2_readCastle_94 : decode cX2_readCastle 94 = .ok (.istore_n 1, 1) := by decide +kernel
theorem dX2_readCastle_95 : decode cX2_readCastle 95 = .ok (.iload_n 1, 1) := by decide +kernel
theorem dX2_readCastle_96 : decode cX2_readCastle 96 = .ok (.iconst 4, 1) := by decide +kernel
theorem dX2_readCastle_97 : decode cX2_readCastle 97 = .ok (.if_icmp .gt 30, 3) := by decide +kernel
theorem dX2_readCastle_100 : decode cX2_readCastle 100 = .ok (.aload_n 0, 1) := by decide +kernel
theorem dX2_readCastle_101 : decode cX2_readCastle 101 = .ok (.getfield 29, 3) := by decide +kernel
theorem dX2_readCastle_104 : decode cX2_readCastle 104 = .ok (.ifCond .ne 23, 3) := by decide +kernel
theorem dX2_readCastle_107 : decode cX2_readCastle 107 = .ok (.aload_n 0, 1) := by decide +kernel
theorem dX2_readCastle_108 : decode cX2_readCastle 108 = .ok (.invokevirtual 41, 3) := by decide +kernel
theorem dX2_readCastle_111 : decode cX2_readCastle 111 = .ok (.invokestatic 48, 3) := by decide +kernel
theorem dX2_readCastle_114 : decode cX2_readCastle 114 = .ok (.ifCond .eq 13, 3) := by decide +kernel
theorem dX2_readCastle_117 : decode cX2_readCastle 117 = .ok (.aload_n 0, 1) := by decide +kernel
theorem dX2_readCastle_118 : decode cX2_readCastle 118 = .ok (.invokevirtual 52, 3) := by decide +kernel
theorem dX2_readCastle_121 : decode cX2_readCastle 121 = .ok (.iinc 1 1, 3) := by decide +kernel
theorem dX2_readCastle_124 : decode cX2_readCastle 124 = .ok (.goto (-29), 3) := by decide +kernel
theorem dX2_readCastle_127 : decode cX2_readCastle 127 = .ok (.aload_n 0, 1) := by decide +kernel
theorem dX2_readCastle_128 : decode cX2_readCastle 128 = .ok (.getfield 29, 3) := by decide +kernel
theorem dX2_readCastle_131 : decode cX2_readCastle 131 = .ok (.ifCond .ne 19, 3) := by decide +kernel
theorem dX2_readCastle_134 : decode cX2_readCastle 134 = .ok (.aload_n 0, 1) := by decide +kernel
theorem dX2_readCastle_135 : decode cX2_readCastle 135 = .ok (.getfield 26, 3) := by decide +kernel
theorem dX2_readCastle_138 : decode cX2_readCastle 138 = .ok (.aload_n 0, 1) := by decide +kernel
theorem dX2_readCastle_139 : decode cX2_readCastle 139 = .ok (.getfield 22, 3) := by decide +kernel
theorem dX2_readCastle_142 : decode cX2_readCastle 142 = .ok (.if_icmp .ge 8, 3) := by decide +kernel
theorem dX2_readCastle_145 : decode cX2_readCastle 145 = .ok (.aload_n 0, 1) := by decide +kernel
theorem dX2_readCastle_146 : decode cX2_readCastle 146 = .ok (.iconst 1, 1) := by decide +kernel
theorem dX2_readCastle_147 : decode cX2_readCastle 147 = .ok (.putfield 29, 3) := by decide +kernel
theorem dX2_readCastle_150 : decode cX2_readCastle 150 = .ok (.aload_n 0, 1) := by decide +kernel
theorem dX2_readCastle_151 : decode cX2_readCastle 151 = .ok (.getfield 12, 3) := by decide +kernel
theorem dX2_readCastle_154 : decode cX2_readCastle 154 = .ok (.invokevirtual 55, 3) := by decide +kernel
theorem dX2_readCastle_157 : decode cX2_readCastle 157 = .ok (.return_, 1) := by decide +kernel
theorem dX2_readLaw_0 : decode cX2_readLaw 0 = .ok (.aload_n 0, 1) := by decide +kernel
theorem dX2_readLaw_1 : decode cX2_readLaw 1 = .ok (.bipush 107, 2) := by decide +kernel
theorem dX2_readLaw_3 : decode cX2_readLaw 3 = .ok (.invokevirtual 58, 3) := by decide +kernel
theorem dX2_readLaw_6 : decode cX2_readLaw 6 = .ok (.aload_n 0, 1) := by decide +kernel
theorem dX2_readLaw_7 : decode cX2_readLaw 7 = .ok (.getfield 12, 3) := by decide +kernel
theorem dX2_readLaw_10 : decode cX2_readLaw 10 = .ok (.aload_n 0, 1) := by decide +kernel
theorem dX2_readLaw_11 : decode cX2_readLaw 11 = .ok (.iconst 1, 1) := by decide +kernel
theorem dX2_readLaw_12 : decode cX2_readLaw 12 = .ok (.bipush 9, 2) := by decide +kernel
theorem dX2_readLaw_14 : decode cX2_readLaw 14 = .ok (.invokevirtual 62, 3) := by decide +kernel
theorem dX2_readLaw_17 : decode cX2_readLaw 17 = .ok (.putfield 66, 3) := by decide +kernel
theorem dX2_readLaw_20 : decode cX2_readLaw 20 = .ok (.aload_n 0, 1) := by decide +kernel
theorem dX2_readLaw_21 : decode cX2_readLaw 21 = .ok (.bipush 44, 2) := by decide +kernel
theorem dX2_readLaw_23 : decode cX2_readLaw 23 = .ok (.invokevirtual 58, 3) := by decide +kernel
theorem dX2_readLaw_26 : decode cX2_readLaw 26 = .ok (.aload_n 0, 1) := by decide +kernel
theorem dX2_readLaw_27 : decode cX2_readLaw 27 = .ok (.getfield 12, 3) := by decide +kernel
theorem dX2_readLaw_30 : decode cX2_readLaw 30 = .ok (.aload_n 0, 1) := by decide +kernel
theorem dX2_readLaw_31 : decode cX2_readLaw 31 = .ok (.iconst 0, 1) := by decide +kernel
theorem dX2_readLaw_32 : decode cX2_readLaw 32 = .ok (.bipush 10, 2) := by decide +kernel
theorem dX2_readLaw_34 : decode cX2_readLaw 34 = .ok (.invokevirtual 62, 3) := by decide +kernel
theorem dX2_readLaw_37 : decode cX2_readLaw 37 = .ok (.putfield 69, 3) := by decide +kernel
theorem dX2_readLaw_40 : decode cX2_readLaw 40 = .ok (.aload_n 0, 1) := by decide +kernel
theorem dX2_readLaw_41 : decode cX2_readLaw 41 = .ok (.bipush 59, 2) := by decide +kernel
theorem dX2_readLaw_43 : decode cX2_readLaw 43 = .ok (.invokevirtual 58, 3) := by decide +kernel
theorem dX2_readLaw_46 : decode cX2_readLaw 46 = .ok (.return_, 1) := by decide +kernel
theorem dX2_readBlock_0 : decode cX2_readBlock 0 = .ok (.aload_n 0, 1) := by decide +kernel
theorem dX2_readBlock_1 : decode cX2_readBlock 1 = .ok (.bipush 98, 2) := by decide +kernel
theorem dX2_readBlock_3 : decode cX2_readBlock 3 = .ok (.aload_n 0, 1) := by decide +kernel
theorem dX2_readBlock_4 : decode cX2_readBlock 4 = .ok (.getfield 12, 3) := by decide +kernel
theorem dX2_readBlock_7 : decode cX2_readBlock 7 = .ok (.getfield 72, 3) := by decide +kernel
theorem dX2_readBlock_10 : decode cX2_readBlock 10 = .ok (.bipush 8, 2) := by decide +kernel
theorem dX2_readBlock_12 : decode cX2_readBlock 12 = .ok (.invokevirtual 75, 3) := by decide +kernel
theorem dX2_readBlock_15 : decode cX2_readBlock 15 = .ok (.aload_n 0, 1) := by decide +kernel
theorem dX2_readBlock_16 : decode cX2_readBlock 16 = .ok (.bipush 98, 2) := by decide +kernel
theorem dX2_readBlock_18 : decode cX2_readBlock 18 = .ok (.invokevirtual 58, 3) := by decide +kernel
theorem dX2_readBlock_21 : decode cX2_readBlock 21 = .ok (.aload_n 0, 1) := by decide +kernel
theorem dX2_readBlock_22 : decode cX2_readBlock 22 = .ok (.iconst 1, 1) := by decide +kernel
theorem dX2_readBlock_23 : decode cX2_readBlock 23 = .ok (.bipush 30, 2) := by decide +kernel
theorem dX2_readBlock_25 : decode cX2_readBlock 25 = .ok (.invokevirtual 62, 3) := by decide +kernel
theorem dX2_readBlock_28 : decode cX2_readBlock 28 = .ok (.istore_n 1, 1) := by decide +kernel
theorem dX2_readBlock_29 : decode cX2_readBlock 29 = .ok (.aload_n 0, 1) := by decide +kernel
theorem dX2_readBlock_30 : decode cX2_readBlock 30 = .ok (.bipush 59, 2) := by decide +kernel
theorem dX2_readBlock_32 : decode cX2_readBlock 32 = .ok (.invokevirtual 58, 3) := by decide +kernel
theorem dX2_readBlock_35 : decode cX2_readBlock 35 = .ok (.aload_n 0, 1) := by decide +kernel
theorem dX2_readBlock_36 : decode cX2_readBlock 36 = .ok (.getfield 29, 3) := by decide +kernel
theorem dX2_readBlock_39 : decode cX2_readBlock 39 = .ok (.ifCond .ne 32, 3) := by decide +kernel
theorem dX2_readBlock_42 : decode cX2_readBlock 42 = .ok (.aload_n 0, 1) := by decide +kernel
theorem dX2_readBlock_43 : decode cX2_readBlock 43 = .ok (.getfield 12, 3) := by decide +kernel
theorem dX2_readBlock_46 : decode cX2_readBlock 46 = .ok (.getfield 79, 3) := by decide +kernel
theorem dX2_readBlock_49 : decode cX2_readBlock 49 = .ok (.aload_n 0, 1) := by decide +kernel
theorem dX2_readBlock_50 : decode cX2_readBlock 50 = .ok (.getfield 12, 3) := by decide +kernel
theorem dX2_readBlock_53 : decode cX2_readBlock 53 = .ok (.getfield 72, 3) := by decide +kernel
theorem dX2_readBlock_56 : decode cX2_readBlock 56 = .ok (.iload_n 1, 1) := by decide +kernel
theorem dX2_readBlock_57 : decode cX2_readBlock 57 = .ok (.iastore, 1) := by decide +kernel
theorem dX2_readBlock_58 : decode cX2_readBlock 58 = .ok (.aload_n 0, 1) := by decide +kernel
theorem dX2_readBlock_59 : decode cX2_readBlock 59 = .ok (.getfield 12, 3) := by decide +kernel
theorem dX2_readBlock_62 : decode cX2_readBlock 62 = .ok (.dup, 1) := by decide +kernel
theorem dX2_readBlock_63 : decode cX2_readBlock 63 = .ok (.getfield 72, 3) := by decide +kernel
theorem dX2_readBlock_66 : decode cX2_readBlock 66 = .ok (.iconst 1, 1) := by decide +kernel
theorem dX2_readBlock_67 : decode cX2_readBlock 67 = .ok (.iadd, 1) := by decide +kernel
theorem dX2_readBlock_68 : decode cX2_readBlock 68 = .ok (.putfield 72, 3) := by decide +kernel
theorem dX2_readBlock_71 : decode cX2_readBlock 71 = .ok (.return_, 1) := by decide +kernel
theorem dX2_readRest_0 : decode cX2_readRest 0 = .ok (.aload_n 0, 1) := by decide +kernel
theorem dX2_readRest_1 : decode cX2_readRest 1 = .ok (.bipush 114, 2) := by decide +kernel
theorem dX2_readRest_3 : decode cX2_readRest 3 = .ok (.aload_n 0, 1) := by decide +kernel
theorem dX2_readRest_4 : decode cX2_readRest 4 = .ok (.getfield 12, 3) := by decide +kernel
theorem dX2_readRest_7 : decode cX2_readRest 7 = .ok (.getfield 82, 3) := by decide +kernel
theorem dX2_readRest_10 : decode cX2_readRest 10 = .ok (.bipush 12, 2) := by decide +kernel
theorem dX2_readRest_12 : decode cX2_readRest 12 = .ok (.invokevirtual 75, 3) := by decide +kernel
theorem dX2_readRest_15 : decode cX2_readRest 15 = .ok (.aload_n 0, 1) := by decide +kernel
theorem dX2_readRest_16 : decode cX2_readRest 16 = .ok (.bipush 114, 2) := by decide +kernel
theorem dX2_readRest_18 : decode cX2_readRest 18 = .ok (.invokevirtual 58, 3) := by decide +kernel
theorem dX2_readRest_21 : decode cX2_readRest 21 = .ok (.aload_n 0, 1) := by decide +kernel
theorem dX2_readRest_22 : decode cX2_readRest 22 = .ok (.iconst 0, 1) := by decide +kernel
theorem dX2_readRest_23 : decode cX2_readRest 23 = .ok (.aload_n 0, 1) := by decide +kernel
theorem dX2_readRest_24 : decode cX2_readRest 24 = .ok (.getfield 12, 3) := by decide +kernel
theorem dX2_readRest_27 : decode cX2_readRest 27 = .ok (.getfield 72, 3) := by decide +kernel
theorem dX2_readRest_30 : decode cX2_readRest 30 = .ok (.iconst 1, 1) := by decide +kernel
theorem dX2_readRest_31 : decode cX2_readRest 31 = .ok (.isub, 1) := by decide +kernel
theorem dX2_readRest_32 : decode cX2_readRest 32 = .ok (.invokevirtual 62, 3) := by decide +kernel
theorem dX2_readRest_35 : decode cX2_readRest 35 = .ok (.istore_n 1, 1) := by decide +kernel
theorem dX2_readRest_36 : decode cX2_readRest 36 = .ok (.aload_n 0, 1) := by decide +kernel
theorem dX2_readRest_37 : decode cX2_readRest 37 = .ok (.bipush 44, 2) := by decide +kernel
theorem dX2_readRest_39 : decode cX2_readRest 39 = .ok (.invokevirtual 58, 3) := by decide +kernel
theorem dX2_readRest_42 : decode cX2_readRest 42 = .ok (.aload_n 0, 1) := by decide +kernel
theorem dX2_readRest_43 : decode cX2_readRest 43 = .ok (.getfield 26, 3) := by decide +kernel
theorem dX2_readRest_46 : decode cX2_readRest 46 = .ok (.istore_n 2, 1) := by decide +kernel
theorem dX2_readRest_47 : decode cX2_readRest 47 = .ok (.aload_n 0, 1) := by decide +kernel
theorem dX2_readRest_48 : decode cX2_readRest 48 = .ok (.iconst 0, 1) := by decide +kernel
theorem dX2_readRest_49 : decode cX2_readRest 49 = .ok (.iload_n 1, 1) := by decide +kernel
theorem dX2_readRest_50 : decode cX2_readRest 50 = .ok (.iconst 1, 1) := by decide +kernel
theorem dX2_readRest_51 : decode cX2_readRest 51 = .ok (.isub, 1) := by decide +kernel
theorem dX2_readRest_52 : decode cX2_readRest 52 = .ok (.invokevirtual 62, 3) := by decide +kernel
theorem dX2_readRest_55 : decode cX2_readRest 55 = .ok (.istore_n 3, 1) := by decide +kernel
theorem dX2_readRest_56 : decode cX2_readRest 56 = .ok (.aload_n 0, 1) := by decide +kernel
theorem dX2_readRest_57 : decode cX2_readRest 57 = .ok (.getfield 29, 3) := by decide +kernel
theorem dX2_readRest_60 : decode cX2_readRest 60 = .ok (.ifCond .ne 30, 3) := by decide +kernel
theorem dX2_readRest_63 : decode cX2_readRest 63 = .ok (.aload_n 0, 1) := by decide +kernel
theorem dX2_readRest_64 : decode cX2_readRest 64 = .ok (.getfield 12, 3) := by decide +kernel
theorem dX2_readRest_67 : decode cX2_readRest 67 = .ok (.getfield 85, 3) := by decide +kernel
theorem dX2_readRest_70 : decode cX2_readRest 70 = .ok (.iload_n 1, 1) := by decide +kernel
theorem dX2_readRest_71 : decode cX2_readRest 71 = .ok (.iaload, 1) := by decide +kernel
theorem dX2_readRest_72 : decode cX2_readRest 72 = .ok (.iload_n 3, 1) := by decide +kernel
theorem dX2_readRest_73 : decode cX2_readRest 73 = .ok (.ishr, 1) := by decide +kernel
theorem dX2_readRest_74 : decode cX2_readRest 74 = .ok (.iconst 1, 1) := by decide +kernel
theorem dX2_readRest_75 : decode cX2_readRest 75 = .ok (.iand, 1) := by decide +kernel
theorem dX2_readRest_76 : decode cX2_readRest 76 = .ok (.iconst 1, 1) := by decide +kernel
theorem dX2_readRest_77 : decode cX2_readRest 77 = .ok (.if_icmp .ne 13, 3) := by decide +kernel
theorem dX2_readRest_80 : decode cX2_readRest 80 = .ok (.aload_n 0, 1) := by decide +kernel
theorem dX2_readRest_81 : decode cX2_readRest 81 = .ok (.iload_n 2, 1) := by decide +kernel
theorem dX2_readRest_82 : decode cX2_readRest 82 = .ok (.putfield 26, 3) := by decide +kernel
theorem dX2_readRest_85 : decode cX2_readRest 85 = .ok (.aload_n 0, 1) := by decide +kernel
theorem dX2_readRest_86 : decode cX2_readRest 86 = .ok (.iconst 2, 1) := by decide +kernel
theorem dX2_readRest_87 : decode cX2_readRest 87 = .ok (.putfield 29, 3) := by decide +kernel
theorem dX2_readRest_90 : decode cX2_readRest 90 = .ok (.aload_n 0, 1) := by decide +kernel
theorem dX2_readRest_91 : decode cX2_readRest 91 = .ok (.bipush 59, 2) := by decide +kernel
theorem dX2_readRest_93 : decode cX2_readRest 93 = .ok (.invokevirtual 58, 3) := by decide +kernel
theorem dX2_readRest_96 : decode cX2_readRest 96 = .ok (.aload_n 0, 1) := by decide +kernel
theorem dX2_readRest_97 : decode cX2_readRest 97 = .ok (.getfield 29, 3) := by decide +kernel
theorem dX2_readRest_100 : decode cX2_readRest 100 = .ok (.ifCond .ne 31, 3) := by decide +kernel
theorem dX2_readRest_103 : decode cX2_readRest 103 = .ok (.aload_n 0, 1) := by decide +kernel
theorem dX2_readRest_104 : decode cX2_readRest 104 = .ok (.getfield 12, 3) := by decide +kernel
theorem dX2_readRest_107 : decode cX2_readRest 107 = .ok (.getfield 85, 3) := by decide +kernel
theorem dX2_readRest_110 : decode cX2_readRest 110 = .ok (.iload_n 1, 1) := by decide +kernel
theorem dX2_readRest_111 : decode cX2_readRest 111 = .ok (.dup2, 1) := by decide +kernel
theorem dX2_readRest_112 : decode cX2_readRest 112 = .ok (.iaload, 1) := by decide +kernel
theorem dX2_readRest_113 : decode cX2_readRest 113 = .ok (.iconst 1, 1) := by decide +kernel
theorem dX2_readRest_114 : decode cX2_readRest 114 = .ok (.iload_n 3, 1) := by decide +kernel
theorem dX2_readRest_115 : decode cX2_readRest 115 = .ok (.ishl, 1) := by decide +kernel
theorem dX2_readRest_116 : decode cX2_readRest 116 = .ok (.ior, 1) := by decide +kernel
theorem dX2_readRest_117 : decode cX2_readRest 117 = .ok (.iastore, 1) := by decide +kernel
theorem dX2_readRest_118 : decode cX2_readRest 118 = .ok (.aload_n 0, 1) := by decide +kernel
theorem dX2_readRest_119 : decode cX2_readRest 119 = .ok (.getfield 12, 3) := by decide +kernel
theorem dX2_readRest_122 : decode cX2_readRest 122 = .ok (.dup, 1) := by decide +kernel
theorem dX2_readRest_123 : decode cX2_readRest 123 = .ok (.getfield 82, 3) := by decide +kernel
theorem dX2_readRest_126 : decode cX2_readRest 126 = .ok (.iconst 1, 1) := by decide +kernel
theorem dX2_readRest_127 : decode cX2_readRest 127 = .ok (.iadd, 1) := by decide +kernel
theorem dX2_readRest_128 : decode cX2_readRest 128 = .ok (.putfield 82, 3) := by decide +kernel
theorem dX2_readRest_131 : decode cX2_readRest 131 = .ok (.return_, 1) := by decide +kernel
theorem dX2_readClerk_0 : decode cX2_readClerk 0 = .ok (.aload_n 0, 1) := by decide +kernel
theorem dX2_readClerk_1 : decode cX2_readClerk 1 = .ok (.invokevirtual 41, 3) := by decide +kernel
theorem dX2_readClerk_4 : decode cX2_readClerk 4 = .ok (.invokestatic 48, 3) := by decide +kernel
theorem dX2_readClerk_7 : decode cX2_readClerk 7 = .ok (.istore_n 1, 1) := by decide +kernel
theorem dX2_readClerk_8 : decode cX2_readClerk 8 = .ok (.aload_n 0, 1) := by decide +kernel
theorem dX2_readClerk_9 : decode cX2_readClerk 9 = .ok (.aload_n 0, 1) := by decide +kernel
theorem dX2_readClerk_10 : decode cX2_readClerk 10 = .ok (.invokevirtual 41, 3) := by decide +kernel
theorem dX2_readClerk_13 : decode cX2_readClerk 13 = .ok (.aload_n 0, 1) := by decide +kernel
theorem dX2_readClerk_14 : decode cX2_readClerk 14 = .ok (.getfield 12, 3) := by decide +kernel
theorem dX2_readClerk_17 : decode cX2_readClerk 17 = .ok (.getfield 88, 3) := by decide +kernel
theorem dX2_readClerk_20 : decode cX2_readClerk 20 = .ok (.iconst 4, 1) := by decide +kernel
theorem dX2_readClerk_21 : decode cX2_readClerk 21 = .ok (.invokevirtual 75, 3) := by decide +kernel
theorem dX2_readClerk_24 : decode cX2_readClerk 24 = .ok (.aload_n 0, 1) := by decide +kernel
theorem dX2_readClerk_25 : decode cX2_readClerk 25 = .ok (.aload_n 0, 1) := by decide +kernel
theorem dX2_readClerk_26 : decode cX2_readClerk 26 = .ok (.invokevirtual 41, 3) := by decide +kernel
theorem dX2_readClerk_29 : decode cX2_readClerk 29 = .ok (.invokevirtual 58, 3) := by decide +kernel
theorem dX2_readClerk_32 : decode cX2_readClerk 32 = .ok (.aload_n 0, 1) := by decide +kernel
theorem dX2_readClerk_33 : decode cX2_readClerk 33 = .ok (.iconst 1, 1) := by decide +kernel
theorem dX2_readClerk_34 : decode cX2_readClerk 34 = .ok (.bipush 9, 2) := by decide +kernel
theorem dX2_readClerk_36 : decode cX2_readClerk 36 = .ok (.invokevirtual 62, 3) := by decide +kernel
theorem dX2_readClerk_39 : decode cX2_readClerk 39 = .ok (.istore_n 2, 1) := by decide +kernel
theorem dX2_readClerk_40 : decode cX2_readClerk 40 = .ok (.aload_n 0, 1) := by decide +kernel
theorem dX2_readClerk_41 : decode cX2_readClerk 41 = .ok (.bipush 59, 2) := by decide +kernel
theorem dX2_readClerk_43 : decode cX2_readClerk 43 = .ok (.invokevirtual 58, 3) := by decide +kernel
theorem dX2_readClerk_46 : decode cX2_readClerk 46 = .ok (.aload_n 0, 1) := by decide +kernel
theorem dX2_readClerk_47 : decode cX2_readClerk 47 = .ok (.getfield 29, 3) := by decide +kernel
theorem dX2_readClerk_50 : decode cX2_readClerk 50 = .ok (.ifCond .ne 48, 3) := by decide +kernel
theorem dX2_readClerk_53 : decode cX2_readClerk 53 = .ok (.aload_n 0, 1) := by decide +kernel
theorem dX2_readClerk_54 : decode cX2_readClerk 54 = .ok (.getfield 12, 3) := by decide +kernel
theorem dX2_readClerk_57 : decode cX2_readClerk 57 = .ok (.getfield 91, 3) := by decide +kernel
theorem dX2_readClerk_60 : decode cX2_readClerk 60 = .ok (.aload_n 0, 1) := by decide +kernel
theorem dX2_readClerk_61 : decode cX2_readClerk 61 = .ok (.getfield 12, 3) := by decide +kernel
theorem dX2_readClerk_64 : decode cX2_readClerk 64 = .ok (.getfield 88, 3) := by decide +kernel
theorem dX2_readClerk_67 : decode cX2_readClerk 67 = .ok (.iload_n 1, 1) := by decide +kernel
theorem dX2_readClerk_68 : decode cX2_readClerk 68 = .ok (.iastore, 1) := by decide +kernel
theorem dX2_readClerk_69 : decode cX2_readClerk 69 = .ok (.aload_n 0, 1) := by decide +kernel
theorem dX2_readClerk_70 : decode cX2_readClerk 70 = .ok (.getfield 12, 3) := by decide +kernel
theorem dX2_readClerk_73 : decode cX2_readClerk 73 = .ok (.getfield 94, 3) := by decide +kernel
theorem dX2_readClerk_76 : decode cX2_readClerk 76 = .ok (.aload_n 0, 1) := by decide +kernel
theorem dX2_readClerk_77 : decode cX2_readClerk 77 = .ok (.getfield 12, 3) := by decide +kernel
theorem dX2_readClerk_80 : decode cX2_readClerk 80 = .ok (.getfield 88, 3) := by decide +kernel
theorem dX2_readClerk_83 : decode cX2_readClerk 83 = .ok (.iload_n 2, 1) := by decide +kernel
theorem dX2_readClerk_84 : decode cX2_readClerk 84 = .ok (.iastore, 1) := by decide +kernel
theorem dX2_readClerk_85 : decode cX2_readClerk 85 = .ok (.aload_n 0, 1) := by decide +kernel
theorem dX2_readClerk_86 : decode cX2_readClerk 86 = .ok (.getfield 12, 3) := by decide +kernel
theorem dX2_readClerk_89 : decode cX2_readClerk 89 = .ok (.dup, 1) := by decide +kernel
theorem dX2_readClerk_90 : decode cX2_readClerk 90 = .ok (.getfield 88, 3) := by decide +kernel
theorem dX2_readClerk_93 : decode cX2_readClerk 93 = .ok (.iconst 1, 1) := by decide +kernel
theorem dX2_readClerk_94 : decode cX2_readClerk 94 = .ok (.iadd, 1) := by decide +kernel
theorem dX2_readClerk_95 : decode cX2_readClerk 95 = .ok (.putfield 88, 3) := by decide +kernel
theorem dX2_readClerk_98 : decode cX2_readClerk 98 = .ok (.return_, 1) := by decide +kernel
theorem dX2_kindOf_0 : decode cX2_kindOf 0 = .ok (.iload_n 0, 1) := by decide +kernel
theorem dX2_kindOf_1 : decode cX2_kindOf 1 = .ok (.lookupswitch 61 #[(99, 51), (108, 59), (112, 55), (115, 53), (121, 57)], 51) := by decide +kernel
theorem dX2_kindOf_52 : decode cX2_kindOf 52 = .ok (.iconst 1, 1) := by decide +kernel
theorem dX2_kindOf_53 : decode cX2_kindOf 53 = .ok (.ireturn, 1) := by decide +kernel
theorem dX2_kindOf_54 : decode cX2_kindOf 54 = .ok (.iconst 2, 1) := by decide +kernel
theorem dX2_kindOf_55 : decode cX2_kindOf 55 = .ok (.ireturn, 1) := by decide +kernel
theorem dX2_kindOf_56 : decode cX2_kindOf 56 = .ok (.iconst 3, 1) := by decide +kernel
theorem dX2_kindOf_57 : decode cX2_kindOf 57 = .ok (.ireturn, 1) := by decide +kernel
theorem dX2_kindOf_58 : decode cX2_kindOf 58 = .ok (.iconst 4, 1) := by decide +kernel
theorem dX2_kindOf_59 : decode cX2_kindOf 59 = .ok (.ireturn, 1) := by decide +kernel
theorem dX2_kindOf_60 : decode cX2_kindOf 60 = .ok (.iconst 5, 1) := by decide +kernel
theorem dX2_kindOf_61 : decode cX2_kindOf 61 = .ok (.ireturn, 1) := by decide +kernel
theorem dX2_kindOf_62 : decode cX2_kindOf 62 = .ok (.iconst 0, 1) := by decide +kernel
theorem dX2_kindOf_63 : decode cX2_kindOf 63 = .ok (.ireturn, 1) := by decide +kernel
theorem dX2_letter_0 : decode cX2_letter 0 = .ok (.aload_n 0, 1) := by decide +kernel
theorem dX2_letter_1 : decode cX2_letter 1 = .ok (.getfield 26, 3) := by decide +kernel
theorem dX2_letter_4 : decode cX2_letter 4 = .ok (.aload_n 0, 1) := by decide +kernel
theorem dX2_letter_5 : decode cX2_letter 5 = .ok (.getfield 22, 3) := by decide +kernel
theorem dX2_letter_8 : decode cX2_letter 8 = .ok (.if_icmp .ge 15, 3) := by decide +kernel
theorem dX2_letter_11 : decode cX2_letter 11 = .ok (.aload_n 0, 1) := by decide +kernel
theorem dX2_letter_12 : decode cX2_letter 12 = .ok (.getfield 18, 3) := by decide +kernel
theorem dX2_letter_15 : decode cX2_letter 15 = .ok (.aload_n 0, 1) := by decide +kernel
theorem dX2_letter_16 : decode cX2_letter 16 = .ok (.getfield 26, 3) := by decide +kernel
theorem dX2_letter_19 : decode cX2_letter 19 = .ok (.iaload, 1) := by decide +kernel
theorem dX2_letter_20 : decode cX2_letter 20 = .ok (.goto 4, 3) := by decide +kernel
theorem dX2_letter_23 : decode cX2_letter 23 = .ok (.iconst (-1), 1) := by decide +kernel
theorem dX2_letter_24 : decode cX2_letter 24 = .ok (.ireturn, 1) := by decide +kernel
theorem dX2_lookForRoom_0 : decode cX2_lookForRoom 0 = .ok (.aload_n 0, 1) := by decide +kernel
theorem dX2_lookForRoom_1 : decode cX2_lookForRoom 1 = .ok (.getfield 29, 3) := by decide +kernel
theorem dX2_lookForRoom_4 : decode cX2_lookForRoom 4 = .ok (.ifCond .ne 21, 3) := by decide +kernel
theorem dX2_lookForRoom_7 : decode cX2_lookForRoom 7 = .ok (.aload_n 0, 1) := by decide +kernel
theorem dX2_lookForRoom_8 : decode cX2_lookForRoom 8 = .ok (.invokevirtual 41, 3) := by decide +kernel
theorem dX2_lookForRoom_11 : decode cX2_lookForRoom 11 = .ok (.iload_n 1, 1) := by decide +kernel
theorem dX2_lookForRoom_12 : decode cX2_lookForRoom 12 = .ok (.if_icmp .ne 13, 3) := by decide +kernel
theorem dX2_lookForRoom_15 : decode cX2_lookForRoom 15 = .ok (.iload_n 2, 1) := by decide +kernel
theorem dX2_lookForRoom_16 : decode cX2_lookForRoom 16 = .ok (.iload_n 3, 1) := by decide +kernel
theorem dX2_lookForRoom_17 : decode cX2_lookForRoom 17 = .ok (.if_icmp .lt 8, 3) := by decide +kernel
theorem dX2_lookForRoom_20 : decode cX2_lookForRoom 20 = .ok (.aload_n 0, 1) := by decide +kernel
theorem dX2_lookForRoom_21 : decode cX2_lookForRoom 21 = .ok (.iconst 3, 1) := by decide +kernel
theorem dX2_lookForRoom_22 : decode cX2_lookForRoom 22 = .ok (.putfield 29, 3) := by decide +kernel
theorem dX2_lookForRoom_25 : decode cX2_lookForRoom 25 = .ok (.return_, 1) := by decide +kernel
theorem dX2_readSign_0 : decode cX2_readSign 0 = .ok (.aload_n 0, 1) := by decide +kernel
theorem dX2_readSign_1 : decode cX2_readSign 1 = .ok (.getfield 29, 3) := by decide +kernel
theorem dX2_readSign_4 : decode cX2_readSign 4 = .ok (.ifCond .eq 4, 3) := by decide +kernel
theorem dX2_readSign_7 : decode cX2_readSign 7 = .ok (.return_, 1) := by decide +kernel
theorem dX2_readSign_8 : decode cX2_readSign 8 = .ok (.aload_n 0, 1) := by decide +kernel
theorem dX2_readSign_9 : decode cX2_readSign 9 = .ok (.invokevirtual 41, 3) := by decide +kernel
theorem dX2_readSign_12 : decode cX2_readSign 12 = .ok (.iload_n 1, 1) := by decide +kernel
theorem dX2_readSign_13 : decode cX2_readSign 13 = .ok (.if_icmp .eq 9, 3) := by decide +kernel
theorem dX2_readSign_16 : decode cX2_readSign 16 = .ok (.aload_n 0, 1) := by decide +kernel
theorem dX2_readSign_17 : decode cX2_readSign 17 = .ok (.iconst 1, 1) := by decide +kernel
theorem dX2_readSign_18 : decode cX2_readSign 18 = .ok (.putfield 29, 3) := by decide +kernel
theorem dX2_readSign_21 : decode cX2_readSign 21 = .ok (.return_, 1) := by decide +kernel
theorem dX2_readSign_22 : decode cX2_readSign 22 = .ok (.aload_n 0, 1) := by decide +kernel
theorem dX2_readSign_23 : decode cX2_readSign 23 = .ok (.dup, 1) := by decide +kernel
theorem dX2_readSign_24 : decode cX2_readSign 24 = .ok (.getfield 26, 3) := by decide +kernel
theorem dX2_readSign_27 : decode cX2_readSign 27 = .ok (.iconst 1, 1) := by decide +kernel
theorem dX2_readSign_28 : decode cX2_readSign 28 = .ok (.iadd, 1) := by decide +kernel
theorem dX2_readSign_29 : decode cX2_readSign 29 = .ok (.putfield 26, 3) := by decide +kernel
theorem dX2_readSign_32 : decode cX2_readSign 32 = .ok (.return_, 1) := by decide +kernel
theorem dX2_readNumber_0 : decode cX2_readNumber 0 = .ok (.aload_n 0, 1) := by decide +kernel
theorem dX2_readNumber_1 : decode cX2_readNumber 1 = .ok (.getfield 29, 3) := by decide +kernel
theorem dX2_readNumber_4 : decode cX2_readNumber 4 = .ok (.ifCond .eq 5, 3) := by decide +kernel
theorem dX2_readNumber_7 : decode cX2_readNumber 7 = .ok (.iconst 0, 1) := by decide +kernel
theorem dX2_readNumber_8 : decode cX2_readNumber 8 = .ok (.ireturn, 1) := by decide +kernel
theorem dX2_readNumber_9 : decode cX2_readNumber 9 = .ok (.iconst 0, 1) := by decide +kernel
theorem dX2_readNumber_10 : decode cX2_readNumber 10 = .ok (.istore_n 3, 1) := by decide +kernel
theorem dX2_readNumber_11 : decode cX2_readNumber 11 = .ok (.iconst 0, 1) := by decide +kernel
theorem dX2_readNumber_12 : decode cX2_readNumber 12 = .ok (.istore 4, 2) := by decide +kernel
theorem dX2_readNumber_14 : decode cX2_readNumber 14 = .ok (.aload_n 0, 1) := by decide +kernel
theorem dX2_readNumber_15 : decode cX2_readNumber 15 = .ok (.getfield 26, 3) := by decide +kernel
theorem dX2_readNumber_18 : decode cX2_readNumber 18 = .ok (.istore 5, 2) := by decide +kernel
theorem dX2_readNumber_20 : decode cX2_readNumber 20 = .ok (.iload 5, 2) := by decide +kernel
theorem dX2_readNumber_22 : decode cX2_readNumber 22 = .ok (.aload_n 0, 1) := by decide +kernel
theorem dX2_readNumber_23 : decode cX2_readNumber 23 = .ok (.getfield 22, 3) := by decide +kernel
theorem dX2_readNumber_26 : decode cX2_readNumber 26 = .ok (.if_icmp .ge 58, 3) := by decide +kernel
theorem dX2_readNumber_29 : decode cX2_readNumber 29 = .ok (.iload 4, 2) := by decide +kernel
theorem dX2_readNumber_31 : decode cX2_readNumber 31 = .ok (.iconst 3, 1) := by decide +kernel
theorem dX2_readNumber_32 : decode cX2_readNumber 32 = .ok (.if_icmp .ge 52, 3) := by decide +kernel
theorem dX2_readNumber_35 : decode cX2_readNumber 35 = .ok (.aload_n 0, 1) := by decide +kernel
theorem dX2_readNumber_36 : decode cX2_readNumber 36 = .ok (.getfield 18, 3) := by decide +kernel
theorem dX2_readNumber_39 : decode cX2_readNumber 39 = .ok (.iload 5, 2) := by decide +kernel
theorem dX2_readNumber_41 : decode cX2_readNumber 41 = .ok (.iaload, 1) := by decide +kernel
theorem dX2_readNumber_42 : decode cX2_readNumber 42 = .ok (.bipush 48, 2) := by decide +kernel
theorem dX2_readNumber_44 : decode cX2_readNumber 44 = .ok (.if_icmp .lt 40, 3) := by decide +kernel
theorem dX2_readNumber_47 : decode cX2_readNumber 47 = .ok (.aload_n 0, 1) := by decide +kernel
theorem dX2_readNumber_48 : decode cX2_readNumber 48 = .ok (.getfield 18, 3) := by decide +kernel
theorem dX2_readNumber_51 : decode cX2_readNumber 51 = .ok (.iload 5, 2) := by decide +kernel
theorem dX2_readNumber_53 : decode cX2_readNumber 53 = .ok (.iaload, 1) := by decide +kernel
theorem dX2_readNumber_54 : decode cX2_readNumber 54 = .ok (.bipush 57, 2) := by decide +kernel
theorem dX2_readNumber_56 : decode cX2_readNumber 56 = .ok (.if_icmp .gt 28, 3) := by decide +kernel
theorem dX2_readNumber_59 : decode cX2_readNumber 59 = .ok (.bipush 10, 2) := by decide +kernel
theorem dX2_readNumber_61 : decode cX2_readNumber 61 = .ok (.iload_n 3, 1) := by decide +kernel
theorem dX2_readNumber_62 : decode cX2_readNumber 62 = .ok (.imul, 1) := by decide +kernel
theorem dX2_readNumber_63 : decode cX2_readNumber 63 = .ok (.aload_n 0, 1) := by decide +kernel
theorem dX2_readNumber_64 : decode cX2_readNumber 64 = .ok (.getfield 18, 3) := by decide +kernel
theorem dX2_readNumber_67 : decode cX2_readNumber 67 = .ok (.iload 5, 2) := by decide +kernel
theorem dX2_readNumber_69 : decode cX2_readNumber 69 = .ok (.iaload, 1) := by decide +kernel
theorem dX2_readNumber_70 : decode cX2_readNumber 70 = .ok (.iadd, 1) := by decide +kernel
theorem dX2_readNumber_71 : decode cX2_readNumber 71 = .ok (.bipush 48, 2) := by decide +kernel
theorem dX2_readNumber_73 : decode cX2_readNumber 73 = .ok (.isub, 1) := by decide +kernel
theorem dX2_readNumber_74 : decode cX2_readNumber 74 = .ok (.istore_n 3, 1) := by decide +kernel
theorem dX2_readNumber_75 : decode cX2_readNumber 75 = .ok (.iinc 4 1, 3) := by decide +kernel
theorem dX2_readNumber_78 : decode cX2_readNumber 78 = .ok (.iinc 5 1, 3) := by decide +kernel
theorem dX2_readNumber_81 : decode cX2_readNumber 81 = .ok (.goto (-61), 3) := by decide +kernel
theorem dX2_readNumber_84 : decode cX2_readNumber 84 = .ok (.iload 4, 2) := by decide +kernel
theorem dX2_readNumber_86 : decode cX2_readNumber 86 = .ok (.iconst 1, 1) := by decide +kernel
theorem dX2_readNumber_87 : decode cX2_readNumber 87 = .ok (.if_icmp .lt 9, 3) := by decide +kernel
theorem dX2_readNumber_90 : decode cX2_readNumber 90 = .ok (.iload 4, 2) := by decide +kernel
theorem dX2_readNumber_92 : decode cX2_readNumber 92 = .ok (.iconst 2, 1) := by decide +kernel
theorem dX2_readNumber_93 : decode cX2_readNumber 93 = .ok (.if_icmp .le 10, 3) := by decide +kernel
theorem dX2_readNumber_96 : decode cX2_readNumber 96 = .ok (.aload_n 0, 1) := by decide +kernel
theorem dX2_readNumber_97 : decode cX2_readNumber 97 = .ok (.iconst 1, 1) := by decide +kernel
theorem dX2_readNumber_98 : decode cX2_readNumber 98 = .ok (.putfield 29, 3) := by decide +kernel
theorem dX2_readNumber_101 : decode cX2_readNumber 101 = .ok (.iconst 0, 1) := by decide +kernel
theorem dX2_readNumber_102 : decode cX2_readNumber 102 = .ok (.ireturn, 1) := by decide +kernel
theorem dX2_readNumber_103 : decode cX2_readNumber 103 = .ok (.iload_n 3, 1) := by decide +kernel
theorem dX2_readNumber_104 : decode cX2_readNumber 104 = .ok (.iload_n 1, 1) := by decide +kernel
theorem dX2_readNumber_105 : decode cX2_readNumber 105 = .ok (.if_icmp .lt 8, 3) := by decide +kernel
theorem dX2_readNumber_108 : decode cX2_readNumber 108 = .ok (.iload_n 3, 1) := by decide +kernel
theorem dX2_readNumber_109 : decode cX2_readNumber 109 = .ok (.iload_n 2, 1) := by decide +kernel
theorem dX2_readNumber_110 : decode cX2_readNumber 110 = .ok (.if_icmp .le 10, 3) := by decide +kernel
theorem dX2_readNumber_113 : decode cX2_readNumber 113 = .ok (.aload_n 0, 1) := by decide +kernel
theorem dX2_readNumber_114 : decode cX2_readNumber 114 = .ok (.iconst 2, 1) := by decide +kernel
theorem dX2_readNumber_115 : decode cX2_readNumber 115 = .ok (.putfield 29, 3) := by decide +kernel
theorem dX2_readNumber_118 : decode cX2_readNumber 118 = .ok (.iconst 0, 1) := by decide +kernel
theorem dX2_readNumber_119 : decode cX2_readNumber 119 = .ok (.ireturn, 1) := by decide +kernel
theorem dX2_readNumber_120 : decode cX2_readNumber 120 = .ok (.aload_n 0, 1) := by decide +kernel
theorem dX2_readNumber_121 : decode cX2_readNumber 121 = .ok (.dup, 1) := by decide +kernel
theorem dX2_readNumber_122 : decode cX2_readNumber 122 = .ok (.getfield 26, 3) := by decide +kernel
theorem dX2_readNumber_125 : decode cX2_readNumber 125 = .ok (.iload 4, 2) := by decide +kernel
theorem dX2_readNumber_127 : decode cX2_readNumber 127 = .ok (.iadd, 1) := by decide +kernel
theorem dX2_readNumber_128 : decode cX2_readNumber 128 = .ok (.putfield 26, 3) := by decide +kernel
theorem dX2_readNumber_131 : decode cX2_readNumber 131 = .ok (.iload_n 3, 1) := by decide +kernel
theorem dX2_readNumber_132 : decode cX2_readNumber 132 = .ok (.ireturn, 1) := by decide +kernel
theorem dX3_init_0 : decode cX3_init 0 = .ok (.aload_n 0, 1) := by decide +kernel
theorem dX3_init_1 : decode cX3_init 1 = .ok (.invokespecial 3, 3) := by decide +kernel
theorem dX3_init_4 : decode cX3_init 4 = .ok (.aload_n 0, 1) := by decide +kernel
theorem dX3_init_5 : decode cX3_init 5 = .ok (.bipush 40, 2) := by decide +kernel
theorem dX3_init_7 : decode cX3_init 7 = .ok (.newarray .int, 2) := by decide +kernel
theorem dX3_init_9 : decode cX3_init 9 = .ok (.putfield 9, 3) := by decide +kernel
theorem dX3_init_12 : decode cX3_init 12 = .ok (.aload_n 0, 1) := by decide +kernel
theorem dX3_init_13 : decode cX3_init 13 = .ok (.iconst 0, 1) := by decide +kernel
theorem dX3_init_14 : decode cX3_init 14 = .ok (.putfield 15, 3) := by decide +kernel
theorem dX3_init_17 : decode cX3_init 17 = .ok (.aload_n 0, 1) := by decide +kernel
theorem dX3_init_18 : decode cX3_init 18 = .ok (.iconst (-1), 1) := by decide +kernel
theorem dX3_init_19 : decode cX3_init 19 = .ok (.putfield 19, 3) := by decide +kernel
theorem dX3_init_22 : decode cX3_init 22 = .ok (.return_, 1) := by decide +kernel
theorem dX3_begin_0 : decode cX3_begin 0 = .ok (.aload_n 0, 1) := by decide +kernel
theorem dX3_begin_1 : decode cX3_begin 1 = .ok (.iload_n 1, 1) := by decide +kernel
theorem dX3_begin_2 : decode cX3_begin 2 = .ok (.putfield 15, 3) := by decide +kernel
theorem dX3_begin_5 : decode cX3_begin 5 = .ok (.aload_n 0, 1) := by decide +kernel
theorem dX3_begin_6 : decode cX3_begin 6 = .ok (.iload_n 2, 1) := by decide +kernel
theorem dX3_begin_7 : decode cX3_begin 7 = .ok (.bipush 40, 2) := by decide +kernel
theorem dX3_begin_9 : decode cX3_begin 9 = .ok (.invokestatic 22, 3) := by decide +kernel
theorem dX3_begin_12 : decode cX3_begin 12 = .ok (.putfield 19, 3) := by decide +kernel
theorem dX3_begin_15 : decode cX3_begin 15 = .ok (.iconst 0, 1) := by decide +kernel
theorem dX3_begin_16 : decode cX3_begin 16 = .ok (.istore_n 3, 1) := by decide +kernel
theorem dX3_begin_17 : decode cX3_begin 17 = .ok (.iload_n 3, 1) := by decide +kernel
theorem dX3_begin_18 : decode cX3_begin 18 = .ok (.bipush 40, 2) := by decide +kernel
theorem dX3_begin_20 : decode cX3_begin 20 = .ok (.if_icmp .ge 16, 3) := by decide +kernel
theorem dX3_begin_23 : decode cX3_begin 23 = .ok (.aload_n 0, 1) := by decide +kernel
theorem dX3_begin_24 : decode cX3_begin 24 = .ok (.getfield 9, 3) := by decide +kernel
theorem dX3_begin_27 : decode cX3_begin 27 = .ok (.iload_n 3, 1) := by decide +kernel
theorem dX3_begin_28 : decode cX3_begin 28 = .ok (.iconst 0, 1) := by decide +kernel
theorem dX3_begin_29 : decode cX3_begin 29 = .ok (.iastore, 1) := by decide +kernel
theorem dX3_begin_30 : decode cX3_begin 30 = .ok (.iinc 3 1, 3) := by decide +kernel
theorem dX3_begin_33 : decode cX3_begin 33 = .ok (.goto (-16), 3) := by decide +kernel
theorem dX3_begin_36 : decode cX3_begin 36 = .ok (.return_, 1) := by decide +kernel
theorem dX3_drop_0 : decode cX3_drop 0 = .ok (.aload_n 0, 1) := by decide +kernel
theorem dX3_drop_1 : decode cX3_drop 1 = .ok (.iconst (-1), 1) := by decide +kernel
theorem dX3_drop_2 : decode cX3_drop 2 = .ok (.putfield 19, 3) := by decide +kernel
theorem dX3_drop_5 : decode cX3_drop 5 = .ok (.return_, 1) := by decide +kernel
theorem dX3_isMissing_0 : decode cX3_isMissing 0 = .ok (.aload_n 0, 1) := by decide +kernel
theorem dX3_isMissing_1 : decode cX3_isMissing 1 = .ok (.getfield 19, 3) := by decide +kernel
theorem dX3_isMissing_4 : decode cX3_isMissing 4 = .ok (.ifCond .ge 7, 3) := by decide +kernel
theorem dX3_isMissing_7 : decode cX3_isMissing 7 = .ok (.iconst 1, 1) := by decide +kernel
theorem dX3_isMissing_8 : decode cX3_isMissing 8 = .ok (.goto 4, 3) := by decide +kernel
theorem dX3_isMissing_11 : decode cX3_isMissing 11 = .ok (.iconst 0, 1) := by decide +kernel
theorem dX3_isMissing_12 : decode cX3_isMissing 12 = .ok (.ireturn, 1) := by decide +kernel
theorem dX3_hasPlaces_0 : decode cX3_hasPlaces 0 = .ok (.iload_n 1, 1) := by decide +kernel
theorem dX3_hasPlaces_1 : decode cX3_hasPlaces 1 = .ok (.ifCond .lt 21, 3) := by decide +kernel
theorem dX3_hasPlaces_4 : decode cX3_hasPlaces 4 = .ok (.iload_n 2, 1) := by decide +kernel
theorem dX3_hasPlaces_5 : decode cX3_hasPlaces 5 = .ok (.ifCond .lt 17, 3) := by decide +kernel
theorem dX3_hasPlaces_8 : decode cX3_hasPlaces 8 = .ok (.iload_n 1, 1) := by decide +kernel
theorem dX3_hasPlaces_9 : decode cX3_hasPlaces 9 = .ok (.aload_n 0, 1) := by decide +kernel
theorem dX3_hasPlaces_10 : decode cX3_hasPlaces 10 = .ok (.getfield 19, 3) := by decide +kernel
theorem dX3_hasPlaces_13 : decode cX3_hasPlaces 13 = .ok (.iload_n 2, 1) := by decide +kernel
theorem dX3_hasPlaces_14 : decode cX3_hasPlaces 14 = .ok (.isub, 1) := by decide +kernel
theorem dX3_hasPlaces_15 : decode cX3_hasPlaces 15 = .ok (.if_icmp .gt 7, 3) := by decide +kernel
theorem dX3_hasPlaces_18 : decode cX3_hasPlaces 18 = .ok (.iconst 1, 1) := by decide +kernel
theorem dX3_hasPlaces_19 : decode cX3_hasPlaces 19 = .ok (.goto 4, 3) := by decide +kernel
theorem dX3_hasPlaces_22 : decode cX3_hasPlaces 22 = .ok (.iconst 0, 1) := by decide +kernel
theorem dX3_hasPlaces_23 : decode cX3_hasPlaces 23 = .ok (.ireturn, 1) := by decide +kernel
theorem dX3_lackOf_0 : decode cX3_lackOf 0 = .ok (.aload_n 0, 1) := by decide +kernel
theorem dX3_lackOf_1 : decode cX3_lackOf 1 = .ok (.invokevirtual 28, 3) := by decide +kernel
theorem dX3_lackOf_4 : decode cX3_lackOf 4 = .ok (.ifCond .eq 5, 3) := by decide +kernel
theorem dX3_lackOf_7 : decode cX3_lackOf 7 = .ok (.iconst 1, 1) := by decide +kernel
theorem dX3_lackOf_8 : decode cX3_lackOf 8 = .ok (.ireturn, 1) := by decide +kernel
theorem dX3_lackOf_9 : decode cX3_lackOf 9 = .ok (.aload_n 0, 1) := by decide +kernel
theorem dX3_lackOf_10 : decode cX3_lackOf 10 = .ok (.iload_n 1, 1) := by decide +kernel
theorem dX3_lackOf_11 : decode cX3_lackOf 11 = .ok (.iload_n 2, 1) := by decide +kernel
theorem dX3_lackOf_12 : decode cX3_lackOf 12 = .ok (.invokevirtual 32, 3) := by decide +kernel
theorem dX3_lackOf_15 : decode cX3_lackOf 15 = .ok (.ifCond .eq 7, 3) := by decide +kernel
theorem dX3_lackOf_18 : decode cX3_lackOf 18 = .ok (.iconst 0, 1) := by decide +kernel
theorem dX3_lackOf_19 : decode cX3_lackOf 19 = .ok (.goto 4, 3) := by decide +kernel
theorem dX3_lackOf_22 : decode cX3_lackOf 22 = .ok (.iconst 2, 1) := by decide +kernel
theorem dX3_lackOf_23 : decode cX3_lackOf 23 = .ok (.ireturn, 1) := by decide +kernel
theorem dX3_lowestBits_0 : decode cX3_lowestBits 0 = .ok (.aload_n 0, 1) := by decide +kernel
theorem dX3_lowestBits_1 : decode cX3_lowestBits 1 = .ok (.getfield 15, 3) := by decide +kernel
theorem dX3_lowestBits_4 : decode cX3_lowestBits 4 = .ok (.lookupswitch 34 #[(0, 28), (1, 31)], 28) := by decide +kernel
theorem dX3_lowestBits_32 : decode cX3_lowestBits 32 = .ok (.iload_n 1, 1) := by decide +kernel
theorem dX3_lowestBits_33 : decode cX3_lowestBits 33 = .ok (.i2b, 1) := by decide +kernel
theorem dX3_lowestBits_34 : decode cX3_lowestBits 34 = .ok (.ireturn, 1) := by decide +kernel
theorem dX3_lowestBits_35 : decode cX3_lowestBits 35 = .ok (.iload_n 1, 1) := by decide +kernel
theorem dX3_lowestBits_36 : decode cX3_lowestBits 36 = .ok (.i2s, 1) := by decide +kernel
theorem dX3_lowestBits_37 : decode cX3_lowestBits 37 = .ok (.ireturn, 1) := by decide +kernel
theorem dX3_lowestBits_38 : decode cX3_lowestBits 38 = .ok (.iload_n 1, 1) := by decide +kernel
theorem dX3_lowestBits_39 : decode cX3_lowestBits 39 = .ok (.ireturn, 1) := by decide +kernel
theorem dX4_init_0 : decode cX4_init 0 = .ok (.aload_n 0, 1) := by decide +kernel
theorem dX4_init_1 : decode cX4_init 1 = .ok (.invokespecial 3, 3) := by decide +kernel
theorem dX4_init_4 : decode cX4_init 4 = .ok (.aload_n 0, 1) := by decide +kernel
theorem dX4_init_5 : decode cX4_init 5 = .ok (.new 9, 3) := by decide +kernel
theorem dX4_init_8 : decode cX4_init 8 = .ok (.dup, 1) := by decide +kernel
theorem dX4_init_9 : decode cX4_init 9 = .ok (.invokespecial 11, 3) := by decide +kernel
theorem dX4_init_12 : decode cX4_init 12 = .ok (.putfield 12, 3) := by decide +kernel
theorem dX4_init_15 : decode cX4_init 15 = .ok (.aload_n 0, 1) := by decide +kernel
theorem dX4_init_16 : decode cX4_init 16 = .ok (.iconst 4, 1) := by decide +kernel
theorem dX4_init_17 : decode cX4_init 17 = .ok (.newarray .int, 2) := by decide +kernel
theorem dX4_init_19 : decode cX4_init 19 = .ok (.putfield 18, 3) := by decide +kernel
theorem dX4_init_22 : decode cX4_init 22 = .ok (.aload_n 0, 1) := by decide +kernel
theorem dX4_init_23 : decode cX4_init 23 = .ok (.iconst 4, 1) := by decide +kernel
theorem dX4_init_24 : decode cX4_init 24 = .ok (.newarray .int, 2) := by decide +kernel
theorem dX4_init_26 : decode cX4_init 26 = .ok (.putfield 22, 3) := by decide +kernel
theorem dX4_init_29 : decode cX4_init 29 = .ok (.aload_n 0, 1) := by decide +kernel
theorem dX4_init_30 : decode cX4_init 30 = .ok (.iconst 4, 1) := by decide +kernel
theorem dX4_init_31 : decode cX4_init 31 = .ok (.newarray .int, 2) := by decide +kernel
theorem dX4_init_33 : decode cX4_init 33 = .ok (.putfield 25, 3) := by decide +kernel
theorem dX4_init_36 : decode cX4_init 36 = .ok (.aload_n 0, 1) := by decide +kernel
theorem dX4_init_37 : decode cX4_init 37 = .ok (.iconst 0, 1) := by decide +kernel
theorem dX4_init_38 : decode cX4_init 38 = .ok (.putfield 28, 3) := by decide +kernel
theorem dX4_init_41 : decode cX4_init 41 = .ok (.aload_n 0, 1) := by decide +kernel
theorem dX4_init_42 : decode cX4_init 42 = .ok (.iconst (-1), 1) := by decide +kernel
theorem dX4_init_43 : decode cX4_init 43 = .ok (.putfield 32, 3) := by decide +kernel
theorem dX4_init_46 : decode cX4_init 46 = .ok (.return_, 1) := by decide +kernel
theorem dX4_begin_0 : decode cX4_begin 0 = .ok (.aload_n 0, 1) := by decide +kernel
theorem dX4_begin_1 : decode cX4_begin 1 = .ok (.iload_n 2, 1) := by decide +kernel
theorem dX4_begin_2 : decode cX4_begin 2 = .ok (.iconst 4, 1) := by decide +kernel
theorem dX4_begin_3 : decode cX4_begin 3 = .ok (.invokestatic 35, 3) := by decide +kernel
theorem dX4_begin_6 : decode cX4_begin 6 = .ok (.putfield 28, 3) := by decide +kernel
theorem dX4_begin_9 : decode cX4_begin 9 = .ok (.aload_n 0, 1) := by decide +kernel
theorem dX4_begin_10 : decode cX4_begin 10 = .ok (.iconst (-1), 1) := by decide +kernel
theorem dX4_begin_11 : decode cX4_begin 11 = .ok (.putfield 32, 3) := by decide +kernel
theorem dX4_begin_14 : decode cX4_begin 14 = .ok (.aload_n 0, 1) := by decide +kernel
theorem dX4_begin_15 : decode cX4_begin 15 = .ok (.getfield 12, 3) := by decide +kernel
theorem dX4_begin_18 : decode cX4_begin 18 = .ok (.aload_n 1, 1) := by decide +kernel
theorem dX4_begin_19 : decode cX4_begin 19 = .ok (.invokevirtual 41, 3) := by decide +kernel
theorem dX4_begin_22 : decode cX4_begin 22 = .ok (.return_, 1) := by decide +kernel
theorem dX4_keepWay_0 : decode cX4_keepWay 0 = .ok (.aload_n 0, 1) := by decide +kernel
theorem dX4_keepWay_1 : decode cX4_keepWay 1 = .ok (.iload_n 1, 1) := by decide +kernel
theorem dX4_keepWay_2 : decode cX4_keepWay 2 = .ok (.putfield 32, 3) := by decide +kernel
theorem dX4_keepWay_5 : decode cX4_keepWay 5 = .ok (.aload_n 0, 1) := by decide +kernel
theorem dX4_keepWay_6 : decode cX4_keepWay 6 = .ok (.getfield 22, 3) := by decide +kernel
theorem dX4_keepWay_9 : decode cX4_keepWay 9 = .ok (.iconst 0, 1) := by decide +kernel
theorem dX4_keepWay_10 : decode cX4_keepWay 10 = .ok (.aload_n 0, 1) := by decide +kernel
theorem dX4_keepWay_11 : decode cX4_keepWay 11 = .ok (.getfield 25, 3) := by decide +kernel
theorem dX4_keepWay_14 : decode cX4_keepWay 14 = .ok (.iconst 0, 1) := by decide +kernel
theorem dX4_keepWay_15 : decode cX4_keepWay 15 = .ok (.aload_n 0, 1) := by decide +kernel
theorem dX4_keepWay_16 : decode cX4_keepWay 16 = .ok (.getfield 28, 3) := by decide +kernel
theorem dX4_keepWay_19 : decode cX4_keepWay 19 = .ok (.invokestatic 45, 3) := by decide +kernel
theorem dX4_keepWay_22 : decode cX4_keepWay 22 = .ok (.return_, 1) := by decide +kernel
theorem dX5_init_0 : decode cX5_init 0 = .ok (.aload_n 0, 1) := by decide +kernel
theorem dX5_init_1 : decode cX5_init 1 = .ok (.invokespecial 3, 3) := by decide +kernel
theorem dX5_init_4 : decode cX5_init 4 = .ok (.aload_n 0, 1) := by decide +kernel
theorem dX5_init_5 : decode cX5_init 5 = .ok (.bipush 8, 2) := by decide +kernel
theorem dX5_init_7 : decode cX5_init 7 = .ok (.newarray .int, 2) := by decide +kernel
theorem dX5_init_9 : decode cX5_init 9 = .ok (.putfield 9, 3) := by decide +kernel
theorem dX5_init_12 : decode cX5_init 12 = .ok (.aload_n 0, 1) := by decide +kernel
theorem dX5_init_13 : decode cX5_init 13 = .ok (.iconst 4, 1) := by decide +kernel
theorem dX5_init_14 : decode cX5_init 14 = .ok (.newarray .int, 2) := by decide +kernel
theorem dX5_init_16 : decode cX5_init 16 = .ok (.putfield 15, 3) := by decide +kernel
theorem dX5_init_19 : decode cX5_init 19 = .ok (.aload_n 0, 1) := by decide +kernel
theorem dX5_init_20 : decode cX5_init 20 = .ok (.iconst 0, 1) := by decide +kernel
theorem dX5_init_21 : decode cX5_init 21 = .ok (.putfield 18, 3) := by decide +kernel
theorem dX5_init_24 : decode cX5_init 24 = .ok (.aload_n 0, 1) := by decide +kernel
theorem dX5_init_25 : decode cX5_init 25 = .ok (.iconst 0, 1) := by decide +kernel
theorem dX5_init_26 : decode cX5_init 26 = .ok (.putfield 22, 3) := by decide +kernel
theorem dX5_init_29 : decode cX5_init 29 = .ok (.return_, 1) := by decide +kernel
theorem dX5_begin_0 : decode cX5_begin 0 = .ok (.aload_n 1, 1) := by decide +kernel
theorem dX5_begin_1 : decode cX5_begin 1 = .ok (.getfield 25, 3) := by decide +kernel
theorem dX5_begin_4 : decode cX5_begin 4 = .ok (.iconst 0, 1) := by decide +kernel
theorem dX5_begin_5 : decode cX5_begin 5 = .ok (.aload_n 0, 1) := by decide +kernel
theorem dX5_begin_6 : decode cX5_begin 6 = .ok (.getfield 9, 3) := by decide +kernel
theorem dX5_begin_9 : decode cX5_begin 9 = .ok (.iconst 0, 1) := by decide +kernel
theorem dX5_begin_10 : decode cX5_begin 10 = .ok (.bipush 8, 2) := by decide +kernel
theorem dX5_begin_12 : decode cX5_begin 12 = .ok (.invokestatic 28, 3) := by decide +kernel
theorem dX5_begin_15 : decode cX5_begin 15 = .ok (.iconst 0, 1) := by decide +kernel
theorem dX5_begin_16 : decode cX5_begin 16 = .ok (.istore_n 2, 1) := by decide +kernel
theorem dX5_begin_17 : decode cX5_begin 17 = .ok (.iload_n 2, 1) := by decide +kernel
theorem dX5_begin_18 : decode cX5_begin 18 = .ok (.iconst 4, 1) := by decide +kernel
theorem dX5_begin_19 : decode cX5_begin 19 = .ok (.if_icmp .ge 16, 3) := by decide +kernel
theorem dX5_begin_22 : decode cX5_begin 22 = .ok (.aload_n 0, 1) := by decide +kernel
theorem dX5_begin_23 : decode cX5_begin 23 = .ok (.getfield 15, 3) := by decide +kernel
theorem dX5_begin_26 : decode cX5_begin 26 = .ok (.iload_n 2, 1) := by decide +kernel
theorem dX5_begin_27 : decode cX5_begin 27 = .ok (.iconst 0, 1) := by decide +kernel
theorem dX5_begin_28 : decode cX5_begin 28 = .ok (.iastore, 1) := by decide +kernel
theorem dX5_begin_29 : decode cX5_begin 29 = .ok (.iinc 2 1, 3) := by decide +kernel
theorem dX5_begin_32 : decode cX5_begin 32 = .ok (.goto (-15), 3) := by decide +kernel
theorem dX5_begin_35 : decode cX5_begin 35 = .ok (.aload_n 0, 1) := by decide +kernel
theorem dX5_begin_36 : decode cX5_begin 36 = .ok (.iconst 0, 1) := by decide +kernel
theorem dX5_begin_37 : decode cX5_begin 37 = .ok (.putfield 18, 3) := by decide +kernel
theorem dX5_begin_40 : decode cX5_begin 40 = .ok (.aload_n 0, 1) := by decide +kernel
theorem dX5_begin_41 : decode cX5_begin 41 = .ok (.iconst 0, 1) := by decide +kernel
theorem dX5_begin_42 : decode cX5_begin 42 = .ok (.putfield 22, 3) := by decide +kernel
theorem dX5_begin_45 : decode cX5_begin 45 = .ok (.return_, 1) := by decide +kernel
theorem dX5_become_0 : decode cX5_become 0 = .ok (.aload_n 1, 1) := by decide +kernel
theorem dX5_become_1 : decode cX5_become 1 = .ok (.getfield 9, 3) := by decide +kernel
theorem dX5_become_4 : decode cX5_become 4 = .ok (.iconst 0, 1) := by decide +kernel
theorem dX5_become_5 : decode cX5_become 5 = .ok (.aload_n 0, 1) := by decide +kernel
theorem dX5_become_6 : decode cX5_become 6 = .ok (.getfield 9, 3) := by decide +kernel
theorem dX5_become_9 : decode cX5_become 9 = .ok (.iconst 0, 1) := by decide +kernel
theorem dX5_become_10 : decode cX5_become 10 = .ok (.bipush 8, 2) := by decide +kernel
theorem dX5_become_12 : decode cX5_become 12 = .ok (.invokestatic 28, 3) := by decide +kernel
theorem dX5_become_15 : decode cX5_become 15 = .ok (.aload_n 1, 1) := by decide +kernel
theorem dX5_become_16 : decode cX5_become 16 = .ok (.getfield 15, 3) := by decide +kernel
theorem dX5_become_19 : decode cX5_become 19 = .ok (.iconst 0, 1) := by decide +kernel
theorem dX5_become_20 : decode cX5_become 20 = .ok (.aload_n 0, 1) := by decide +kernel
theorem dX5_become_21 : decode cX5_become 21 = .ok (.getfield 15, 3) := by decide +kernel
theorem dX5_become_24 : decode cX5_become 24 = .ok (.iconst 0, 1) := by decide +kernel
theorem dX5_become_25 : decode cX5_become 25 = .ok (.iconst 4, 1) := by decide +kernel
theorem dX5_become_26 : decode cX5_become 26 = .ok (.invokestatic 28, 3) := by decide +kernel
theorem dX5_become_29 : decode cX5_become 29 = .ok (.aload_n 0, 1) := by decide +kernel
theorem dX5_become_30 : decode cX5_become 30 = .ok (.aload_n 1, 1) := by decide +kernel
theorem dX5_become_31 : decode cX5_become 31 = .ok (.getfield 18, 3) := by decide +kernel
theorem dX5_become_34 : decode cX5_become 34 = .ok (.putfield 18, 3) := by decide +kernel
theorem dX5_become_37 : decode cX5_become 37 = .ok (.aload_n 0, 1) := by decide +kernel
theorem dX5_become_38 : decode cX5_become 38 = .ok (.aload_n 1, 1) := by decide +kernel
theorem dX5_become_39 : decode cX5_become 39 = .ok (.getfield 22, 3) := by decide +kernel
theorem dX5_become_42 : decode cX5_become 42 = .ok (.putfield 22, 3) := by decide +kernel
theorem dX5_become_45 : decode cX5_become 45 = .ok (.return_, 1) := by decide +kernel
theorem dX5_useUp_0 : decode cX5_useUp 0 = .ok (.aload_n 0, 1) := by decide +kernel
theorem dX5_useUp_1 : decode cX5_useUp 1 = .ok (.getfield 9, 3) := by decide +kernel
theorem dX5_useUp_4 : decode cX5_useUp 4 = .ok (.iload_n 1, 1) := by decide +kernel
theorem dX5_useUp_5 : decode cX5_useUp 5 = .ok (.dup2, 1) := by decide +kernel
theorem dX5_useUp_6 : decode cX5_useUp 6 = .ok (.iaload, 1) := by decide +kernel
theorem dX5_useUp_7 : decode cX5_useUp 7 = .ok (.iload_n 2, 1) := by decide +kernel
theorem dX5_useUp_8 : decode cX5_useUp 8 = .ok (.isub, 1) := by decide +kernel
theorem dX5_useUp_9 : decode cX5_useUp 9 = .ok (.iastore, 1) := by decide +kernel
theorem dX5_useUp_10 : decode cX5_useUp 10 = .ok (.aload_n 0, 1) := by decide +kernel
theorem dX5_useUp_11 : decode cX5_useUp 11 = .ok (.dup, 1) := by decide +kernel
theorem dX5_useUp_12 : decode cX5_useUp 12 = .ok (.getfield 18, 3) := by decide +kernel
theorem dX5_useUp_15 : decode cX5_useUp 15 = .ok (.iload_n 2, 1) := by decide +kernel
theorem dX5_useUp_16 : decode cX5_useUp 16 = .ok (.iadd, 1) := by decide +kernel
theorem dX5_useUp_17 : decode cX5_useUp 17 = .ok (.putfield 18, 3) := by decide +kernel
theorem dX5_useUp_20 : decode cX5_useUp 20 = .ok (.return_, 1) := by decide +kernel
theorem dX5_withChalk_0 : decode cX5_withChalk 0 = .ok (.iconst 0, 1) := by decide +kernel
theorem dX5_withChalk_1 : decode cX5_withChalk 1 = .ok (.istore_n 1, 1) := by decide +kernel
theorem dX5_withChalk_2 : decode cX5_withChalk 2 = .ok (.iconst 0, 1) := by decide +kernel
theorem dX5_withChalk_3 : decode cX5_withChalk 3 = .ok (.istore_n 2, 1) := by decide +kernel
theorem dX5_withChalk_4 : decode cX5_withChalk 4 = .ok (.iload_n 2, 1) := by decide +kernel
theorem dX5_withChalk_5 : decode cX5_withChalk 5 = .ok (.bipush 8, 2) := by decide +kernel
theorem dX5_withChalk_7 : decode cX5_withChalk 7 = .ok (.if_icmp .ge 24, 3) := by decide +kernel
theorem dX5_withChalk_10 : decode cX5_withChalk 10 = .ok (.aload_n 0, 1) := by decide +kernel
theorem dX5_withChalk_11 : decode cX5_withChalk 11 = .ok (.getfield 9, 3) := by decide +kernel
theorem dX5_withChalk_14 : decode cX5_withChalk 14 = .ok (.iload_n 2, 1) := by decide +kernel
theorem dX5_withChalk_15 : decode cX5_withChalk 15 = .ok (.iaload, 1) := by decide +kernel
theorem dX5_withChalk_16 : decode cX5_withChalk 16 = .ok (.ifCond .le 9, 3) := by decide +kernel
theorem dX5_withChalk_19 : decode cX5_withChalk 19 = .ok (.iload_n 1, 1) := by decide +kernel
theorem dX5_withChalk_20 : decode cX5_withChalk 20 = .ok (.iconst 1, 1) := by decide +kernel
theorem dX5_withChalk_21 : decode cX5_withChalk 21 = .ok (.iload_n 2, 1) := by decide +kernel
theorem dX5_withChalk_22 : decode cX5_withChalk 22 = .ok (.ishl, 1) := by decide +kernel
theorem dX5_withChalk_23 : decode cX5_withChalk 23 = .ok (.ior, 1) := by decide +kernel
theorem dX5_withChalk_24 : decode cX5_withChalk 24 = .ok (.istore_n 1, 1) := by decide +kernel
theorem dX5_withChalk_25 : decode cX5_withChalk 25 = .ok (.iinc 2 1, 3) := by decide +kernel
theorem dX5_withChalk_28 : decode cX5_withChalk 28 = .ok (.goto (-24), 3) := by decide +kernel
theorem dX5_withChalk_31 : decode cX5_withChalk 31 = .ok (.iload_n 1, 1) := by decide +kernel
theorem dX5_withChalk_32 : decode cX5_withChalk 32 = .ok (.ireturn, 1) := by decide +kernel
theorem dX5_allChalk_0 : decode cX5_allChalk 0 = .ok (.iconst 0, 1) := by decide +kernel
theorem dX5_allChalk_1 : decode cX5_allChalk 1 = .ok (.istore_n 1, 1) := by decide +kernel
theorem dX5_allChalk_2 : decode cX5_allChalk 2 = .ok (.iconst 0, 1) := by decide +kernel
theorem dX5_allChalk_3 : decode cX5_allChalk 3 = .ok (.istore_n 2, 1) := by decide +kernel
theorem dX5_allChalk_4 : decode cX5_allChalk 4 = .ok (.iload_n 2, 1) := by decide +kernel
theorem dX5_allChalk_5 : decode cX5_allChalk 5 = .ok (.bipush 8, 2) := by decide +kernel
theorem dX5_allChalk_7 : decode cX5_allChalk 7 = .ok (.if_icmp .ge 18, 3) := by decide +kernel
theorem dX5_allChalk_10 : decode cX5_allChalk 10 = .ok (.iload_n 1, 1) := by decide +kernel
theorem dX5_allChalk_11 : decode cX5_allChalk 11 = .ok (.aload_n 0, 1) := by decide +kernel
theorem dX5_allChalk_12 : decode cX5_allChalk 12 = .ok (.getfield 9, 3) := by decide +kernel
theorem dX5_allChalk_15 : decode cX5_allChalk 15 = .ok (.iload_n 2, 1) := by decide +kernel
theorem dX5_allChalk_16 : decode cX5_allChalk 16 = .ok (.iaload, 1) := by decide +kernel
theorem dX5_allChalk_17 : decode cX5_allChalk 17 = .ok (.iadd, 1) := by decide +kernel
theorem dX5_allChalk_18 : decode cX5_allChalk 18 = .ok (.istore_n 1, 1) := by decide +kernel
theorem dX5_allChalk_19 : decode cX5_allChalk 19 = .ok (.iinc 2 1, 3) := by decide +kernel
theorem dX5_allChalk_22 : decode cX5_allChalk 22 = .ok (.goto (-18), 3) := by decide +kernel
theorem dX5_allChalk_25 : decode cX5_allChalk 25 = .ok (.iload_n 1, 1) := by decide +kernel
theorem dX5_allChalk_26 : decode cX5_allChalk 26 = .ok (.ireturn, 1) := by decide +kernel
theorem dX5_allLines_0 : decode cX5_allLines 0 = .ok (.iconst 0, 1) := by decide +kernel
theorem dX5_allLines_1 : decode cX5_allLines 1 = .ok (.istore_n 1, 1) := by decide +kernel
theorem dX5_allLines_2 : decode cX5_allLines 2 = .ok (.iconst 0, 1) := by decide +kernel
theorem dX5_allLines_3 : decode cX5_allLines 3 = .ok (.istore_n 2, 1) := by decide +kernel
theorem dX5_allLines_4 : decode cX5_allLines 4 = .ok (.iload_n 2, 1) := by decide +kernel
theorem dX5_allLines_5 : decode cX5_allLines 5 = .ok (.iconst 4, 1) := by decide +kernel
theorem dX5_allLines_6 : decode cX5_allLines 6 = .ok (.if_icmp .ge 18, 3) := by decide +kernel
theorem dX5_allLines_9 : decode cX5_allLines 9 = .ok (.iload_n 1, 1) := by decide +kernel
theorem dX5_allLines_10 : decode cX5_allLines 10 = .ok (.aload_n 0, 1) := by decide +kernel
theorem dX5_allLines_11 : decode cX5_allLines 11 = .ok (.getfield 15, 3) := by decide +kernel
theorem dX5_allLines_14 : decode cX5_allLines 14 = .ok (.iload_n 2, 1) := by decide +kernel
theorem dX5_allLines_15 : decode cX5_allLines 15 = .ok (.iaload, 1) := by decide +kernel
theorem dX5_allLines_16 : decode cX5_allLines 16 = .ok (.iadd, 1) := by decide +kernel
theorem dX5_allLines_17 : decode cX5_allLines 17 = .ok (.istore_n 1, 1) := by decide +kernel
theorem dX5_allLines_18 : decode cX5_allLines 18 = .ok (.iinc 2 1, 3) := by decide +kernel
theorem dX5_allLines_21 : decode cX5_allLines 21 = .ok (.goto (-17), 3) := by decide +kernel
theorem dX5_allLines_24 : decode cX5_allLines 24 = .ok (.iload_n 1, 1) := by decide +kernel
theorem dX5_allLines_25 : decode cX5_allLines 25 = .ok (.ireturn, 1) := by decide +kernel
theorem dX6_init_0 : decode cX6_init 0 = .ok (.aload_n 0, 1) := by decide +kernel
theorem dX6_init_1 : decode cX6_init 1 = .ok (.invokespecial 1, 3) := by decide +kernel
theorem dX6_init_4 : decode cX6_init 4 = .ok (.aload_n 0, 1) := by decide +kernel
theorem dX6_init_5 : decode cX6_init 5 = .ok (.bipush 8, 2) := by decide +kernel
theorem dX6_init_7 : decode cX6_init 7 = .ok (.anewarray 9, 3) := by decide +kernel
theorem dX6_init_10 : decode cX6_init 10 = .ok (.putfield 11, 3) := by decide +kernel
theorem dX6_init_13 : decode cX6_init 13 = .ok (.aload_n 0, 1) := by decide +kernel
theorem dX6_init_14 : decode cX6_init 14 = .ok (.new 15, 3) := by decide +kernel
theorem dX6_init_17 : decode cX6_init 17 = .ok (.dup, 1) := by decide +kernel
theorem dX6_init_18 : decode cX6_init 18 = .ok (.invokespecial 17, 3) := by decide +kernel
theorem dX6_init_21 : decode cX6_init 21 = .ok (.putfield 18, 3) := by decide +kernel
theorem dX6_init_24 : decode cX6_init 24 = .ok (.aload_n 0, 1) := by decide +kernel
theorem dX6_init_25 : decode cX6_init 25 = .ok (.iconst 0, 1) := by decide +kernel
theorem dX6_init_26 : decode cX6_init 26 = .ok (.putfield 22, 3) := by decide +kernel
theorem dX6_init_29 : decode cX6_init 29 = .ok (.aload_n 0, 1) := by decide +kernel
theorem dX6_init_30 : decode cX6_init 30 = .ok (.iconst 0, 1) := by decide +kernel
theorem dX6_init_31 : decode cX6_init 31 = .ok (.putfield 26, 3) := by decide +kernel
theorem dX6_init_34 : decode cX6_init 34 = .ok (.aload_n 0, 1) := by decide +kernel
theorem dX6_init_35 : decode cX6_init 35 = .ok (.new 29, 3) := by decide +kernel
theorem dX6_init_38 : decode cX6_init 38 = .ok (.dup, 1) := by decide +kernel
theorem dX6_init_39 : decode cX6_init 39 = .ok (.invokespecial 31, 3) := by decide +kernel
theorem dX6_init_42 : decode cX6_init 42 = .ok (.putfield 32, 3) := by decide +kernel
theorem dX6_init_45 : decode cX6_init 45 = .ok (.aload_n 0, 1) := by decide +kernel
theorem dX6_init_46 : decode cX6_init 46 = .ok (.new 36, 3) := by decide +kernel
theorem dX6_init_49 : decode cX6_init 49 = .ok (.dup, 1) := by decide +kernel
theorem dX6_init_50 : decode cX6_init 50 = .ok (.invokespecial 38, 3) := by decide +kernel
theorem dX6_init_53 : decode cX6_init 53 = .ok (.putfield 39, 3) := by decide +kernel
theorem dX6_init_56 : decode cX6_init 56 = .ok (.aload_n 0, 1) := by decide +kernel
theorem dX6_init_57 : decode cX6_init 57 = .ok (.bipush 24, 2) := by decide +kernel
theorem dX6_init_59 : decode cX6_init 59 = .ok (.anewarray 36, 3) := by decide +kernel
theorem dX6_init_62 : decode cX6_init 62 = .ok (.putfield 43, 3) := by decide +kernel
theorem dX6_init_65 : decode cX6_init 65 = .ok (.aload_n 0, 1) := by decide +kernel
theorem dX6_init_66 : decode cX6_init 66 = .ok (.iconst 0, 1) := by decide +kernel
theorem dX6_init_67 : decode cX6_init 67 = .ok (.putfield 47, 3) := by decide +kernel
theorem dX6_init_70 : decode cX6_init 70 = .ok (.aload_n 0, 1) := by decide +kernel
theorem dX6_init_71 : decode cX6_init 71 = .ok (.iconst 0, 1) := by decide +kernel
theorem dX6_init_72 : decode cX6_init 72 = .ok (.putfield 50, 3) := by decide +kernel
theorem dX6_init_75 : decode cX6_init 75 = .ok (.aload_n 0, 1) := by decide +kernel
theorem dX6_init_76 : decode cX6_init 76 = .ok (.iconst 2, 1) := by decide +kernel
theorem dX6_init_77 : decode cX6_init 77 = .ok (.anewarray 29, 3) := by decide +kernel
theorem dX6_init_80 : decode cX6_init 80 = .ok (.putfield 53, 3) := by decide +kernel
theorem dX6_init_83 : decode cX6_init 83 = .ok (.aload_n 0, 1) := by decide +kernel
theorem dX6_init_84 : decode cX6_init 84 = .ok (.iconst 2, 1) := by decide +kernel
theorem dX6_init_85 : decode cX6_init 85 = .ok (.anewarray 36, 3) := by decide +kernel
theorem dX6_init_88 : decode cX6_init 88 = .ok (.putfield 57, 3) := by decide +kernel
theorem dX6_init_91 : decode cX6_init 91 = .ok (.aload_n 0, 1) := by decide +kernel
theorem dX6_init_92 : decode cX6_init 92 = .ok (.new 36, 3) := by decide +kernel
theorem dX6_init_95 : decode cX6_init 95 = .ok (.dup, 1) := by decide +kernel
theorem dX6_init_96 : decode cX6_init 96 = .ok (.invokespecial 38, 3) := by decide +kernel
theorem dX6_init_99 : decode cX6_init 99 = .ok (.putfield 60, 3) := by decide +kernel
theorem dX6_init_102 : decode cX6_init 102 = .ok (.aload_n 0, 1) := by decide +kernel
theorem dX6_init_103 : decode cX6_init 103 = .ok (.new 63, 3) := by decide +kernel
theorem dX6_init_106 : decode cX6_init 106 = .ok (.dup, 1) := by decide +kernel
theorem dX6_init_107 : decode cX6_init 107 = .ok (.invokespecial 65, 3) := by decide +kernel
theorem dX6_init_110 : decode cX6_init 110 = .ok (.putfield 66, 3) := by decide +kernel
theorem dX6_init_113 : decode cX6_init 113 = .ok (.aload_n 0, 1) := by decide +kernel
theorem dX6_init_114 : decode cX6_init 114 = .ok (.new 70, 3) := by decide +kernel
theorem dX6_init_117 : decode cX6_init 117 = .ok (.dup, 1) := by decide +kernel
theorem dX6_init_118 : decode cX6_init 118 = .ok (.invokespecial 72, 3) := by decide +kernel
theorem dX6_init_121 : decode cX6_init 121 = .ok (.putfield 73, 3) := by decide +kernel
theorem dX6_init_124 : decode cX6_init 124 = .ok (.iconst 0, 1) := by decide +kernel
theorem dX6_init_125 : decode cX6_init 125 = .ok (.istore_n 1, 1) := by decide +kernel
theorem dX6_init_126 : decode cX6_init 126 = .ok (.iload_n 1, 1) := by decide +kernel
theorem dX6_init_127 : decode cX6_init 127 = .ok (.bipush 8, 2) := by decide +kernel
theorem dX6_init_129 : decode cX6_init 129 = .ok (.if_icmp .ge 22, 3) := by decide +kernel
theorem dX6_init_132 : decode cX6_init 132 = .ok (.aload_n 0, 1) := by decide +kernel
theorem dX6_init_133 : decode cX6_init 133 = .ok (.getfield 11, 3) := by decide +kernel
theorem dX6_init_136 : decode cX6_init 136 = .ok (.iload_n 1, 1) := by decide +kernel
theorem dX6_init_137 : decode cX6_init 137 = .ok (.new 9, 3) := by decide +kernel
theorem dX6_init_140 : decode cX6_init 140 = .ok (.dup, 1) := by decide +kernel
theorem dX6_init_141 : decode cX6_init 141 = .ok (.invokespecial 77, 3) := by decide +kernel
theorem dX6_init_144 : decode cX6_init 144 = .ok (.aastore, 1) := by decide +kernel
theorem dX6_init_145 : decode cX6_init 145 = .ok (.iinc 1 1, 3) := by decide +kernel
theorem dX6_init_148 : decode cX6_init 148 = .ok (.goto (-22), 3) := by decide +kernel
theorem dX6_init_151 : decode cX6_init 151 = .ok (.iconst 0, 1) := by decide +kernel
theorem dX6_init_152 : decode cX6_init 152 = .ok (.istore_n 1, 1) := by decide +kernel
theorem dX6_init_153 : decode cX6_init 153 = .ok (.iload_n 1, 1) := by decide +kernel
theorem dX6_init_154 : decode cX6_init 154 = .ok (.bipush 24, 2) := by decide +kernel
theorem dX6_init_156 : decode cX6_init 156 = .ok (.if_icmp .ge 22, 3) := by decide +kernel
theorem dX6_init_159 : decode cX6_init 159 = .ok (.aload_n 0, 1) := by decide +kernel
theorem dX6_init_160 : decode cX6_init 160 = .ok (.getfield 43, 3) := by decide +kernel
theorem dX6_init_163 : decode cX6_init 163 = .ok (.iload_n 1, 1) := by decide +kernel
theorem dX6_init_164 : decode cX6_init 164 = .ok (.new 36, 3) := by decide +kernel
theorem dX6_init_167 : decode cX6_init 167 = .ok (.dup, 1) := by decide +kernel
theorem dX6_init_168 : decode cX6_init 168 = .ok (.invokespecial 38, 3) := by decide +kernel
theorem dX6_init_171 : decode cX6_init 171 = .ok (.aastore, 1) := by decide +kernel
theorem dX6_init_172 : decode cX6_init 172 = .ok (.iinc 1 1, 3) := by decide +kernel
theorem dX6_init_175 : decode cX6_init 175 = .ok (.goto (-22), 3) := by decide +kernel
theorem dX6_init_178 : decode cX6_init 178 = .ok (.iconst 0, 1) := by decide +kernel
theorem dX6_init_179 : decode cX6_init 179 = .ok (.istore_n 1, 1) := by decide +kernel
theorem dX6_init_180 : decode cX6_init 180 = .ok (.iload_n 1, 1) := by decide +kernel
theorem dX6_init_181 : decode cX6_init 181 = .ok (.iconst 2, 1) := by decide +kernel
theorem dX6_init_182 : decode cX6_init 182 = .ok (.if_icmp .ge 35, 3) := by decide +kernel
theorem dX6_init_185 : decode cX6_init 185 = .ok (.aload_n 0, 1) := by decide +kernel
theorem dX6_init_186 : decode cX6_init 186 = .ok (.getfield 53, 3) := by decide +kernel
theorem dX6_init_189 : decode cX6_init 189 = .ok (.iload_n 1, 1) := by decide +kernel
theorem dX6_init_190 : decode cX6_init 190 = .ok (.new 29, 3) := by decide +kernel
theorem dX6_init_193 : decode cX6_init 193 = .ok (.dup, 1) := by decide +kernel
theorem dX6_init_194 : decode cX6_init 194 = .ok (.invokespecial 31, 3) := by decide +kernel
theorem dX6_init_197 : decode cX6_init 197 = .ok (.aastore, 1) := by decide +kernel
theorem dX6_init_198 : decode cX6_init 198 = .ok (.aload_n 0, 1) := by decide +kernel
theorem dX6_init_199 : decode cX6_init 199 = .ok (.getfield 57, 3) := by decide +kernel
theorem dX6_init_202 : decode cX6_init 202 = .ok (.iload_n 1, 1) := by decide +kernel
theorem dX6_init_203 : decode cX6_init 203 = .ok (.new 36, 3) := by decide +kernel
theorem dX6_init_206 : decode cX6_init 206 = .ok (.dup, 1) := by decide +kernel
theorem dX6_init_207 : decode cX6_init 207 = .ok (.invokespecial 38, 3) := by decide +kernel
theorem dX6_init_210 : decode cX6_init 210 = .ok (.aastore, 1) := by decide +kernel
theorem dX6_init_211 : decode cX6_init 211 = .ok (.iinc 1 1, 3) := by decide +kernel
theorem dX6_init_214 : decode cX6_init 214 = .ok (.goto (-34), 3) := by decide +kernel
theorem dX6_init_217 : decode cX6_init 217 = .ok (.return_, 1) := by decide +kernel
theorem dX6_row_0 : decode cX6_row 0 = .ok (.iload_n 1, 1) := by decide +kernel
theorem dX6_row_1 : decode cX6_row 1 = .ok (.bipush 8, 2) := by decide +kernel
theorem dX6_row_3 : decode cX6_row 3 = .ok (.invokestatic 78, 3) := by decide +kernel
theorem dX6_row_6 : decode cX6_row 6 = .ok (.ifCond .eq 17, 3) := by decide +kernel
theorem dX6_row_9 : decode cX6_row 9 = .ok (.iload_n 2, 1) := by decide +kernel
theorem dX6_row_10 : decode cX6_row 10 = .ok (.iconst 3, 1) := by decide +kernel
theorem dX6_row_11 : decode cX6_row 11 = .ok (.invokestatic 78, 3) := by decide +kernel
theorem dX6_row_14 : decode cX6_row 14 = .ok (.ifCond .eq 9, 3) := by decide +kernel
theorem dX6_row_17 : decode cX6_row 17 = .ok (.iload_n 3, 1) := by decide +kernel
theorem dX6_row_18 : decode cX6_row 18 = .ok (.bipush 40, 2) := by decide +kernel
theorem dX6_row_20 : decode cX6_row 20 = .ok (.if_icmp .le 6, 3) := by decide +kernel
theorem dX6_row_23 : decode cX6_row 23 = .ok (.ldc 82, 2) := by decide +kernel
theorem dX6_row_25 : decode cX6_row 25 = .ok (.ireturn, 1) := by decide +kernel
theorem dX6_row_26 : decode cX6_row 26 = .ok (.iload_n 3, 1) := by decide +kernel
theorem dX6_row_27 : decode cX6_row 27 = .ok (.ifCond .ge 9, 3) := by decide +kernel
theorem dX6_row_30 : decode cX6_row 30 = .ok (.aload_n 0, 1) := by decide +kernel
theorem dX6_row_31 : decode cX6_row 31 = .ok (.iconst 4, 1) := by decide +kernel
theorem dX6_row_32 : decode cX6_row 32 = .ok (.invokevirtual 83, 3) := by decide +kernel
theorem dX6_row_35 : decode cX6_row 35 = .ok (.ireturn, 1) := by decide +kernel
theorem dX6_row_36 : decode cX6_row 36 = .ok (.aload_n 0, 1) := by decide +kernel
theorem dX6_row_37 : decode cX6_row 37 = .ok (.getfield 11, 3) := by decide +kernel
theorem dX6_row_40 : decode cX6_row 40 = .ok (.iload_n 1, 1) := by decide +kernel
theorem dX6_row_41 : decode cX6_row 41 = .ok (.aaload, 1) := by decide +kernel
theorem dX6_row_42 : decode cX6_row 42 = .ok (.iload_n 2, 1) := by decide +kernel
theorem dX6_row_43 : decode cX6_row 43 = .ok (.iload_n 3, 1) := by decide +kernel
theorem dX6_row_44 : decode cX6_row 44 = .ok (.invokevirtual 87, 3) := by decide +kernel
theorem dX6_row_47 : decode cX6_row 47 = .ok (.aload_n 0, 1) := by decide +kernel
theorem dX6_row_48 : decode cX6_row 48 = .ok (.iload_n 3, 1) := by decide +kernel
theorem dX6_row_49 : decode cX6_row 49 = .ok (.invokevirtual 91, 3) := by decide +kernel
theorem dX6_row_52 : decode cX6_row 52 = .ok (.ireturn, 1) := by decide +kernel
theorem dX6_set_0 : decode cX6_set 0 = .ok (.iload_n 1, 1) := by decide +kernel
theorem dX6_set_1 : decode cX6_set 1 = .ok (.bipush 8, 2) := by decide +kernel
theorem dX6_set_3 : decode cX6_set 3 = .ok (.invokestatic 78, 3) := by decide +kernel
theorem dX6_set_6 : decode cX6_set 6 = .ok (.ifCond .ne 6, 3) := by decide +kernel
theorem dX6_set_9 : decode cX6_set 9 = .ok (.ldc 82, 2) := by decide +kernel
theorem dX6_set_11 : decode cX6_set 11 = .ok (.ireturn, 1) := by decide +kernel
theorem dX6_set_12 : decode cX6_set 12 = .ok (.aload_n 0, 1) := by decide +kernel
theorem dX6_set_13 : decode cX6_set 13 = .ok (.getfield 11, 3) := by decide +kernel
theorem dX6_set_16 : decode cX6_set 16 = .ok (.iload_n 1, 1) := by decide +kernel
theorem dX6_set_17 : decode cX6_set 17 = .ok (.aaload, 1) := by decide +kernel
theorem dX6_set_18 : decode cX6_set 18 = .ok (.astore 4, 2) := by decide +kernel
theorem dX6_set_20 : decode cX6_set 20 = .ok (.aload 4, 2) := by decide +kernel
theorem dX6_set_22 : decode cX6_set 22 = .ok (.iload_n 2, 1) := by decide +kernel
theorem dX6_set_23 : decode cX6_set 23 = .ok (.iconst 1, 1) := by decide +kernel
theorem dX6_set_24 : decode cX6_set 24 = .ok (.invokevirtual 94, 3) := by decide +kernel
theorem dX6_set_27 : decode cX6_set 27 = .ok (.istore 5, 2) := by decide +kernel
theorem dX6_set_29 : decode cX6_set 29 = .ok (.iload 5, 2) := by decide +kernel
theorem dX6_set_31 : decode cX6_set 31 = .ok (.ifCond .eq 10, 3) := by decide +kernel
theorem dX6_set_34 : decode cX6_set 34 = .ok (.aload_n 0, 1) := by decide +kernel
theorem dX6_set_35 : decode cX6_set 35 = .ok (.iload 5, 2) := by decide +kernel
theorem dX6_set_37 : decode cX6_set 37 = .ok (.invokevirtual 83, 3) := by decide +kernel
theorem dX6_set_40 : decode cX6_set 40 = .ok (.ireturn, 1) := by decide +kernel
theorem dX6_set_41 : decode cX6_set 41 = .ok (.aload 4, 2) := by decide +kernel
theorem dX6_set_43 : decode cX6_set 43 = .ok (.getfield 98, 3) := by decide +kernel
theorem dX6_set_46 : decode cX6_set 46 = .ok (.iload_n 2, 1) := by decide +kernel
theorem dX6_set_47 : decode cX6_set 47 = .ok (.aload 4, 2) := by decide +kernel
theorem dX6_set_49 : decode cX6_set 49 = .ok (.iload_n 3, 1) := by decide +kernel
theorem dX6_set_50 : decode cX6_set 50 = .ok (.invokevirtual 102, 3) := by decide +kernel
theorem dX6_set_53 : decode cX6_set 53 = .ok (.iastore, 1) := by decide +kernel
theorem dX6_set_54 : decode cX6_set 54 = .ok (.aload_n 0, 1) := by decide +kernel
theorem dX6_set_55 : decode cX6_set 55 = .ok (.aload 4, 2) := by decide +kernel
theorem dX6_set_57 : decode cX6_set 57 = .ok (.getfield 98, 3) := by decide +kernel
theorem dX6_set_60 : decode cX6_set 60 = .ok (.iload_n 2, 1) := by decide +kernel
theorem dX6_set_61 : decode cX6_set 61 = .ok (.iaload, 1) := by decide +kernel
theorem dX6_set_62 : decode cX6_set 62 = .ok (.invokevirtual 91, 3) := by decide +kernel
theorem dX6_set_65 : decode cX6_set 65 = .ok (.ireturn, 1) := by decide +kernel
theorem dX6_copy_0 : decode cX6_copy 0 = .ok (.iload_n 1, 1) := by decide +kernel
theorem dX6_copy_1 : decode cX6_copy 1 = .ok (.bipush 8, 2) := by decide +kernel
theorem dX6_copy_3 : decode cX6_copy 3 = .ok (.invokestatic 78, 3) := by decide +kernel
theorem dX6_copy_6 : decode cX6_copy 6 = .ok (.ifCond .eq 12, 3) := by decide +kernel
theorem dX6_copy_9 : decode cX6_copy 9 = .ok (.iload_n 3, 1) := by decide +kernel
theorem dX6_copy_10 : decode cX6_copy 10 = .ok (.bipush 8, 2) := by decide +kernel
theorem dX6_copy_12 : decode cX6_copy 12 = .ok (.invokestatic 78, 3) := by decide +kernel
theorem dX6_copy_15 : decode cX6_copy 15 = .ok (.ifCond .ne 6, 3) := by decide +kernel
theorem dX6_copy_18 : decode cX6_copy 18 = .ok (.ldc 82, 2) := by decide +kernel
theorem dX6_copy_20 : decode cX6_copy 20 = .ok (.ireturn, 1) := by decide +kernel
theorem dX6_copy_21 : decode cX6_copy 21 = .ok (.aload_n 0, 1) := by decide +kernel
theorem dX6_copy_22 : decode cX6_copy 22 = .ok (.getfield 11, 3) := by decide +kernel
theorem dX6_copy_25 : decode cX6_copy 25 = .ok (.iload_n 1, 1) := by decide +kernel
theorem dX6_copy_26 : decode cX6_copy 26 = .ok (.aaload, 1) := by decide +kernel
theorem dX6_copy_27 : decode cX6_copy 27 = .ok (.astore 6, 2) := by decide +kernel
theorem dX6_copy_29 : decode cX6_copy 29 = .ok (.aload_n 0, 1) := by decide +kernel
theorem dX6_copy_30 : decode cX6_copy 30 = .ok (.getfield 11, 3) := by decide +kernel
theorem dX6_copy_33 : decode cX6_copy 33 = .ok (.iload_n 3, 1) := by decide +kernel
theorem dX6_copy_34 : decode cX6_copy 34 = .ok (.aaload, 1) := by decide +kernel
theorem dX6_copy_35 : decode cX6_copy 35 = .ok (.astore 7, 2) := by decide +kernel
theorem dX6_copy_37 : decode cX6_copy 37 = .ok (.aload 6, 2) := by decide +kernel
theorem dX6_copy_39 : decode cX6_copy 39 = .ok (.invokevirtual 105, 3) := by decide +kernel
theorem dX6_copy_42 : decode cX6_copy 42 = .ok (.ifCond .ne 11, 3) := by decide +kernel
theorem dX6_copy_45 : decode cX6_copy 45 = .ok (.aload 7, 2) := by decide +kernel
theorem dX6_copy_47 : decode cX6_copy 47 = .ok (.invokevirtual 105, 3) := by decide +kernel
theorem dX6_copy_50 : decode cX6_copy 50 = .ok (.ifCond .eq 9, 3) := by decide +kernel
theorem dX6_copy_53 : decode cX6_copy 53 = .ok (.aload_n 0, 1) := by decide +kernel
theorem dX6_copy_54 : decode cX6_copy 54 = .ok (.iconst 1, 1) := by decide +kernel
theorem dX6_copy_55 : decode cX6_copy 55 = .ok (.invokevirtual 83, 3) := by decide +kernel
theorem dX6_copy_58 : decode cX6_copy 58 = .ok (.ireturn, 1) := by decide +kernel
theorem dX6_copy_59 : decode cX6_copy 59 = .ok (.aload 6, 2) := by decide +kernel
theorem dX6_copy_61 : decode cX6_copy 61 = .ok (.getfield 109, 3) := by decide +kernel
theorem dX6_copy_64 : decode cX6_copy 64 = .ok (.aload 7, 2) := by decide +kernel
theorem dX6_copy_66 : decode cX6_copy 66 = .ok (.getfield 109, 3) := by decide +kernel
theorem dX6_copy_69 : decode cX6_copy 69 = .ok (.if_icmp .eq 9, 3) := by decide +kernel
theorem dX6_copy_72 : decode cX6_copy 72 = .ok (.aload_n 0, 1) := by decide +kernel
theorem dX6_copy_73 : decode cX6_copy 73 = .ok (.iconst 5, 1) := by decide +kernel
theorem dX6_copy_74 : decode cX6_copy 74 = .ok (.invokevirtual 83, 3) := by decide +kernel
theorem dX6_copy_77 : decode cX6_copy 77 = .ok (.ireturn, 1) := by decide +kernel
theorem dX6_copy_78 : decode cX6_copy 78 = .ok (.aload 6, 2) := by decide +kernel
theorem dX6_copy_80 : decode cX6_copy 80 = .ok (.iload_n 2, 1) := by decide +kernel
theorem dX6_copy_81 : decode cX6_copy 81 = .ok (.iload 5, 2) := by decide +kernel
theorem dX6_copy_83 : decode cX6_copy 83 = .ok (.invokevirtual 112, 3) := by decide +kernel
theorem dX6_copy_86 : decode cX6_copy 86 = .ok (.ifCond .eq 15, 3) := by decide +kernel
theorem dX6_copy_89 : decode cX6_copy 89 = .ok (.aload 7, 2) := by decide +kernel
theorem dX6_copy_91 : decode cX6_copy 91 = .ok (.iload 4, 2) := by decide +kernel
theorem dX6_copy_93 : decode cX6_copy 93 = .ok (.iload 5, 2) := by decide +kernel
theorem dX6_copy_95 : decode cX6_copy 95 = .ok (.invokevirtual 112, 3) := by decide +kernel
theorem dX6_copy_98 : decode cX6_copy 98 = .ok (.ifCond .ne 9, 3) := by decide +kernel
theorem dX6_copy_101 : decode cX6_copy 101 = .ok (.aload_n 0, 1) := by decide +kernel
theorem dX6_copy_102 : decode cX6_copy 102 = .ok (.iconst 2, 1) := by decide +kernel
theorem dX6_copy_103 : decode cX6_copy 103 = .ok (.invokevirtual 83, 3) := by decide +kernel
theorem dX6_copy_106 : decode cX6_copy 106 = .ok (.ireturn, 1) := by decide +kernel
theorem dX6_copy_107 : decode cX6_copy 107 = .ok (.aload 6, 2) := by decide +kernel
theorem dX6_copy_109 : decode cX6_copy 109 = .ok (.getfield 98, 3) := by decide +kernel
theorem dX6_copy_112 : decode cX6_copy 112 = .ok (.iload_n 2, 1) := by decide +kernel
theorem dX6_copy_113 : decode cX6_copy 113 = .ok (.aload 7, 2) := by decide +kernel
theorem dX6_copy_115 : decode cX6_copy 115 = .ok (.getfield 98, 3) := by decide +kernel
theorem dX6_copy_118 : decode cX6_copy 118 = .ok (.iload 4, 2) := by decide +kernel
theorem dX6_copy_120 : decode cX6_copy 120 = .ok (.iload 5, 2) := by decide +kernel
theorem dX6_copy_122 : decode cX6_copy 122 = .ok (.invokestatic 115, 3) := by decide +kernel
theorem dX6_copy_125 : decode cX6_copy 125 = .ok (.aload_n 0, 1) := by decide +kernel
theorem dX6_copy_126 : decode cX6_copy 126 = .ok (.iload 5, 2) := by decide +kernel
theorem dX6_copy_128 : decode cX6_copy 128 = .ok (.invokevirtual 91, 3) := by decide +kernel
theorem dX6_copy_131 : decode cX6_copy 131 = .ok (.ireturn, 1) := by decide +kernel
theorem dX6_drop_0 : decode cX6_drop 0 = .ok (.iload_n 1, 1) := by decide +kernel
theorem dX6_drop_1 : decode cX6_drop 1 = .ok (.bipush 8, 2) := by decide +kernel
theorem dX6_drop_3 : decode cX6_drop 3 = .ok (.invokestatic 78, 3) := by decide +kernel
theorem dX6_drop_6 : decode cX6_drop 6 = .ok (.ifCond .ne 6, 3) := by decide +kernel
theorem dX6_drop_9 : decode cX6_drop 9 = .ok (.ldc 82, 2) := by decide +kernel
theorem dX6_drop_11 : decode cX6_drop 11 = .ok (.ireturn, 1) := by decide +kernel
theorem dX6_drop_12 : decode cX6_drop 12 = .ok (.aload_n 0, 1) := by decide +kernel
theorem dX6_drop_13 : decode cX6_drop 13 = .ok (.getfield 11, 3) := by decide +kernel
theorem dX6_drop_16 : decode cX6_drop 16 = .ok (.iload_n 1, 1) := by decide +kernel
theorem dX6_drop_17 : decode cX6_drop 17 = .ok (.aaload, 1) := by decide +kernel
theorem dX6_drop_18 : decode cX6_drop 18 = .ok (.astore_n 2, 1) := by decide +kernel
theorem dX6_drop_19 : decode cX6_drop 19 = .ok (.aload_n 2, 1) := by decide +kernel
theorem dX6_drop_20 : decode cX6_drop 20 = .ok (.invokevirtual 105, 3) := by decide +kernel
theorem dX6_drop_23 : decode cX6_drop 23 = .ok (.ifCond .eq 9, 3) := by decide +kernel
theorem dX6_drop_26 : decode cX6_drop 26 = .ok (.aload_n 0, 1) := by decide +kernel
theorem dX6_drop_27 : decode cX6_drop 27 = .ok (.iconst 1, 1) := by decide +kernel
theorem dX6_drop_28 : decode cX6_drop 28 = .ok (.invokevirtual 83, 3) := by decide +kernel
theorem dX6_drop_31 : decode cX6_drop 31 = .ok (.ireturn, 1) := by decide +kernel
theorem dX6_drop_32 : decode cX6_drop 32 = .ok (.aload_n 2, 1) := by decide +kernel
theorem dX6_drop_33 : decode cX6_drop 33 = .ok (.getfield 121, 3) := by decide +kernel
theorem dX6_drop_36 : decode cX6_drop 36 = .ok (.istore_n 3, 1) := by decide +kernel
theorem dX6_drop_37 : decode cX6_drop 37 = .ok (.aload_n 2, 1) := by decide +kernel
theorem dX6_drop_38 : decode cX6_drop 38 = .ok (.invokevirtual 124, 3) := by decide +kernel
theorem dX6_drop_41 : decode cX6_drop 41 = .ok (.aload_n 0, 1) := by decide +kernel
theorem dX6_drop_42 : decode cX6_drop 42 = .ok (.iload_n 3, 1) := by decide +kernel
theorem dX6_drop_43 : decode cX6_drop 43 = .ok (.invokevirtual 91, 3) := by decide +kernel
theorem dX6_drop_46 : decode cX6_drop 46 = .ok (.ireturn, 1) := by decide +kernel
theorem dX6_feed_0 : decode cX6_feed 0 = .ok (.iload_n 1, 1) := by decide +kernel
theorem dX6_feed_1 : decode cX6_feed 1 = .ok (.ifCond .lt 10, 3) := by decide +kernel
theorem dX6_feed_4 : decode cX6_feed 4 = .ok (.iload_n 1, 1) := by decide +kernel
theorem dX6_feed_5 : decode cX6_feed 5 = .ok (.sipush 255, 3) := by decide +kernel
theorem dX6_feed_8 : decode cX6_feed 8 = .ok (.if_icmp .le 6, 3) := by decide +kernel
theorem dX6_feed_11 : decode cX6_feed 11 = .ok (.ldc 82, 2) := by decide +kernel
theorem dX6_feed_13 : decode cX6_feed 13 = .ok (.ireturn, 1) := by decide +kernel
theorem dX6_feed_14 : decode cX6_feed 14 = .ok (.aload_n 0, 1) := by decide +kernel
theorem dX6_feed_15 : decode cX6_feed 15 = .ok (.getfield 18, 3) := by decide +kernel
theorem dX6_feed_18 : decode cX6_feed 18 = .ok (.iload_n 1, 1) := by decide +kernel
theorem dX6_feed_19 : decode cX6_feed 19 = .ok (.invokevirtual 127, 3) := by decide +kernel
theorem dX6_feed_22 : decode cX6_feed 22 = .ok (.ifCond .eq 13, 3) := by decide +kernel
theorem dX6_feed_25 : decode cX6_feed 25 = .ok (.aload_n 0, 1) := by decide +kernel
theorem dX6_feed_26 : decode cX6_feed 26 = .ok (.getfield 18, 3) := by decide +kernel
theorem dX6_feed_29 : decode cX6_feed 29 = .ok (.getfield 131, 3) := by decide +kernel
theorem dX6_feed_32 : decode cX6_feed 32 = .ok (.goto 5, 3) := by decide +kernel
theorem dX6_feed_35 : decode cX6_feed 35 = .ok (.ldc 134, 2) := by decide +kernel
theorem dX6_feed_37 : decode cX6_feed 37 = .ok (.ireturn, 1) := by decide +kernel
theorem dX6_castle_0 : decode cX6_castle 0 = .ok (.aload_n 0, 1) := by decide +kernel
theorem dX6_castle_1 : decode cX6_castle 1 = .ok (.getfield 18, 3) := by decide +kernel
theorem dX6_castle_4 : decode cX6_castle 4 = .ok (.invokevirtual 135, 3) := by decide +kernel
theorem dX6_castle_7 : decode cX6_castle 7 = .ok (.aload_n 0, 1) := by decide +kernel
theorem dX6_castle_8 : decode cX6_castle 8 = .ok (.getfield 18, 3) := by decide +kernel
theorem dX6_castle_11 : decode cX6_castle 11 = .ok (.iconst 0, 1) := by decide +kernel
theorem dX6_castle_12 : decode cX6_castle 12 = .ok (.putfield 131, 3) := by decide +kernel
theorem dX6_castle_15 : decode cX6_castle 15 = .ok (.aload_n 0, 1) := by decide +kernel
theorem dX6_castle_16 : decode cX6_castle 16 = .ok (.getfield 18, 3) := by decide +kernel
theorem dX6_castle_19 : decode cX6_castle 19 = .ok (.getfield 138, 3) := by decide +kernel
theorem dX6_castle_22 : decode cX6_castle 22 = .ok (.ifCond .eq 25, 3) := by decide +kernel
theorem dX6_castle_25 : decode cX6_castle 25 = .ok (.aload_n 0, 1) := by decide +kernel
theorem dX6_castle_26 : decode cX6_castle 26 = .ok (.aload_n 0, 1) := by decide +kernel
theorem dX6_castle_27 : decode cX6_castle 27 = .ok (.getfield 18, 3) := by decide +kernel
theorem dX6_castle_30 : decode cX6_castle 30 = .ok (.getfield 138, 3) := by decide +kernel
theorem dX6_castle_33 : decode cX6_castle 33 = .ok (.putfield 22, 3) := by decide +kernel
theorem dX6_castle_36 : decode cX6_castle 36 = .ok (.ldc 141, 2) := by decide +kernel
theorem dX6_castle_38 : decode cX6_castle 38 = .ok (.aload_n 0, 1) := by decide +kernel
theorem dX6_castle_39 : decode cX6_castle 39 = .ok (.getfield 18, 3) := by decide +kernel
theorem dX6_castle_42 : decode cX6_castle 42 = .ok (.getfield 142, 3) := by decide +kernel
theorem dX6_castle_45 : decode cX6_castle 45 = .ok (.isub, 1) := by decide +kernel
theorem dX6_castle_46 : decode cX6_castle 46 = .ok (.ireturn, 1) := by decide +kernel
theorem dX6_castle_47 : decode cX6_castle 47 = .ok (.aload_n 0, 1) := by decide +kernel
theorem dX6_castle_48 : decode cX6_castle 48 = .ok (.getfield 32, 3) := by decide +kernel
theorem dX6_castle_51 : decode cX6_castle 51 = .ok (.aload_n 0, 1) := by decide +kernel
theorem dX6_castle_52 : decode cX6_castle 52 = .ok (.getfield 18, 3) := by decide +kernel
theorem dX6_castle_55 : decode cX6_castle 55 = .ok (.getfield 145, 3) := by decide +kernel
theorem dX6_castle_58 : decode cX6_castle 58 = .ok (.invokevirtual 146, 3) := by decide +kernel
theorem dX6_castle_61 : decode cX6_castle 61 = .ok (.aload_n 0, 1) := by decide +kernel
theorem dX6_castle_62 : decode cX6_castle 62 = .ok (.getfield 39, 3) := by decide +kernel
theorem dX6_castle_65 : decode cX6_castle 65 = .ok (.aload_n 0, 1) := by decide +kernel
theorem dX6_castle_66 : decode cX6_castle 66 = .ok (.getfield 32, 3) := by decide +kernel
theorem dX6_castle_69 : decode cX6_castle 69 = .ok (.invokevirtual 150, 3) := by decide +kernel
theorem dX6_castle_72 : decode cX6_castle 72 = .ok (.aload_n 0, 1) := by decide +kernel
theorem dX6_castle_73 : decode cX6_castle 73 = .ok (.iconst 0, 1) := by decide +kernel
theorem dX6_castle_74 : decode cX6_castle 74 = .ok (.putfield 50, 3) := by decide +kernel
theorem dX6_castle_77 : decode cX6_castle 77 = .ok (.aload_n 0, 1) := by decide +kernel
theorem dX6_castle_78 : decode cX6_castle 78 = .ok (.getfield 32, 3) := by decide +kernel
theorem dX6_castle_81 : decode cX6_castle 81 = .ok (.getfield 152, 3) := by decide +kernel
theorem dX6_castle_84 : decode cX6_castle 84 = .ok (.ireturn, 1) := by decide +kernel
theorem dX6_fault_0 : decode cX6_fault 0 = .ok (.aload_n 0, 1) := by decide +kernel
theorem dX6_fault_1 : decode cX6_fault 1 = .ok (.getfield 22, 3) := by decide +kernel
theorem dX6_fault_4 : decode cX6_fault 4 = .ok (.ireturn, 1) := by decide +kernel
theorem dX6_undo_0 : decode cX6_undo 0 = .ok (.aload_n 0, 1) := by decide +kernel
theorem dX6_undo_1 : decode cX6_undo 1 = .ok (.getfield 50, 3) := by decide +kernel
theorem dX6_undo_4 : decode cX6_undo 4 = .ok (.iconst 1, 1) := by decide +kernel
theorem dX6_undo_5 : decode cX6_undo 5 = .ok (.if_icmp .ge 6, 3) := by decide +kernel
theorem dX6_undo_8 : decode cX6_undo 8 = .ok (.ldc 155, 2) := by decide +kernel
theorem dX6_undo_10 : decode cX6_undo 10 = .ok (.ireturn, 1) := by decide +kernel
theorem dX6_undo_11 : decode cX6_undo 11 = .ok (.aload_n 0, 1) := by decide +kernel
theorem dX6_undo_12 : decode cX6_undo 12 = .ok (.aload_n 0, 1) := by decide +kernel
theorem dX6_undo_13 : decode cX6_undo 13 = .ok (.getfield 47, 3) := by decide +kernel
theorem dX6_undo_16 : decode cX6_undo 16 = .ok (.ifCond .ne 8, 3) := by decide +kernel
theorem dX6_undo_19 : decode cX6_undo 19 = .ok (.bipush 23, 2) := by decide +kernel
theorem dX6_undo_21 : decode cX6_undo 21 = .ok (.goto 9, 3) := by decide +kernel
theorem dX6_undo_24 : decode cX6_undo 24 = .ok (.aload_n 0, 1) := by decide +kernel
theorem dX6_undo_25 : decode cX6_undo 25 = .ok (.getfield 47, 3) := by decide +kernel
theorem dX6_undo_28 : decode cX6_undo 28 = .ok (.iconst 1, 1) := by decide +kernel
theorem dX6_undo_29 : decode cX6_undo 29 = .ok (.isub, 1) := by decide +kernel
theorem dX6_undo_30 : decode cX6_undo 30 = .ok (.putfield 47, 3) := by decide +kernel
theorem dX6_undo_33 : decode cX6_undo 33 = .ok (.aload_n 0, 1) := by decide +kernel
theorem dX6_undo_34 : decode cX6_undo 34 = .ok (.getfield 39, 3) := by decide +kernel
theorem dX6_undo_37 : decode cX6_undo 37 = .ok (.aload_n 0, 1) := by decide +kernel
theorem dX6_undo_38 : decode cX6_undo 38 = .ok (.getfield 43, 3) := by decide +kernel
theorem dX6_undo_41 : decode cX6_undo 41 = .ok (.aload_n 0, 1) := by decide +kernel
theorem dX6_undo_42 : decode cX6_undo 42 = .ok (.getfield 47, 3) := by decide +kernel
theorem dX6_undo_45 : decode cX6_undo 45 = .ok (.aaload, 1) := by decide +kernel
theorem dX6_undo_46 : decode cX6_undo 46 = .ok (.invokevirtual 156, 3) := by decide +kernel
theorem dX6_undo_49 : decode cX6_undo 49 = .ok (.aload_n 0, 1) := by decide +kernel
theorem dX6_undo_50 : decode cX6_undo 50 = .ok (.dup, 1) := by decide +kernel
theorem dX6_undo_51 : decode cX6_undo 51 = .ok (.getfield 50, 3) := by decide +kernel
theorem dX6_undo_54 : decode cX6_undo 54 = .ok (.iconst 1, 1) := by decide +kernel
theorem dX6_undo_55 : decode cX6_undo 55 = .ok (.isub, 1) := by decide +kernel
theorem dX6_undo_56 : decode cX6_undo 56 = .ok (.putfield 50, 3) := by decide +kernel
theorem dX6_undo_59 : decode cX6_undo 59 = .ok (.aload_n 0, 1) := by decide +kernel
theorem dX6_undo_60 : decode cX6_undo 60 = .ok (.getfield 50, 3) := by decide +kernel
theorem dX6_undo_63 : decode cX6_undo 63 = .ok (.ireturn, 1) := by decide +kernel
theorem dX6_write_0 : decode cX6_write 0 = .ok (.aload_n 0, 1) := by decide +kernel
theorem dX6_write_1 : decode cX6_write 1 = .ok (.getfield 32, 3) := by decide +kernel
theorem dX6_write_4 : decode cX6_write 4 = .ok (.iload_n 1, 1) := by decide +kernel
theorem dX6_write_5 : decode cX6_write 5 = .ok (.invokevirtual 159, 3) := by decide +kernel
theorem dX6_write_8 : decode cX6_write 8 = .ok (.ifCond .eq 21, 3) := by decide +kernel
theorem dX6_write_11 : decode cX6_write 11 = .ok (.iload_n 2, 1) := by decide +kernel
theorem dX6_write_12 : decode cX6_write 12 = .ok (.invokestatic 162, 3) := by decide +kernel
theorem dX6_write_15 : decode cX6_write 15 = .ok (.ifCond .eq 14, 3) := by decide +kernel
theorem dX6_write_18 : decode cX6_write 18 = .ok (.aload_n 0, 1) := by decide +kernel
theorem dX6_write_19 : decode cX6_write 19 = .ok (.getfield 32, 3) := by decide +kernel
theorem dX6_write_22 : decode cX6_write 22 = .ok (.iload_n 3, 1) := by decide +kernel
theorem dX6_write_23 : decode cX6_write 23 = .ok (.invokevirtual 165, 3) := by decide +kernel
theorem dX6_write_26 : decode cX6_write 26 = .ok (.ifCond .ne 6, 3) := by decide +kernel
theorem dX6_write_29 : decode cX6_write 29 = .ok (.ldc 82, 2) := by decide +kernel
theorem dX6_write_31 : decode cX6_write 31 = .ok (.ireturn, 1) := by decide +kernel
theorem dX6_write_32 : decode cX6_write 32 = .ok (.aload_n 0, 1) := by decide +kernel
theorem dX6_write_33 : decode cX6_write 33 = .ok (.getfield 32, 3) := by decide +kernel
theorem dX6_write_36 : decode cX6_write 36 = .ok (.iload_n 1, 1) := by decide +kernel
theorem dX6_write_37 : decode cX6_write 37 = .ok (.iload_n 2, 1) := by decide +kernel
theorem dX6_write_38 : decode cX6_write 38 = .ok (.aload_n 0, 1) := by decide +kernel
theorem dX6_write_39 : decode cX6_write 39 = .ok (.getfield 39, 3) := by decide +kernel
theorem dX6_write_42 : decode cX6_write 42 = .ok (.getfield 168, 3) := by decide +kernel
theorem dX6_write_45 : decode cX6_write 45 = .ok (.invokevirtual 171, 3) := by decide +kernel
theorem dX6_write_48 : decode cX6_write 48 = .ok (.istore 4, 2) := by decide +kernel
theorem dX6_write_50 : decode cX6_write 50 = .ok (.aload_n 0, 1) := by decide +kernel
theorem dX6_write_51 : decode cX6_write 51 = .ok (.getfield 39, 3) := by decide +kernel
theorem dX6_write_54 : decode cX6_write 54 = .ok (.getfield 175, 3) := by decide +kernel
theorem dX6_write_57 : decode cX6_write 57 = .ok (.iload_n 3, 1) := by decide +kernel
theorem dX6_write_58 : decode cX6_write 58 = .ok (.iaload, 1) := by decide +kernel
theorem dX6_write_59 : decode cX6_write 59 = .ok (.iload 4, 2) := by decide +kernel
theorem dX6_write_61 : decode cX6_write 61 = .ok (.if_icmp .ge 6, 3) := by decide +kernel
theorem dX6_write_64 : decode cX6_write 64 = .ok (.ldc 155, 2) := by decide +kernel
theorem dX6_write_66 : decode cX6_write 66 = .ok (.ireturn, 1) := by decide +kernel
theorem dX6_write_67 : decode cX6_write 67 = .ok (.aload_n 0, 1) := by decide +kernel
theorem dX6_write_68 : decode cX6_write 68 = .ok (.invokevirtual 178, 3) := by decide +kernel
theorem dX6_write_71 : decode cX6_write 71 = .ok (.aload_n 0, 1) := by decide +kernel
theorem dX6_write_72 : decode cX6_write 72 = .ok (.getfield 39, 3) := by decide +kernel
theorem dX6_write_75 : decode cX6_write 75 = .ok (.iload_n 3, 1) := by decide +kernel
theorem dX6_write_76 : decode cX6_write 76 = .ok (.iload 4, 2) := by decide +kernel
theorem dX6_write_78 : decode cX6_write 78 = .ok (.invokevirtual 181, 3) := by decide +kernel
theorem dX6_write_81 : decode cX6_write 81 = .ok (.aload_n 0, 1) := by decide +kernel
theorem dX6_write_82 : decode cX6_write 82 = .ok (.getfield 39, 3) := by decide +kernel
theorem dX6_write_85 : decode cX6_write 85 = .ok (.getfield 184, 3) := by decide +kernel
theorem dX6_write_88 : decode cX6_write 88 = .ok (.iload_n 1, 1) := by decide +kernel
theorem dX6_write_89 : decode cX6_write 89 = .ok (.dup2, 1) := by decide +kernel
theorem dX6_write_90 : decode cX6_write 90 = .ok (.iaload, 1) := by decide +kernel
theorem dX6_write_91 : decode cX6_write 91 = .ok (.iload_n 2, 1) := by decide +kernel
theorem dX6_write_92 : decode cX6_write 92 = .ok (.iadd, 1) := by decide +kernel
theorem dX6_write_93 : decode cX6_write 93 = .ok (.iastore, 1) := by decide +kernel
theorem dX6_write_94 : decode cX6_write 94 = .ok (.iload 4, 2) := by decide +kernel
theorem dX6_write_96 : decode cX6_write 96 = .ok (.ireturn, 1) := by decide +kernel
theorem dX6_rub_0 : decode cX6_rub 0 = .ok (.iload_n 1, 1) := by decide +kernel
theorem dX6_rub_1 : decode cX6_rub 1 = .ok (.iconst 1, 1) := by decide +kernel
theorem dX6_rub_2 : decode cX6_rub 2 = .ok (.if_icmp .lt 20, 3) := by decide +kernel
theorem dX6_rub_5 : decode cX6_rub 5 = .ok (.iload_n 1, 1) := by decide +kernel
theorem dX6_rub_6 : decode cX6_rub 6 = .ok (.bipush 60, 2) := by decide +kernel
theorem dX6_rub_8 : decode cX6_rub 8 = .ok (.if_icmp .gt 14, 3) := by decide +kernel
theorem dX6_rub_11 : decode cX6_rub 11 = .ok (.aload_n 0, 1) := by decide +kernel
theorem dX6_rub_12 : decode cX6_rub 12 = .ok (.getfield 32, 3) := by decide +kernel
theorem dX6_rub_15 : decode cX6_rub 15 = .ok (.iload_n 2, 1) := by decide +kernel
theorem dX6_rub_16 : decode cX6_rub 16 = .ok (.invokevirtual 165, 3) := by decide +kernel
theorem dX6_rub_19 : decode cX6_rub 19 = .ok (.ifCond .ne 6, 3) := by decide +kernel
theorem dX6_rub_22 : decode cX6_rub 22 = .ok (.ldc 82, 2) := by decide +kernel
theorem dX6_rub_24 : decode cX6_rub 24 = .ok (.ireturn, 1) := by decide +kernel
theorem dX6_rub_25 : decode cX6_rub 25 = .ok (.aload_n 0, 1) := by decide +kernel
theorem dX6_rub_26 : decode cX6_rub 26 = .ok (.getfield 39, 3) := by decide +kernel
theorem dX6_rub_29 : decode cX6_rub 29 = .ok (.getfield 187, 3) := by decide +kernel
theorem dX6_rub_32 : decode cX6_rub 32 = .ok (.iload_n 1, 1) := by decide +kernel
theorem dX6_rub_33 : decode cX6_rub 33 = .ok (.if_icmp .ge 6, 3) := by decide +kernel
theorem dX6_rub_36 : decode cX6_rub 36 = .ok (.ldc 155, 2) := by decide +kernel
theorem dX6_rub_38 : decode cX6_rub 38 = .ok (.ireturn, 1) := by decide +kernel
theorem dX6_rub_39 : decode cX6_rub 39 = .ok (.aload_n 0, 1) := by decide +kernel
theorem dX6_rub_40 : decode cX6_rub 40 = .ok (.invokevirtual 178, 3) := by decide +kernel
theorem dX6_rub_43 : decode cX6_rub 43 = .ok (.aload_n 0, 1) := by decide +kernel
theorem dX6_rub_44 : decode cX6_rub 44 = .ok (.getfield 39, 3) := by decide +kernel
theorem dX6_rub_47 : decode cX6_rub 47 = .ok (.dup, 1) := by decide +kernel
theorem dX6_rub_48 : decode cX6_rub 48 = .ok (.getfield 187, 3) := by decide +kernel
theorem dX6_rub_51 : decode cX6_rub 51 = .ok (.iload_n 1, 1) := by decide +kernel
theorem dX6_rub_52 : decode cX6_rub 52 = .ok (.isub, 1) := by decide +kernel
theorem dX6_rub_53 : decode cX6_rub 53 = .ok (.putfield 187, 3) := by decide +kernel
theorem dX6_rub_56 : decode cX6_rub 56 = .ok (.aload_n 0, 1) := by decide +kernel
theorem dX6_rub_57 : decode cX6_rub 57 = .ok (.getfield 39, 3) := by decide +kernel
theorem dX6_rub_60 : decode cX6_rub 60 = .ok (.getfield 175, 3) := by decide +kernel
theorem dX6_rub_63 : decode cX6_rub 63 = .ok (.iload_n 2, 1) := by decide +kernel
theorem dX6_rub_64 : decode cX6_rub 64 = .ok (.bipush 30, 2) := by decide +kernel
theorem dX6_rub_66 : decode cX6_rub 66 = .ok (.aload_n 0, 1) := by decide +kernel
theorem dX6_rub_67 : decode cX6_rub 67 = .ok (.getfield 39, 3) := by decide +kernel
theorem dX6_rub_70 : decode cX6_rub 70 = .ok (.getfield 175, 3) := by decide +kernel
theorem dX6_rub_73 : decode cX6_rub 73 = .ok (.iload_n 2, 1) := by decide +kernel
theorem dX6_rub_74 : decode cX6_rub 74 = .ok (.iaload, 1) := by decide +kernel
theorem dX6_rub_75 : decode cX6_rub 75 = .ok (.iload_n 1, 1) := by decide +kernel
theorem dX6_rub_76 : decode cX6_rub 76 = .ok (.aload_n 0, 1) := by decide +kernel
theorem dX6_rub_77 : decode cX6_rub 77 = .ok (.getfield 32, 3) := by decide +kernel
theorem dX6_rub_80 : decode cX6_rub 80 = .ok (.getfield 190, 3) := by decide +kernel
theorem dX6_rub_83 : decode cX6_rub 83 = .ok (.imul, 1) := by decide +kernel
theorem dX6_rub_84 : decode cX6_rub 84 = .ok (.bipush 10, 2) := by decide +kernel
theorem dX6_rub_86 : decode cX6_rub 86 = .ok (.idiv, 1) := by decide +kernel
theorem dX6_rub_87 : decode cX6_rub 87 = .ok (.iadd, 1) := by decide +kernel
theorem dX6_rub_88 : decode cX6_rub 88 = .ok (.invokestatic 193, 3) := by decide +kernel
theorem dX6_rub_91 : decode cX6_rub 91 = .ok (.iastore, 1) := by decide +kernel
theorem dX6_rub_92 : decode cX6_rub 92 = .ok (.aload_n 0, 1) := by decide +kernel
theorem dX6_rub_93 : decode cX6_rub 93 = .ok (.getfield 39, 3) := by decide +kernel
theorem dX6_rub_96 : decode cX6_rub 96 = .ok (.getfield 175, 3) := by decide +kernel
theorem dX6_rub_99 : decode cX6_rub 99 = .ok (.iload_n 2, 1) := by decide +kernel
theorem dX6_rub_100 : decode cX6_rub 100 = .ok (.iaload, 1) := by decide +kernel
theorem dX6_rub_101 : decode cX6_rub 101 = .ok (.ireturn, 1) := by decide +kernel
theorem dX6_rain_0 : decode cX6_rain 0 = .ok (.aload_n 0, 1) := by decide +kernel
theorem dX6_rain_1 : decode cX6_rain 1 = .ok (.invokevirtual 198, 3) := by decide +kernel
theorem dX6_rain_4 : decode cX6_rain 4 = .ok (.ifCond .ne 6, 3) := by decide +kernel
theorem dX6_rain_7 : decode cX6_rain 7 = .ok (.ldc 155, 2) := by decide +kernel
theorem dX6_rain_9 : decode cX6_rain 9 = .ok (.ireturn, 1) := by decide +kernel
theorem dX6_rain_10 : decode cX6_rain 10 = .ok (.aload_n 0, 1) := by decide +kernel
theorem dX6_rain_11 : decode cX6_rain 11 = .ok (.invokevirtual 178, 3) := by decide +kernel
theorem dX6_rain_14 : decode cX6_rain 14 = .ok (.aload_n 0, 1) := by decide +kernel
theorem dX6_rain_15 : decode cX6_rain 15 = .ok (.getfield 32, 3) := by decide +kernel
theorem dX6_rain_18 : decode cX6_rain 18 = .ok (.aload_n 0, 1) := by decide +kernel
theorem dX6_rain_19 : decode cX6_rain 19 = .ok (.getfield 39, 3) := by decide +kernel
theorem dX6_rain_22 : decode cX6_rain 22 = .ok (.invokevirtual 201, 3) := by decide +kernel
theorem dX6_rain_25 : decode cX6_rain 25 = .ok (.aload_n 0, 1) := by decide +kernel
theorem dX6_rain_26 : decode cX6_rain 26 = .ok (.invokevirtual 204, 3) := by decide +kernel
theorem dX6_rain_29 : decode cX6_rain 29 = .ok (.ireturn, 1) := by decide +kernel
theorem dX6_days_0 : decode cX6_days 0 = .ok (.aload_n 0, 1) := by decide +kernel
theorem dX6_days_1 : decode cX6_days 1 = .ok (.invokevirtual 198, 3) := by decide +kernel
theorem dX6_days_4 : decode cX6_days 4 = .ok (.ifCond .ne 6, 3) := by decide +kernel
theorem dX6_days_7 : decode cX6_days 7 = .ok (.ldc 155, 2) := by decide +kernel
theorem dX6_days_9 : decode cX6_days 9 = .ok (.ireturn, 1) := by decide +kernel
theorem dX6_days_10 : decode cX6_days 10 = .ok (.iload_n 1, 1) := by decide +kernel
theorem dX6_days_11 : decode cX6_days 11 = .ok (.iconst 1, 1) := by decide +kernel
theorem dX6_days_12 : decode cX6_days 12 = .ok (.if_icmp .lt 9, 3) := by decide +kernel
theorem dX6_days_15 : decode cX6_days 15 = .ok (.iload_n 1, 1) := by decide +kernel
theorem dX6_days_16 : decode cX6_days 16 = .ok (.bipush 24, 2) := by decide +kernel
theorem dX6_days_18 : decode cX6_days 18 = .ok (.if_icmp .le 6, 3) := by decide +kernel
theorem dX6_days_21 : decode cX6_days 21 = .ok (.ldc 82, 2) := by decide +kernel
theorem dX6_days_23 : decode cX6_days 23 = .ok (.ireturn, 1) := by decide +kernel
theorem dX6_days_24 : decode cX6_days 24 = .ok (.aload_n 0, 1) := by decide +kernel
theorem dX6_days_25 : decode cX6_days 25 = .ok (.getfield 39, 3) := by decide +kernel
theorem dX6_days_28 : decode cX6_days 28 = .ok (.getfield 168, 3) := by decide +kernel
theorem dX6_days_31 : decode cX6_days 31 = .ok (.iload_n 1, 1) := by decide +kernel
theorem dX6_days_32 : decode cX6_days 32 = .ok (.iadd, 1) := by decide +kernel
theorem dX6_days_33 : decode cX6_days 33 = .ok (.sipush 999, 3) := by decide +kernel
theorem dX6_days_36 : decode cX6_days 36 = .ok (.if_icmp .le 6, 3) := by decide +kernel
theorem dX6_days_39 : decode cX6_days 39 = .ok (.ldc 134, 2) := by decide +kernel
theorem dX6_days_41 : decode cX6_days 41 = .ok (.ireturn, 1) := by decide +kernel
theorem dX6_days_42 : decode cX6_days 42 = .ok (.iconst 0, 1) := by decide +kernel
theorem dX6_days_43 : decode cX6_days 43 = .ok (.istore_n 2, 1) := by decide +kernel
theorem dX6_days_44 : decode cX6_days 44 = .ok (.iload_n 2, 1) := by decide +kernel
theorem dX6_days_45 : decode cX6_days 45 = .ok (.iload_n 1, 1) := by decide +kernel
theorem dX6_days_46 : decode cX6_days 46 = .ok (.if_icmp .ge 26, 3) := by decide +kernel
theorem dX6_days_49 : decode cX6_days 49 = .ok (.aload_n 0, 1) := by decide +kernel
theorem dX6_days_50 : decode cX6_days 50 = .ok (.invokevirtual 178, 3) := by decide +kernel
theorem dX6_days_53 : decode cX6_days 53 = .ok (.aload_n 0, 1) := by decide +kernel
theorem dX6_days_54 : decode cX6_days 54 = .ok (.getfield 39, 3) := by decide +kernel
theorem dX6_days_57 : decode cX6_days 57 = .ok (.dup, 1) := by decide +kernel
theorem dX6_days_58 : decode cX6_days 58 = .ok (.getfield 168, 3) := by decide +kernel
theorem dX6_days_61 : decode cX6_days 61 = .ok (.iconst 1, 1) := by decide +kernel
theorem dX6_days_62 : decode cX6_days 62 = .ok (.iadd, 1) := by decide +kernel
theorem dX6_days_63 : decode cX6_days 63 = .ok (.putfield 168, 3) := by decide +kernel
theorem dX6_days_66 : decode cX6_days 66 = .ok (.iinc 2 1, 3) := by decide +kernel
theorem dX6_days_69 : decode cX6_days 69 = .ok (.goto (-25), 3) := by decide +kernel
theorem dX6_days_72 : decode cX6_days 72 = .ok (.aload_n 0, 1) := by decide +kernel
theorem dX6_days_73 : decode cX6_days 73 = .ok (.getfield 39, 3) := by decide +kernel
theorem dX6_days_76 : decode cX6_days 76 = .ok (.getfield 168, 3) := by decide +kernel
theorem dX6_days_79 : decode cX6_days 79 = .ok (.ireturn, 1) := by decide +kernel
theorem dX6_block_0 : decode cX6_block 0 = .ok (.aload_n 0, 1) := by decide +kernel
theorem dX6_block_1 : decode cX6_block 1 = .ok (.getfield 32, 3) := by decide +kernel
theorem dX6_block_4 : decode cX6_block 4 = .ok (.iload_n 1, 1) := by decide +kernel
theorem dX6_block_5 : decode cX6_block 5 = .ok (.invokevirtual 165, 3) := by decide +kernel
theorem dX6_block_8 : decode cX6_block 8 = .ok (.ifCond .ne 6, 3) := by decide +kernel
theorem dX6_block_11 : decode cX6_block 11 = .ok (.ldc 82, 2) := by decide +kernel
theorem dX6_block_13 : decode cX6_block 13 = .ok (.ireturn, 1) := by decide +kernel
theorem dX6_block_14 : decode cX6_block 14 = .ok (.iload_n 2, 1) := by decide +kernel
theorem dX6_block_15 : decode cX6_block 15 = .ok (.tableswitch 67 0 3 #[29, 39, 48, 58], 29) := by decide +kernel
theorem dX6_block_44 : decode cX6_block 44 = .ok (.aload_n 0, 1) := by decide +kernel
theorem dX6_block_45 : decode cX6_block 45 = .ok (.getfield 39, 3) := by decide +kernel
theorem dX6_block_48 : decode cX6_block 48 = .ok (.getfield 175, 3) := by decide +kernel
theorem dX6_block_51 : decode cX6_block 51 = .ok (.iload_n 1, 1) := by decide +kernel
theorem dX6_block_52 : decode cX6_block 52 = .ok (.iaload, 1) := by decide +kernel
theorem dX6_block_53 : decode cX6_block 53 = .ok (.ireturn, 1) := by decide +kernel
theorem dX6_block_54 : decode cX6_block 54 = .ok (.aload_n 0, 1) := by decide +kernel
theorem dX6_block_55 : decode cX6_block 55 = .ok (.invokevirtual 204, 3) := by decide +kernel
theorem dX6_block_58 : decode cX6_block 58 = .ok (.iload_n 1, 1) := by decide +kernel
theorem dX6_block_59 : decode cX6_block 59 = .ok (.ishr, 1) := by decide +kernel
theorem dX6_block_60 : decode cX6_block 60 = .ok (.iconst 1, 1) := by decide +kernel
theorem dX6_block_61 : decode cX6_block 61 = .ok (.iand, 1) := by decide +kernel
theorem dX6_block_62 : decode cX6_block 62 = .ok (.ireturn, 1) := by decide +kernel
theorem dX6_block_63 : decode cX6_block 63 = .ok (.aload_n 0, 1) := by decide +kernel
theorem dX6_block_64 : decode cX6_block 64 = .ok (.getfield 32, 3) := by decide +kernel
theorem dX6_block_67 : decode cX6_block 67 = .ok (.getfield 208, 3) := by decide +kernel
theorem dX6_block_70 : decode cX6_block 70 = .ok (.iload_n 1, 1) := by decide +kernel
theorem dX6_block_71 : decode cX6_block 71 = .ok (.iaload, 1) := by decide +kernel
theorem dX6_block_72 : decode cX6_block 72 = .ok (.ireturn, 1) := by decide +kernel
theorem dX6_block_73 : decode cX6_block 73 = .ok (.aload_n 0, 1) := by decide +kernel
theorem dX6_block_74 : decode cX6_block 74 = .ok (.getfield 32, 3) := by decide +kernel
theorem dX6_block_77 : decode cX6_block 77 = .ok (.iload_n 1, 1) := by decide +kernel
theorem dX6_block_78 : decode cX6_block 78 = .ok (.invokevirtual 211, 3) := by decide +kernel
theorem dX6_block_81 : decode cX6_block 81 = .ok (.ireturn, 1) := by decide +kernel
theorem dX6_block_82 : decode cX6_block 82 = .ok (.ldc 82, 2) := by decide +kernel
theorem dX6_block_84 : decode cX6_block 84 = .ok (.ireturn, 1) := by decide +kernel
theorem dX6_clerk_0 : decode cX6_clerk 0 = .ok (.aload_n 0, 1) := by decide +kernel
theorem dX6_clerk_1 : decode cX6_clerk 1 = .ok (.getfield 32, 3) := by decide +kernel
theorem dX6_clerk_4 : decode cX6_clerk 4 = .ok (.iload_n 1, 1) := by decide +kernel
theorem dX6_clerk_5 : decode cX6_clerk 5 = .ok (.invokevirtual 159, 3) := by decide +kernel
theorem dX6_clerk_8 : decode cX6_clerk 8 = .ok (.ifCond .ne 6, 3) := by decide +kernel
theorem dX6_clerk_11 : decode cX6_clerk 11 = .ok (.ldc 82, 2) := by decide +kernel
theorem dX6_clerk_13 : decode cX6_clerk 13 = .ok (.ireturn, 1) := by decide +kernel
theorem dX6_clerk_14 : decode cX6_clerk 14 = .ok (.iload_n 2, 1) := by decide +kernel
theorem dX6_clerk_15 : decode cX6_clerk 15 = .ok (.lookupswitch 45 #[(0, 25), (1, 35)], 25) := by decide +kernel
theorem dX6_clerk_40 : decode cX6_clerk 40 = .ok (.aload_n 0, 1) := by decide +kernel
theorem dX6_clerk_41 : decode cX6_clerk 41 = .ok (.getfield 32, 3) := by decide +kernel
theorem dX6_clerk_44 : decode cX6_clerk 44 = .ok (.getfield 214, 3) := by decide +kernel
theorem dX6_clerk_47 : decode cX6_clerk 47 = .ok (.iload_n 1, 1) := by decide +kernel
theorem dX6_clerk_48 : decode cX6_clerk 48 = .ok (.iaload, 1) := by decide +kernel
theorem dX6_clerk_49 : decode cX6_clerk 49 = .ok (.ireturn, 1) := by decide +kernel
theorem dX6_clerk_50 : decode cX6_clerk 50 = .ok (.aload_n 0, 1) := by decide +kernel
theorem dX6_clerk_51 : decode cX6_clerk 51 = .ok (.getfield 39, 3) := by decide +kernel
theorem dX6_clerk_54 : decode cX6_clerk 54 = .ok (.getfield 184, 3) := by decide +kernel
theorem dX6_clerk_57 : decode cX6_clerk 57 = .ok (.iload_n 1, 1) := by decide +kernel
theorem dX6_clerk_58 : decode cX6_clerk 58 = .ok (.iaload, 1) := by decide +kernel
theorem dX6_clerk_59 : decode cX6_clerk 59 = .ok (.ireturn, 1) := by decide +kernel
theorem dX6_clerk_60 : decode cX6_clerk 60 = .ok (.ldc 82, 2) := by decide +kernel
theorem dX6_clerk_62 : decode cX6_clerk 62 = .ok (.ireturn, 1) := by decide +kernel
theorem dX6_takes_0 : decode cX6_takes 0 = .ok (.aload_n 0, 1) := by decide +kernel
theorem dX6_takes_1 : decode cX6_takes 1 = .ok (.getfield 32, 3) := by decide +kernel
theorem dX6_takes_4 : decode cX6_takes 4 = .ok (.iload_n 1, 1) := by decide +kernel
theorem dX6_takes_5 : decode cX6_takes 5 = .ok (.invokevirtual 159, 3) := by decide +kernel
theorem dX6_takes_8 : decode cX6_takes 8 = .ok (.ifCond .eq 10, 3) := by decide +kernel
theorem dX6_takes_11 : decode cX6_takes 11 = .ok (.iload_n 2, 1) := by decide +kernel
theorem dX6_takes_12 : decode cX6_takes 12 = .ok (.invokestatic 162, 3) := by decide +kernel
theorem dX6_takes_15 : decode cX6_takes 15 = .ok (.ifCond .ne 6, 3) := by decide +kernel
theorem dX6_takes_18 : decode cX6_takes 18 = .ok (.ldc 82, 2) := by decide +kernel
theorem dX6_takes_20 : decode cX6_takes 20 = .ok (.ireturn, 1) := by decide +kernel
theorem dX6_takes_21 : decode cX6_takes 21 = .ok (.aload_n 0, 1) := by decide +kernel
theorem dX6_takes_22 : decode cX6_takes 22 = .ok (.getfield 32, 3) := by decide +kernel
theorem dX6_takes_25 : decode cX6_takes 25 = .ok (.iload_n 1, 1) := by decide +kernel
theorem dX6_takes_26 : decode cX6_takes 26 = .ok (.iload_n 2, 1) := by decide +kernel
theorem dX6_takes_27 : decode cX6_takes 27 = .ok (.aload_n 0, 1) := by decide +kernel
theorem dX6_takes_28 : decode cX6_takes 28 = .ok (.getfield 39, 3) := by decide +kernel
theorem dX6_takes_31 : decode cX6_takes 31 = .ok (.getfield 168, 3) := by decide +kernel
theorem dX6_takes_34 : decode cX6_takes 34 = .ok (.invokevirtual 171, 3) := by decide +kernel
theorem dX6_takes_37 : decode cX6_takes 37 = .ok (.ireturn, 1) := by decide +kernel
theorem dX6_stand_0 : decode cX6_stand 0 = .ok (.aload_n 0, 1) := by decide +kernel
theorem dX6_stand_1 : decode cX6_stand 1 = .ok (.invokevirtual 198, 3) := by decide +kernel
theorem dX6_stand_4 : decode cX6_stand 4 = .ok (.ifCond .ne 6, 3) := by decide +kernel
theorem dX6_stand_7 : decode cX6_stand 7 = .ok (.ldc 155, 2) := by decide +kernel
theorem dX6_stand_9 : decode cX6_stand 9 = .ok (.ireturn, 1) := by decide +kernel
theorem dX6_stand_10 : decode cX6_stand 10 = .ok (.iload_n 1, 1) := by decide +kernel
theorem dX6_stand_11 : decode cX6_stand 11 = .ok (.tableswitch 77 0 4 #[33, 38, 53, 61, 69], 33) := by decide +kernel
theorem dX6_stand_44 : decode cX6_stand 44 = .ok (.aload_n 0, 1) := by decide +kernel
theorem dX6_stand_45 : decode cX6_stand 45 = .ok (.invokevirtual 204, 3) := by decide +kernel
theorem dX6_stand_48 : decode cX6_stand 48 = .ok (.ireturn, 1) := by decide +kernel
theorem dX6_stand_49 : decode cX6_stand 49 = .ok (.aload_n 0, 1) := by decide +kernel
theorem dX6_stand_50 : decode cX6_stand 50 = .ok (.getfield 39, 3) := by decide +kernel
theorem dX6_stand_53 : decode cX6_stand 53 = .ok (.invokevirtual 217, 3) := by decide +kernel
theorem dX6_stand_56 : decode cX6_stand 56 = .ok (.aload_n 0, 1) := by decide +kernel
theorem dX6_stand_57 : decode cX6_stand 57 = .ok (.invokevirtual 204, 3) := by decide +kernel
theorem dX6_stand_60 : decode cX6_stand 60 = .ok (.iconst (-1), 1) := by decide +kernel
theorem dX6_stand_61 : decode cX6_stand 61 = .ok (.ixor, 1) := by decide +kernel
theorem dX6_stand_62 : decode cX6_stand 62 = .ok (.iand, 1) := by decide +kernel
theorem dX6_stand_63 : decode cX6_stand 63 = .ok (.ireturn, 1) := by decide +kernel
theorem dX6_stand_64 : decode cX6_stand 64 = .ok (.aload_n 0, 1) := by decide +kernel
theorem dX6_stand_65 : decode cX6_stand 65 = .ok (.getfield 39, 3) := by decide +kernel
theorem dX6_stand_68 : decode cX6_stand 68 = .ok (.invokevirtual 220, 3) := by decide +kernel
theorem dX6_stand_71 : decode cX6_stand 71 = .ok (.ireturn, 1) := by decide +kernel
theorem dX6_stand_72 : decode cX6_stand 72 = .ok (.aload_n 0, 1) := by decide +kernel
theorem dX6_stand_73 : decode cX6_stand 73 = .ok (.getfield 39, 3) := by decide +kernel
theorem dX6_stand_76 : decode cX6_stand 76 = .ok (.getfield 187, 3) := by decide +kernel
theorem dX6_stand_79 : decode cX6_stand 79 = .ok (.ireturn, 1) := by decide +kernel
theorem dX6_stand_80 : decode cX6_stand 80 = .ok (.aload_n 0, 1) := by decide +kernel
theorem dX6_stand_81 : decode cX6_stand 81 = .ok (.getfield 39, 3) := by decide +kernel
theorem dX6_stand_84 : decode cX6_stand 84 = .ok (.invokevirtual 223, 3) := by decide +kernel
theorem dX6_stand_87 : decode cX6_stand 87 = .ok (.ireturn, 1) := by decide +kernel
theorem dX6_stand_88 : decode cX6_stand 88 = .ok (.ldc 82, 2) := by decide +kernel
theorem dX6_stand_90 : decode cX6_stand 90 = .ok (.ireturn, 1) := by decide +kernel
theorem dX6_wouldFall_0 : decode cX6_wouldFall 0 = .ok (.aload_n 0, 1) := by decide +kernel
theorem dX6_wouldFall_1 : decode cX6_wouldFall 1 = .ok (.invokevirtual 198, 3) := by decide +kernel
theorem dX6_wouldFall_4 : decode cX6_wouldFall 4 = .ok (.ifCond .ne 6, 3) := by decide +kernel
theorem dX6_wouldFall_7 : decode cX6_wouldFall 7 = .ok (.ldc 155, 2) := by decide +kernel
theorem dX6_wouldFall_9 : decode cX6_wouldFall 9 = .ok (.ireturn, 1) := by decide +kernel
theorem dX6_wouldFall_10 : decode cX6_wouldFall 10 = .ok (.aload_n 0, 1) := by decide +kernel
theorem dX6_wouldFall_11 : decode cX6_wouldFall 11 = .ok (.getfield 32, 3) := by decide +kernel
theorem dX6_wouldFall_14 : decode cX6_wouldFall 14 = .ok (.iload_n 1, 1) := by decide +kernel
theorem dX6_wouldFall_15 : decode cX6_wouldFall 15 = .ok (.invokevirtual 226, 3) := by decide +kernel
theorem dX6_wouldFall_18 : decode cX6_wouldFall 18 = .ok (.ifCond .ne 6, 3) := by decide +kernel
theorem dX6_wouldFall_21 : decode cX6_wouldFall 21 = .ok (.ldc 82, 2) := by decide +kernel
theorem dX6_wouldFall_23 : decode cX6_wouldFall 23 = .ok (.ireturn, 1) := by decide +kernel
theorem dX6_wouldFall_24 : decode cX6_wouldFall 24 = .ok (.aload_n 0, 1) := by decide +kernel
theorem dX6_wouldFall_25 : decode cX6_wouldFall 25 = .ok (.iload_n 1, 1) := by decide +kernel
theorem dX6_wouldFall_26 : decode cX6_wouldFall 26 = .ok (.invokevirtual 229, 3) := by decide +kernel
theorem dX6_wouldFall_29 : decode cX6_wouldFall 29 = .ok (.ireturn, 1) := by decide +kernel
theorem dX6_left_0 : decode cX6_left 0 = .ok (.aload_n 0, 1) := by decide +kernel
theorem dX6_left_1 : decode cX6_left 1 = .ok (.getfield 32, 3) := by decide +kernel
theorem dX6_left_4 : decode cX6_left 4 = .ok (.iload_n 1, 1) := by decide +kernel
theorem dX6_left_5 : decode cX6_left 5 = .ok (.invokevirtual 159, 3) := by decide +kernel
theorem dX6_left_8 : decode cX6_left 8 = .ok (.ifCond .ne 6, 3) := by decide +kernel
theorem dX6_left_11 : decode cX6_left 11 = .ok (.ldc 82, 2) := by decide +kernel
theorem dX6_left_13 : decode cX6_left 13 = .ok (.ireturn, 1) := by decide +kernel
theorem dX6_left_14 : decode cX6_left 14 = .ok (.aload_n 0, 1) := by decide +kernel
theorem dX6_left_15 : decode cX6_left 15 = .ok (.getfield 32, 3) := by decide +kernel
theorem dX6_left_18 : decode cX6_left 18 = .ok (.iload_n 1, 1) := by decide +kernel
theorem dX6_left_19 : decode cX6_left 19 = .ok (.iconst 1, 1) := by decide +kernel
theorem dX6_left_20 : decode cX6_left 20 = .ok (.aload_n 0, 1) := by decide +kernel
theorem dX6_left_21 : decode cX6_left 21 = .ok (.getfield 39, 3) := by decide +kernel
theorem dX6_left_24 : decode cX6_left 24 = .ok (.getfield 168, 3) := by decide +kernel
theorem dX6_left_27 : decode cX6_left 27 = .ok (.invokevirtual 171, 3) := by decide +kernel
theorem dX6_left_30 : decode cX6_left 30 = .ok (.istore_n 2, 1) := by decide +kernel
theorem dX6_left_31 : decode cX6_left 31 = .ok (.iload_n 2, 1) := by decide +kernel
theorem dX6_left_32 : decode cX6_left 32 = .ok (.iconst 1, 1) := by decide +kernel
theorem dX6_left_33 : decode cX6_left 33 = .ok (.if_icmp .ge 5, 3) := by decide +kernel
theorem dX6_left_36 : decode cX6_left 36 = .ok (.iconst 0, 1) := by decide +kernel
theorem dX6_left_37 : decode cX6_left 37 = .ok (.ireturn, 1) := by decide +kernel
theorem dX6_left_38 : decode cX6_left 38 = .ok (.iconst 0, 1) := by decide +kernel
theorem dX6_left_39 : decode cX6_left 39 = .ok (.istore_n 3, 1) := by decide +kernel
theorem dX6_left_40 : decode cX6_left 40 = .ok (.iconst 0, 1) := by decide +kernel
theorem dX6_left_41 : decode cX6_left 41 = .ok (.istore 4, 2) := by decide +kernel
theorem dX6_left_43 : decode cX6_left 43 = .ok (.iload 4, 2) := by decide +kernel
theorem dX6_left_45 : decode cX6_left 45 = .ok (.aload_n 0, 1) := by decide +kernel
theorem dX6_left_46 : decode cX6_left 46 = .ok (.getfield 32, 3) := by decide +kernel
theorem dX6_left_49 : decode cX6_left 49 = .ok (.getfield 152, 3) := by decide +kernel
theorem dX6_left_52 : decode cX6_left 52 = .ok (.if_icmp .ge 24, 3) := by decide +kernel
theorem dX6_left_55 : decode cX6_left 55 = .ok (.iload_n 3, 1) := by decide +kernel
theorem dX6_left_56 : decode cX6_left 56 = .ok (.aload_n 0, 1) := by decide +kernel
theorem dX6_left_57 : decode cX6_left 57 = .ok (.getfield 39, 3) := by decide +kernel
theorem dX6_left_60 : decode cX6_left 60 = .ok (.getfield 175, 3) := by decide +kernel
theorem dX6_left_63 : decode cX6_left 63 = .ok (.iload 4, 2) := by decide +kernel
theorem dX6_left_65 : decode cX6_left 65 = .ok (.iaload, 1) := by decide +kernel
theorem dX6_left_66 : decode cX6_left 66 = .ok (.iload_n 2, 1) := by decide +kernel
theorem dX6_left_67 : decode cX6_left 67 = .ok (.idiv, 1) := by decide +kernel
theorem dX6_left_68 : decode cX6_left 68 = .ok (.iadd, 1) := by decide +kernel
theorem dX6_left_69 : decode cX6_left 69 = .ok (.istore_n 3, 1) := by decide +kernel
theorem dX6_left_70 : decode cX6_left 70 = .ok (.iinc 4 1, 3) := by decide +kernel
theorem dX6_left_73 : decode cX6_left 73 = .ok (.goto (-30), 3) := by decide +kernel
theorem dX6_left_76 : decode cX6_left 76 = .ok (.iload_n 3, 1) := by decide +kernel
theorem dX6_left_77 : decode cX6_left 77 = .ok (.ireturn, 1) := by decide +kernel
theorem dX6_leastFallen_0 : decode cX6_leastFallen 0 = .ok (.aload_n 0, 1) := by decide +kernel
theorem dX6_leastFallen_1 : decode cX6_leastFallen 1 = .ok (.invokevirtual 198, 3) := by decide +kernel
theorem dX6_leastFallen_4 : decode cX6_leastFallen 4 = .ok (.ifCond .ne 6, 3) := by decide +kernel
theorem dX6_leastFallen_7 : decode cX6_leastFallen 7 = .ok (.ldc 155, 2) := by decide +kernel
theorem dX6_leastFallen_9 : decode cX6_leastFallen 9 = .ok (.ireturn, 1) := by decide +kernel
theorem dX6_leastFallen_10 : decode cX6_leastFallen 10 = .ok (.iload_n 1, 1) := by decide +kernel
theorem dX6_leastFallen_11 : decode cX6_leastFallen 11 = .ok (.ifCond .lt 29, 3) := by decide +kernel
theorem dX6_leastFallen_14 : decode cX6_leastFallen 14 = .ok (.iload_n 1, 1) := by decide +kernel
theorem dX6_leastFallen_15 : decode cX6_leastFallen 15 = .ok (.sipush 240, 3) := by decide +kernel
theorem dX6_leastFallen_18 : decode cX6_leastFallen 18 = .ok (.if_icmp .gt 22, 3) := by decide +kernel
theorem dX6_leastFallen_21 : decode cX6_leastFallen 21 = .ok (.aload_n 0, 1) := by decide +kernel
theorem dX6_leastFallen_22 : decode cX6_leastFallen 22 = .ok (.getfield 32, 3) := by decide +kernel
theorem dX6_leastFallen_25 : decode cX6_leastFallen 25 = .ok (.iload_n 2, 1) := by decide +kernel
theorem dX6_leastFallen_26 : decode cX6_leastFallen 26 = .ok (.invokevirtual 226, 3) := by decide +kernel
theorem dX6_leastFallen_29 : decode cX6_leastFallen 29 = .ok (.ifCond .eq 11, 3) := by decide +kernel
theorem dX6_leastFallen_32 : decode cX6_leastFallen 32 = .ok (.iload_n 3, 1) := by decide +kernel
theorem dX6_leastFallen_33 : decode cX6_leastFallen 33 = .ok (.iconst 2, 1) := by decide +kernel
theorem dX6_leastFallen_34 : decode cX6_leastFallen 34 = .ok (.invokestatic 78, 3) := by decide +kernel
theorem dX6_leastFallen_37 : decode cX6_leastFallen 37 = .ok (.ifCond .ne 6, 3) := by decide +kernel
theorem dX6_leastFallen_40 : decode cX6_leastFallen 40 = .ok (.ldc 82, 2) := by decide +kernel
theorem dX6_leastFallen_42 : decode cX6_leastFallen 42 = .ok (.ireturn, 1) := by decide +kernel
theorem dX6_leastFallen_43 : decode cX6_leastFallen 43 = .ok (.aload_n 0, 1) := by decide +kernel
theorem dX6_leastFallen_44 : decode cX6_leastFallen 44 = .ok (.getfield 39, 3) := by decide +kernel
theorem dX6_leastFallen_47 : decode cX6_leastFallen 47 = .ok (.invokevirtual 217, 3) := by decide +kernel
theorem dX6_leastFallen_50 : decode cX6_leastFallen 50 = .ok (.istore 4, 2) := by decide +kernel
theorem dX6_leastFallen_52 : decode cX6_leastFallen 52 = .ok (.aload_n 0, 1) := by decide +kernel
theorem dX6_leastFallen_53 : decode cX6_leastFallen 53 = .ok (.getfield 32, 3) := by decide +kernel
theorem dX6_leastFallen_56 : decode cX6_leastFallen 56 = .ok (.iload 4, 2) := by decide +kernel
theorem dX6_leastFallen_58 : decode cX6_leastFallen 58 = .ok (.invokevirtual 232, 3) := by decide +kernel
theorem dX6_leastFallen_61 : decode cX6_leastFallen 61 = .ok (.istore 5, 2) := by decide +kernel
theorem dX6_leastFallen_63 : decode cX6_leastFallen 63 = .ok (.aload_n 0, 1) := by decide +kernel
theorem dX6_leastFallen_64 : decode cX6_leastFallen 64 = .ok (.getfield 39, 3) := by decide +kernel
theorem dX6_leastFallen_67 : decode cX6_leastFallen 67 = .ok (.invokevirtual 220, 3) := by decide +kernel
theorem dX6_leastFallen_70 : decode cX6_leastFallen 70 = .ok (.istore 6, 2) := by decide +kernel
theorem dX6_leastFallen_72 : decode cX6_leastFallen 72 = .ok (.bipush 9, 2) := by decide +kernel
theorem dX6_leastFallen_74 : decode cX6_leastFallen 74 = .ok (.istore 7, 2) := by decide +kernel
theorem dX6_leastFallen_76 : decode cX6_leastFallen 76 = .ok (.ldc 235, 2) := by decide +kernel
theorem dX6_leastFallen_78 : decode cX6_leastFallen 78 = .ok (.istore 8, 2) := by decide +kernel
theorem dX6_leastFallen_80 : decode cX6_leastFallen 80 = .ok (.iconst 0, 1) := by decide +kernel
theorem dX6_leastFallen_81 : decode cX6_leastFallen 81 = .ok (.istore 9, 2) := by decide +kernel
theorem dX6_leastFallen_83 : decode cX6_leastFallen 83 = .ok (.iload 9, 2) := by decide +kernel
theorem dX6_leastFallen_85 : decode cX6_leastFallen 85 = .ok (.iload 5, 2) := by decide +kernel
theorem dX6_leastFallen_87 : decode cX6_leastFallen 87 = .ok (.if_icmp .gt 93, 3) := by decide +kernel
theorem dX6_leastFallen_90 : decode cX6_leastFallen 90 = .ok (.iload 9, 2) := by decide +kernel
theorem dX6_leastFallen_92 : decode cX6_leastFallen 92 = .ok (.iload 5, 2) := by decide +kernel
theorem dX6_leastFallen_94 : decode cX6_leastFallen 94 = .ok (.iconst (-1), 1) := by decide +kernel
theorem dX6_leastFallen_95 : decode cX6_leastFallen 95 = .ok (.ixor, 1) := by decide +kernel
theorem dX6_leastFallen_96 : decode cX6_leastFallen 96 = .ok (.iand, 1) := by decide +kernel
theorem dX6_leastFallen_97 : decode cX6_leastFallen 97 = .ok (.ifCond .eq 6, 3) := by decide +kernel
theorem dX6_leastFallen_100 : decode cX6_leastFallen 100 = .ok (.goto 74, 3) := by decide +kernel
theorem dX6_leastFallen_103 : decode cX6_leastFallen 103 = .ok (.iload 5, 2) := by decide +kernel
theorem dX6_leastFallen_105 : decode cX6_leastFallen 105 = .ok (.aload_n 0, 1) := by decide +kernel
theorem dX6_leastFallen_106 : decode cX6_leastFallen 106 = .ok (.getfield 32, 3) := by decide +kernel
theorem dX6_leastFallen_109 : decode cX6_leastFallen 109 = .ok (.iload 4, 2) := by decide +kernel
theorem dX6_leastFallen_111 : decode cX6_leastFallen 111 = .ok (.iload 9, 2) := by decide +kernel
theorem dX6_leastFallen_113 : decode cX6_leastFallen 113 = .ok (.iconst (-1), 1) := by decide +kernel
theorem dX6_leastFallen_114 : decode cX6_leastFallen 114 = .ok (.ixor, 1) := by decide +kernel
theorem dX6_leastFallen_115 : decode cX6_leastFallen 115 = .ok (.iand, 1) := by decide +kernel
theorem dX6_leastFallen_116 : decode cX6_leastFallen 116 = .ok (.invokevirtual 232, 3) := by decide +kernel
theorem dX6_leastFallen_119 : decode cX6_leastFallen 119 = .ok (.iconst (-1), 1) := by decide +kernel
theorem dX6_leastFallen_120 : decode cX6_leastFallen 120 = .ok (.ixor, 1) := by decide +kernel
theorem dX6_leastFallen_121 : decode cX6_leastFallen 121 = .ok (.iand, 1) := by decide +kernel
theorem dX6_leastFallen_122 : decode cX6_leastFallen 122 = .ok (.istore 10, 2) := by decide +kernel
theorem dX6_leastFallen_124 : decode cX6_leastFallen 124 = .ok (.iload 10, 2) := by decide +kernel
theorem dX6_leastFallen_126 : decode cX6_leastFallen 126 = .ok (.invokestatic 236, 3) := by decide +kernel
theorem dX6_leastFallen_129 : decode cX6_leastFallen 129 = .ok (.istore 11, 2) := by decide +kernel
theorem dX6_leastFallen_131 : decode cX6_leastFallen 131 = .ok (.iload 6, 2) := by decide +kernel
theorem dX6_leastFallen_133 : decode cX6_leastFallen 133 = .ok (.iload 5, 2) := by decide +kernel
theorem dX6_leastFallen_135 : decode cX6_leastFallen 135 = .ok (.iload 10, 2) := by decide +kernel
theorem dX6_leastFallen_137 : decode cX6_leastFallen 137 = .ok (.iconst (-1), 1) := by decide +kernel
theorem dX6_leastFallen_138 : decode cX6_leastFallen 138 = .ok (.ixor, 1) := by decide +kernel
theorem dX6_leastFallen_139 : decode cX6_leastFallen 139 = .ok (.iand, 1) := by decide +kernel
theorem dX6_leastFallen_140 : decode cX6_leastFallen 140 = .ok (.invokestatic 236, 3) := by decide +kernel
theorem dX6_leastFallen_143 : decode cX6_leastFallen 143 = .ok (.isub, 1) := by decide +kernel
theorem dX6_leastFallen_144 : decode cX6_leastFallen 144 = .ok (.istore 12, 2) := by decide +kernel
theorem dX6_leastFallen_146 : decode cX6_leastFallen 146 = .ok (.iload 10, 2) := by decide +kernel
theorem dX6_leastFallen_148 : decode cX6_leastFallen 148 = .ok (.iload_n 2, 1) := by decide +kernel
theorem dX6_leastFallen_149 : decode cX6_leastFallen 149 = .ok (.iand, 1) := by decide +kernel
theorem dX6_leastFallen_150 : decode cX6_leastFallen 150 = .ok (.ifCond .ne 24, 3) := by decide +kernel
theorem dX6_leastFallen_153 : decode cX6_leastFallen 153 = .ok (.iload 12, 2) := by decide +kernel
theorem dX6_leastFallen_155 : decode cX6_leastFallen 155 = .ok (.iload_n 1, 1) := by decide +kernel
theorem dX6_leastFallen_156 : decode cX6_leastFallen 156 = .ok (.if_icmp .lt 18, 3) := by decide +kernel
theorem dX6_leastFallen_159 : decode cX6_leastFallen 159 = .ok (.iload 11, 2) := by decide +kernel
theorem dX6_leastFallen_161 : decode cX6_leastFallen 161 = .ok (.iload 7, 2) := by decide +kernel
theorem dX6_leastFallen_163 : decode cX6_leastFallen 163 = .ok (.if_icmp .ge 11, 3) := by decide +kernel
theorem dX6_leastFallen_166 : decode cX6_leastFallen 166 = .ok (.iload 11, 2) := by decide +kernel
theorem dX6_leastFallen_168 : decode cX6_leastFallen 168 = .ok (.istore 7, 2) := by decide +kernel
theorem dX6_leastFallen_170 : decode cX6_leastFallen 170 = .ok (.iload 9, 2) := by decide +kernel
theorem dX6_leastFallen_172 : decode cX6_leastFallen 172 = .ok (.istore 8, 2) := by decide +kernel
theorem dX6_leastFallen_174 : decode cX6_leastFallen 174 = .ok (.iinc 9 1, 3) := by decide +kernel
theorem dX6_leastFallen_177 : decode cX6_leastFallen 177 = .ok (.goto (-94), 3) := by decide +kernel
theorem dX6_leastFallen_180 : decode cX6_leastFallen 180 = .ok (.iload_n 3, 1) := by decide +kernel
theorem dX6_leastFallen_181 : decode cX6_leastFallen 181 = .ok (.iconst 1, 1) := by decide +kernel
theorem dX6_leastFallen_182 : decode cX6_leastFallen 182 = .ok (.if_icmp .eq 10, 3) := by decide +kernel
theorem dX6_leastFallen_185 : decode cX6_leastFallen 185 = .ok (.iload 8, 2) := by decide +kernel
theorem dX6_leastFallen_187 : decode cX6_leastFallen 187 = .ok (.ldc 235, 2) := by decide +kernel
theorem dX6_leastFallen_189 : decode cX6_leastFallen 189 = .ok (.if_icmp .ne 8, 3) := by decide +kernel
theorem dX6_leastFallen_192 : decode cX6_leastFallen 192 = .ok (.iload 8, 2) := by decide +kernel
theorem dX6_leastFallen_194 : decode cX6_leastFallen 194 = .ok (.goto 5, 3) := by decide +kernel
theorem dX6_leastFallen_197 : decode cX6_leastFallen 197 = .ok (.iload 7, 2) := by decide +kernel
theorem dX6_leastFallen_199 : decode cX6_leastFallen 199 = .ok (.ireturn, 1) := by decide +kernel
theorem dX6_must_0 : decode cX6_must 0 = .ok (.aload_n 0, 1) := by decide +kernel
theorem dX6_must_1 : decode cX6_must 1 = .ok (.invokevirtual 198, 3) := by decide +kernel
theorem dX6_must_4 : decode cX6_must 4 = .ok (.ifCond .ne 6, 3) := by decide +kernel
theorem dX6_must_7 : decode cX6_must 7 = .ok (.ldc 155, 2) := by decide +kernel
theorem dX6_must_9 : decode cX6_must 9 = .ok (.ireturn, 1) := by decide +kernel
theorem dX6_must_10 : decode cX6_must 10 = .ok (.aload_n 0, 1) := by decide +kernel
theorem dX6_must_11 : decode cX6_must 11 = .ok (.invokevirtual 204, 3) := by decide +kernel
theorem dX6_must_14 : decode cX6_must 14 = .ok (.istore_n 1, 1) := by decide +kernel
theorem dX6_must_15 : decode cX6_must 15 = .ok (.iload_n 1, 1) := by decide +kernel
theorem dX6_must_16 : decode cX6_must 16 = .ok (.invokestatic 236, 3) := by decide +kernel
theorem dX6_must_19 : decode cX6_must 19 = .ok (.istore_n 2, 1) := by decide +kernel
theorem dX6_must_20 : decode cX6_must 20 = .ok (.iconst 0, 1) := by decide +kernel
theorem dX6_must_21 : decode cX6_must 21 = .ok (.istore_n 3, 1) := by decide +kernel
theorem dX6_must_22 : decode cX6_must 22 = .ok (.iconst 0, 1) := by decide +kernel
theorem dX6_must_23 : decode cX6_must 23 = .ok (.istore 4, 2) := by decide +kernel
theorem dX6_must_25 : decode cX6_must 25 = .ok (.iload 4, 2) := by decide +kernel
theorem dX6_must_27 : decode cX6_must 27 = .ok (.aload_n 0, 1) := by decide +kernel
theorem dX6_must_28 : decode cX6_must 28 = .ok (.getfield 32, 3) := by decide +kernel
theorem dX6_must_31 : decode cX6_must 31 = .ok (.getfield 152, 3) := by decide +kernel
theorem dX6_must_34 : decode cX6_must 34 = .ok (.if_icmp .ge 33, 3) := by decide +kernel
theorem dX6_must_37 : decode cX6_must 37 = .ok (.iconst 2, 1) := by decide +kernel
theorem dX6_must_38 : decode cX6_must 38 = .ok (.aload_n 0, 1) := by decide +kernel
theorem dX6_must_39 : decode cX6_must 39 = .ok (.iconst 1, 1) := by decide +kernel
theorem dX6_must_40 : decode cX6_must 40 = .ok (.iload 4, 2) := by decide +kernel
theorem dX6_must_42 : decode cX6_must 42 = .ok (.ishl, 1) := by decide +kernel
theorem dX6_must_43 : decode cX6_must 43 = .ok (.invokevirtual 229, 3) := by decide +kernel
theorem dX6_must_46 : decode cX6_must 46 = .ok (.invokestatic 236, 3) := by decide +kernel
theorem dX6_must_49 : decode cX6_must 49 = .ok (.imul, 1) := by decide +kernel
theorem dX6_must_50 : decode cX6_must 50 = .ok (.iload_n 2, 1) := by decide +kernel
theorem dX6_must_51 : decode cX6_must 51 = .ok (.if_icmp .le 10, 3) := by decide +kernel
theorem dX6_must_54 : decode cX6_must 54 = .ok (.iload_n 3, 1) := by decide +kernel
theorem dX6_must_55 : decode cX6_must 55 = .ok (.iconst 1, 1) := by decide +kernel
theorem dX6_must_56 : decode cX6_must 56 = .ok (.iload 4, 2) := by decide +kernel
theorem dX6_must_58 : decode cX6_must 58 = .ok (.ishl, 1) := by decide +kernel
theorem dX6_must_59 : decode cX6_must 59 = .ok (.ior, 1) := by decide +kernel
theorem dX6_must_60 : decode cX6_must 60 = .ok (.istore_n 3, 1) := by decide +kernel
theorem dX6_must_61 : decode cX6_must 61 = .ok (.iinc 4 1, 3) := by decide +kernel
theorem dX6_must_64 : decode cX6_must 64 = .ok (.goto (-39), 3) := by decide +kernel
theorem dX6_must_67 : decode cX6_must 67 = .ok (.iload_n 3, 1) := by decide +kernel
theorem dX6_must_68 : decode cX6_must 68 = .ok (.iload_n 1, 1) := by decide +kernel
theorem dX6_must_69 : decode cX6_must 69 = .ok (.iand, 1) := by decide +kernel
theorem dX6_must_70 : decode cX6_must 70 = .ok (.ireturn, 1) := by decide +kernel
theorem dX6_writings_0 : decode cX6_writings 0 = .ok (.aload_n 0, 1) := by decide +kernel
theorem dX6_writings_1 : decode cX6_writings 1 = .ok (.invokevirtual 198, 3) := by decide +kernel
theorem dX6_writings_4 : decode cX6_writings 4 = .ok (.ifCond .ne 6, 3) := by decide +kernel
theorem dX6_writings_7 : decode cX6_writings 7 = .ok (.ldc 155, 2) := by decide +kernel
theorem dX6_writings_9 : decode cX6_writings 9 = .ok (.ireturn, 1) := by decide +kernel
theorem dX6_writings_10 : decode cX6_writings 10 = .ok (.iload_n 1, 1) := by decide +kernel
theorem dX6_writings_11 : decode cX6_writings 11 = .ok (.bipush 8, 2) := by decide +kernel
theorem dX6_writings_13 : decode cX6_writings 13 = .ok (.invokestatic 78, 3) := by decide +kernel
theorem dX6_writings_16 : decode cX6_writings 16 = .ok (.ifCond .eq 19, 3) := by decide +kernel
theorem dX6_writings_19 : decode cX6_writings 19 = .ok (.iload_n 3, 1) := by decide +kernel
theorem dX6_writings_20 : decode cX6_writings 20 = .ok (.iconst 1, 1) := by decide +kernel
theorem dX6_writings_21 : decode cX6_writings 21 = .ok (.if_icmp .lt 14, 3) := by decide +kernel
theorem dX6_writings_24 : decode cX6_writings 24 = .ok (.iload_n 3, 1) := by decide +kernel
theorem dX6_writings_25 : decode cX6_writings 25 = .ok (.iconst 4, 1) := by decide +kernel
theorem dX6_writings_26 : decode cX6_writings 26 = .ok (.if_icmp .gt 9, 3) := by decide +kernel
theorem dX6_writings_29 : decode cX6_writings 29 = .ok (.iload 4, 2) := by decide +kernel
theorem dX6_writings_31 : decode cX6_writings 31 = .ok (.iconst (-1), 1) := by decide +kernel
theorem dX6_writings_32 : decode cX6_writings 32 = .ok (.if_icmp .ge 6, 3) := by decide +kernel
theorem dX6_writings_35 : decode cX6_writings 35 = .ok (.ldc 82, 2) := by decide +kernel
theorem dX6_writings_37 : decode cX6_writings 37 = .ok (.ireturn, 1) := by decide +kernel
theorem dX6_writings_38 : decode cX6_writings 38 = .ok (.aload_n 0, 1) := by decide +kernel
theorem dX6_writings_39 : decode cX6_writings 39 = .ok (.getfield 11, 3) := by decide +kernel
theorem dX6_writings_42 : decode cX6_writings 42 = .ok (.iload_n 1, 1) := by decide +kernel
theorem dX6_writings_43 : decode cX6_writings 43 = .ok (.aaload, 1) := by decide +kernel
theorem dX6_writings_44 : decode cX6_writings 44 = .ok (.astore 5, 2) := by decide +kernel
theorem dX6_writings_46 : decode cX6_writings 46 = .ok (.aload 5, 2) := by decide +kernel
theorem dX6_writings_48 : decode cX6_writings 48 = .ok (.iload_n 2, 1) := by decide +kernel
theorem dX6_writings_49 : decode cX6_writings 49 = .ok (.iconst 2, 1) := by decide +kernel
theorem dX6_writings_50 : decode cX6_writings 50 = .ok (.iload_n 3, 1) := by decide +kernel
theorem dX6_writings_51 : decode cX6_writings 51 = .ok (.imul, 1) := by decide +kernel
theorem dX6_writings_52 : decode cX6_writings 52 = .ok (.invokevirtual 94, 3) := by decide +kernel
theorem dX6_writings_55 : decode cX6_writings 55 = .ok (.istore 6, 2) := by decide +kernel
theorem dX6_writings_57 : decode cX6_writings 57 = .ok (.iload 6, 2) := by decide +kernel
theorem dX6_writings_59 : decode cX6_writings 59 = .ok (.ifCond .eq 10, 3) := by decide +kernel
theorem dX6_writings_62 : decode cX6_writings 62 = .ok (.aload_n 0, 1) := by decide +kernel
theorem dX6_writings_63 : decode cX6_writings 63 = .ok (.iload 6, 2) := by decide +kernel
theorem dX6_writings_65 : decode cX6_writings 65 = .ok (.invokevirtual 83, 3) := by decide +kernel
theorem dX6_writings_68 : decode cX6_writings 68 = .ok (.ireturn, 1) := by decide +kernel
theorem dX6_writings_69 : decode cX6_writings 69 = .ok (.aload_n 0, 1) := by decide +kernel
theorem dX6_writings_70 : decode cX6_writings 70 = .ok (.aload 5, 2) := by decide +kernel
theorem dX6_writings_72 : decode cX6_writings 72 = .ok (.getfield 98, 3) := by decide +kernel
theorem dX6_writings_75 : decode cX6_writings 75 = .ok (.iload_n 2, 1) := by decide +kernel
theorem dX6_writings_76 : decode cX6_writings 76 = .ok (.iload_n 3, 1) := by decide +kernel
theorem dX6_writings_77 : decode cX6_writings 77 = .ok (.invokevirtual 241, 3) := by decide +kernel
theorem dX6_writings_80 : decode cX6_writings 80 = .ok (.ifCond .ne 6, 3) := by decide +kernel
theorem dX6_writings_83 : decode cX6_writings 83 = .ok (.ldc 82, 2) := by decide +kernel
theorem dX6_writings_85 : decode cX6_writings 85 = .ok (.ireturn, 1) := by decide +kernel
theorem dX6_writings_86 : decode cX6_writings 86 = .ok (.aload_n 0, 1) := by decide +kernel
theorem dX6_writings_87 : decode cX6_writings 87 = .ok (.getfield 66, 3) := by decide +kernel
theorem dX6_writings_90 : decode cX6_writings 90 = .ok (.aload_n 0, 1) := by decide +kernel
theorem dX6_writings_91 : decode cX6_writings 91 = .ok (.getfield 39, 3) := by decide +kernel
theorem dX6_writings_94 : decode cX6_writings 94 = .ok (.iload_n 3, 1) := by decide +kernel
theorem dX6_writings_95 : decode cX6_writings 95 = .ok (.invokevirtual 245, 3) := by decide +kernel
theorem dX6_writings_98 : decode cX6_writings 98 = .ok (.iconst 0, 1) := by decide +kernel
theorem dX6_writings_99 : decode cX6_writings 99 = .ok (.istore 7, 2) := by decide +kernel
theorem dX6_writings_101 : decode cX6_writings 101 = .ok (.iload 7, 2) := by decide +kernel
theorem dX6_writings_103 : decode cX6_writings 103 = .ok (.iload_n 3, 1) := by decide +kernel
theorem dX6_writings_104 : decode cX6_writings 104 = .ok (.if_icmp .ge 59, 3) := by decide +kernel
theorem dX6_writings_107 : decode cX6_writings 107 = .ok (.aload_n 0, 1) := by decide +kernel
theorem dX6_writings_108 : decode cX6_writings 108 = .ok (.getfield 66, 3) := by decide +kernel
theorem dX6_writings_111 : decode cX6_writings 111 = .ok (.getfield 248, 3) := by decide +kernel
theorem dX6_writings_114 : decode cX6_writings 114 = .ok (.iload 7, 2) := by decide +kernel
theorem dX6_writings_116 : decode cX6_writings 116 = .ok (.aload_n 0, 1) := by decide +kernel
theorem dX6_writings_117 : decode cX6_writings 117 = .ok (.getfield 32, 3) := by decide +kernel
theorem dX6_writings_120 : decode cX6_writings 120 = .ok (.aload 5, 2) := by decide +kernel
theorem dX6_writings_122 : decode cX6_writings 122 = .ok (.getfield 98, 3) := by decide +kernel
theorem dX6_writings_125 : decode cX6_writings 125 = .ok (.iload_n 2, 1) := by decide +kernel
theorem dX6_writings_126 : decode cX6_writings 126 = .ok (.iconst 2, 1) := by decide +kernel
theorem dX6_writings_127 : decode cX6_writings 127 = .ok (.iload 7, 2) := by decide +kernel
theorem dX6_writings_129 : decode cX6_writings 129 = .ok (.imul, 1) := by decide +kernel
theorem dX6_writings_130 : decode cX6_writings 130 = .ok (.iadd, 1) := by decide +kernel
theorem dX6_writings_131 : decode cX6_writings 131 = .ok (.iaload, 1) := by decide +kernel
theorem dX6_writings_132 : decode cX6_writings 132 = .ok (.aload 5, 2) := by decide +kernel
theorem dX6_writings_134 : decode cX6_writings 134 = .ok (.getfield 98, 3) := by decide +kernel
theorem dX6_writings_137 : decode cX6_writings 137 = .ok (.iload_n 2, 1) := by decide +kernel
theorem dX6_writings_138 : decode cX6_writings 138 = .ok (.iconst 2, 1) := by decide +kernel
theorem dX6_writings_139 : decode cX6_writings 139 = .ok (.iload 7, 2) := by decide +kernel
theorem dX6_writings_141 : decode cX6_writings 141 = .ok (.imul, 1) := by decide +kernel
theorem dX6_writings_142 : decode cX6_writings 142 = .ok (.iadd, 1) := by decide +kernel
theorem dX6_writings_143 : decode cX6_writings 143 = .ok (.iconst 1, 1) := by decide +kernel
theorem dX6_writings_144 : decode cX6_writings 144 = .ok (.iadd, 1) := by decide +kernel
theorem dX6_writings_145 : decode cX6_writings 145 = .ok (.iaload, 1) := by decide +kernel
theorem dX6_writings_146 : decode cX6_writings 146 = .ok (.aload_n 0, 1) := by decide +kernel
theorem dX6_writings_147 : decode cX6_writings 147 = .ok (.getfield 39, 3) := by decide +kernel
theorem dX6_writings_150 : decode cX6_writings 150 = .ok (.getfield 168, 3) := by decide +kernel
theorem dX6_writings_153 : decode cX6_writings 153 = .ok (.invokevirtual 171, 3) := by decide +kernel
theorem dX6_writings_156 : decode cX6_writings 156 = .ok (.iastore, 1) := by decide +kernel
theorem dX6_writings_157 : decode cX6_writings 157 = .ok (.iinc 7 1, 3) := by decide +kernel
theorem dX6_writings_160 : decode cX6_writings 160 = .ok (.goto (-59), 3) := by decide +kernel
theorem dX6_writings_163 : decode cX6_writings 163 = .ok (.aload_n 0, 1) := by decide +kernel
theorem dX6_writings_164 : decode cX6_writings 164 = .ok (.getfield 32, 3) := by decide +kernel
theorem dX6_writings_167 : decode cX6_writings 167 = .ok (.aload_n 0, 1) := by decide +kernel
theorem dX6_writings_168 : decode cX6_writings 168 = .ok (.getfield 66, 3) := by decide +kernel
theorem dX6_writings_171 : decode cX6_writings 171 = .ok (.iconst 0, 1) := by decide +kernel
theorem dX6_writings_172 : decode cX6_writings 172 = .ok (.invokestatic 251, 3) := by decide +kernel
theorem dX6_writings_175 : decode cX6_writings 175 = .ok (.aload_n 0, 1) := by decide +kernel
theorem dX6_writings_176 : decode cX6_writings 176 = .ok (.getfield 66, 3) := by decide +kernel
theorem dX6_writings_179 : decode cX6_writings 179 = .ok (.getfield 255, 3) := by decide +kernel
theorem dX6_writings_182 : decode cX6_writings 182 = .ok (.ifCond .lt 9, 3) := by decide +kernel
theorem dX6_writings_185 : decode cX6_writings 185 = .ok (.iload 4, 2) := by decide +kernel
theorem dX6_writings_187 : decode cX6_writings 187 = .ok (.iload_n 3, 1) := by decide +kernel
theorem dX6_writings_188 : decode cX6_writings 188 = .ok (.if_icmp .lt 10, 3) := by decide +kernel
theorem dX6_writings_191 : decode cX6_writings 191 = .ok (.aload_n 0, 1) := by decide +kernel
theorem dX6_writings_192 : decode cX6_writings 192 = .ok (.ldc 235, 2) := by decide +kernel
theorem dX6_writings_194 : decode cX6_writings 194 = .ok (.invokevirtual 91, 3) := by decide +kernel
theorem dX6_writings_197 : decode cX6_writings 197 = .ok (.ireturn, 1) := by decide +kernel
theorem dX6_writings_198 : decode cX6_writings 198 = .ok (.aload_n 0, 1) := by decide +kernel
theorem dX6_writings_199 : decode cX6_writings 199 = .ok (.iload 4, 2) := by decide +kernel
theorem dX6_writings_201 : decode cX6_writings 201 = .ok (.ifCond .ge 13, 3) := by decide +kernel
theorem dX6_writings_204 : decode cX6_writings 204 = .ok (.aload_n 0, 1) := by decide +kernel
theorem dX6_writings_205 : decode cX6_writings 205 = .ok (.getfield 66, 3) := by decide +kernel
theorem dX6_writings_208 : decode cX6_writings 208 = .ok (.getfield 255, 3) := by decide +kernel
theorem dX6_writings_211 : decode cX6_writings 211 = .ok (.goto 13, 3) := by decide +kernel
theorem dX6_writings_214 : decode cX6_writings 214 = .ok (.aload_n 0, 1) := by decide +kernel
theorem dX6_writings_215 : decode cX6_writings 215 = .ok (.getfield 66, 3) := by decide +kernel
theorem dX6_writings_218 : decode cX6_writings 218 = .ok (.getfield 258, 3) := by decide +kernel
theorem dX6_writings_221 : decode cX6_writings 221 = .ok (.iload 4, 2) := by decide +kernel
theorem dX6_writings_223 : decode cX6_writings 223 = .ok (.iaload, 1) := by decide +kernel
theorem dX6_writings_224 : decode cX6_writings 224 = .ok (.invokevirtual 91, 3) := by decide +kernel
theorem dX6_writings_227 : decode cX6_writings 227 = .ok (.ireturn, 1) := by decide +kernel
theorem dX6_from_0 : decode cX6_from 0 = .ok (.aload_n 0, 1) := by decide +kernel
theorem dX6_from_1 : decode cX6_from 1 = .ok (.invokevirtual 198, 3) := by decide +kernel
theorem dX6_from_4 : decode cX6_from 4 = .ok (.ifCond .ne 6, 3) := by decide +kernel
theorem dX6_from_7 : decode cX6_from 7 = .ok (.ldc 155, 2) := by decide +kernel
theorem dX6_from_9 : decode cX6_from 9 = .ok (.ireturn, 1) := by decide +kernel
theorem dX6_from_10 : decode cX6_from 10 = .ok (.iload_n 1, 1) := by decide +kernel
theorem dX6_from_11 : decode cX6_from 11 = .ok (.bipush 8, 2) := by decide +kernel
theorem dX6_from_13 : decode cX6_from 13 = .ok (.invokestatic 78, 3) := by decide +kernel
theorem dX6_from_16 : decode cX6_from 16 = .ok (.ifCond .eq 11, 3) := by decide +kernel
theorem dX6_from_19 : decode cX6_from 19 = .ok (.iload_n 3, 1) := by decide +kernel
theorem dX6_from_20 : decode cX6_from 20 = .ok (.iconst 2, 1) := by decide +kernel
theorem dX6_from_21 : decode cX6_from 21 = .ok (.invokestatic 78, 3) := by decide +kernel
theorem dX6_from_24 : decode cX6_from 24 = .ok (.ifCond .ne 6, 3) := by decide +kernel
theorem dX6_from_27 : decode cX6_from 27 = .ok (.ldc 82, 2) := by decide +kernel
theorem dX6_from_29 : decode cX6_from 29 = .ok (.ireturn, 1) := by decide +kernel
theorem dX6_from_30 : decode cX6_from 30 = .ok (.aload_n 0, 1) := by decide +kernel
theorem dX6_from_31 : decode cX6_from 31 = .ok (.getfield 11, 3) := by decide +kernel
theorem dX6_from_34 : decode cX6_from 34 = .ok (.iload_n 1, 1) := by decide +kernel
theorem dX6_from_35 : decode cX6_from 35 = .ok (.aaload, 1) := by decide +kernel
theorem dX6_from_36 : decode cX6_from 36 = .ok (.astore 4, 2) := by decide +kernel
theorem dX6_from_38 : decode cX6_from 38 = .ok (.aload 4, 2) := by decide +kernel
theorem dX6_from_40 : decode cX6_from 40 = .ok (.iload_n 2, 1) := by decide +kernel
theorem dX6_from_41 : decode cX6_from 41 = .ok (.aload_n 0, 1) := by decide +kernel
theorem dX6_from_42 : decode cX6_from 42 = .ok (.getfield 32, 3) := by decide +kernel
theorem dX6_from_45 : decode cX6_from 45 = .ok (.getfield 152, 3) := by decide +kernel
theorem dX6_from_48 : decode cX6_from 48 = .ok (.invokevirtual 94, 3) := by decide +kernel
theorem dX6_from_51 : decode cX6_from 51 = .ok (.istore 5, 2) := by decide +kernel
theorem dX6_from_53 : decode cX6_from 53 = .ok (.iload 5, 2) := by decide +kernel
theorem dX6_from_55 : decode cX6_from 55 = .ok (.ifCond .eq 10, 3) := by decide +kernel
theorem dX6_from_58 : decode cX6_from 58 = .ok (.aload_n 0, 1) := by decide +kernel
theorem dX6_from_59 : decode cX6_from 59 = .ok (.iload 5, 2) := by decide +kernel
theorem dX6_from_61 : decode cX6_from 61 = .ok (.invokevirtual 83, 3) := by decide +kernel
theorem dX6_from_64 : decode cX6_from 64 = .ok (.ireturn, 1) := by decide +kernel
theorem dX6_from_65 : decode cX6_from 65 = .ok (.aload_n 0, 1) := by decide +kernel
theorem dX6_from_66 : decode cX6_from 66 = .ok (.aload 4, 2) := by decide +kernel
theorem dX6_from_68 : decode cX6_from 68 = .ok (.getfield 98, 3) := by decide +kernel
theorem dX6_from_71 : decode cX6_from 71 = .ok (.iload_n 2, 1) := by decide +kernel
theorem dX6_from_72 : decode cX6_from 72 = .ok (.invokevirtual 261, 3) := by decide +kernel
theorem dX6_from_75 : decode cX6_from 75 = .ok (.istore 6, 2) := by decide +kernel
theorem dX6_from_77 : decode cX6_from 77 = .ok (.iload 6, 2) := by decide +kernel
theorem dX6_from_79 : decode cX6_from 79 = .ok (.ifCond .ge 7, 3) := by decide +kernel
theorem dX6_from_82 : decode cX6_from 82 = .ok (.iconst 0, 1) := by decide +kernel
theorem dX6_from_83 : decode cX6_from 83 = .ok (.goto 24, 3) := by decide +kernel
theorem dX6_from_86 : decode cX6_from 86 = .ok (.aload_n 0, 1) := by decide +kernel
theorem dX6_from_87 : decode cX6_from 87 = .ok (.getfield 39, 3) := by decide +kernel
theorem dX6_from_90 : decode cX6_from 90 = .ok (.getfield 175, 3) := by decide +kernel
theorem dX6_from_93 : decode cX6_from 93 = .ok (.iload 6, 2) := by decide +kernel
theorem dX6_from_95 : decode cX6_from 95 = .ok (.iaload, 1) := by decide +kernel
theorem dX6_from_96 : decode cX6_from 96 = .ok (.aload 4, 2) := by decide +kernel
theorem dX6_from_98 : decode cX6_from 98 = .ok (.getfield 98, 3) := by decide +kernel
theorem dX6_from_101 : decode cX6_from 101 = .ok (.iload_n 2, 1) := by decide +kernel
theorem dX6_from_102 : decode cX6_from 102 = .ok (.iload 6, 2) := by decide +kernel
theorem dX6_from_104 : decode cX6_from 104 = .ok (.iadd, 1) := by decide +kernel
theorem dX6_from_105 : decode cX6_from 105 = .ok (.iaload, 1) := by decide +kernel
theorem dX6_from_106 : decode cX6_from 106 = .ok (.isub, 1) := by decide +kernel
theorem dX6_from_107 : decode cX6_from 107 = .ok (.istore 7, 2) := by decide +kernel
theorem dX6_from_109 : decode cX6_from 109 = .ok (.iconst 0, 1) := by decide +kernel
theorem dX6_from_110 : decode cX6_from 110 = .ok (.istore 8, 2) := by decide +kernel
theorem dX6_from_112 : decode cX6_from 112 = .ok (.ldc 235, 2) := by decide +kernel
theorem dX6_from_114 : decode cX6_from 114 = .ok (.istore 9, 2) := by decide +kernel
theorem dX6_from_116 : decode cX6_from 116 = .ok (.iconst 0, 1) := by decide +kernel
theorem dX6_from_117 : decode cX6_from 117 = .ok (.istore 10, 2) := by decide +kernel
theorem dX6_from_119 : decode cX6_from 119 = .ok (.iload 10, 2) := by decide +kernel
theorem dX6_from_121 : decode cX6_from 121 = .ok (.aload_n 0, 1) := by decide +kernel
theorem dX6_from_122 : decode cX6_from 122 = .ok (.getfield 32, 3) := by decide +kernel
theorem dX6_from_125 : decode cX6_from 125 = .ok (.getfield 265, 3) := by decide +kernel
theorem dX6_from_128 : decode cX6_from 128 = .ok (.if_icmp .ge 76, 3) := by decide +kernel
theorem dX6_from_131 : decode cX6_from 131 = .ok (.iload 6, 2) := by decide +kernel
theorem dX6_from_133 : decode cX6_from 133 = .ok (.ifCond .lt 71, 3) := by decide +kernel
theorem dX6_from_136 : decode cX6_from 136 = .ok (.iconst 1, 1) := by decide +kernel
theorem dX6_from_137 : decode cX6_from 137 = .ok (.istore 11, 2) := by decide +kernel
theorem dX6_from_139 : decode cX6_from 139 = .ok (.iload 11, 2) := by decide +kernel
theorem dX6_from_141 : decode cX6_from 141 = .ok (.bipush 30, 2) := by decide +kernel
theorem dX6_from_143 : decode cX6_from 143 = .ok (.if_icmp .gt 55, 3) := by decide +kernel
theorem dX6_from_146 : decode cX6_from 146 = .ok (.aload_n 0, 1) := by decide +kernel
theorem dX6_from_147 : decode cX6_from 147 = .ok (.getfield 32, 3) := by decide +kernel
theorem dX6_from_150 : decode cX6_from 150 = .ok (.iload 10, 2) := by decide +kernel
theorem dX6_from_152 : decode cX6_from 152 = .ok (.iload 11, 2) := by decide +kernel
theorem dX6_from_154 : decode cX6_from 154 = .ok (.aload_n 0, 1) := by decide +kernel
theorem dX6_from_155 : decode cX6_from 155 = .ok (.getfield 39, 3) := by decide +kernel
theorem dX6_from_158 : decode cX6_from 158 = .ok (.getfield 168, 3) := by decide +kernel
theorem dX6_from_161 : decode cX6_from 161 = .ok (.invokevirtual 171, 3) := by decide +kernel
theorem dX6_from_164 : decode cX6_from 164 = .ok (.iload 7, 2) := by decide +kernel
theorem dX6_from_166 : decode cX6_from 166 = .ok (.if_icmp .ne 26, 3) := by decide +kernel
theorem dX6_from_169 : decode cX6_from 169 = .ok (.iload 8, 2) := by decide +kernel
theorem dX6_from_171 : decode cX6_from 171 = .ok (.ifCond .ne 14, 3) := by decide +kernel
theorem dX6_from_174 : decode cX6_from 174 = .ok (.bipush 10, 2) := by decide +kernel
theorem dX6_from_176 : decode cX6_from 176 = .ok (.iload 10, 2) := by decide +kernel
theorem dX6_from_178 : decode cX6_from 178 = .ok (.imul, 1) := by decide +kernel
theorem dX6_from_179 : decode cX6_from 179 = .ok (.iload 6, 2) := by decide +kernel
theorem dX6_from_181 : decode cX6_from 181 = .ok (.iadd, 1) := by decide +kernel
theorem dX6_from_182 : decode cX6_from 182 = .ok (.goto 5, 3) := by decide +kernel
theorem dX6_from_185 : decode cX6_from 185 = .ok (.iload 9, 2) := by decide +kernel
theorem dX6_from_187 : decode cX6_from 187 = .ok (.istore 9, 2) := by decide +kernel
theorem dX6_from_189 : decode cX6_from 189 = .ok (.iinc 8 1, 3) := by decide +kernel
theorem dX6_from_192 : decode cX6_from 192 = .ok (.iinc 11 1, 3) := by decide +kernel
theorem dX6_from_195 : decode cX6_from 195 = .ok (.goto (-56), 3) := by decide +kernel
theorem dX6_from_198 : decode cX6_from 198 = .ok (.iinc 10 1, 3) := by decide +kernel
theorem dX6_from_201 : decode cX6_from 201 = .ok (.goto (-82), 3) := by decide +kernel
theorem dX6_from_204 : decode cX6_from 204 = .ok (.aload_n 0, 1) := by decide +kernel
theorem dX6_from_205 : decode cX6_from 205 = .ok (.iload_n 3, 1) := by decide +kernel
theorem dX6_from_206 : decode cX6_from 206 = .ok (.ifCond .ne 8, 3) := by decide +kernel
theorem dX6_from_209 : decode cX6_from 209 = .ok (.iload 8, 2) := by decide +kernel
theorem dX6_from_211 : decode cX6_from 211 = .ok (.goto 5, 3) := by decide +kernel
theorem dX6_from_214 : decode cX6_from 214 = .ok (.iload 9, 2) := by decide +kernel
theorem dX6_from_216 : decode cX6_from 216 = .ok (.invokevirtual 91, 3) := by decide +kernel
theorem dX6_from_219 : decode cX6_from 219 = .ok (.ireturn, 1) := by decide +kernel
theorem dX6_who_0 : decode cX6_who 0 = .ok (.aload_n 0, 1) := by decide +kernel
theorem dX6_who_1 : decode cX6_who 1 = .ok (.getfield 32, 3) := by decide +kernel
theorem dX6_who_4 : decode cX6_who 4 = .ok (.iload_n 1, 1) := by decide +kernel
theorem dX6_who_5 : decode cX6_who 5 = .ok (.invokevirtual 159, 3) := by decide +kernel
theorem dX6_who_8 : decode cX6_who 8 = .ok (.ifCond .eq 25, 3) := by decide +kernel
theorem dX6_who_11 : decode cX6_who 11 = .ok (.iload_n 2, 1) := by decide +kernel
theorem dX6_who_12 : decode cX6_who 12 = .ok (.bipush 8, 2) := by decide +kernel
theorem dX6_who_14 : decode cX6_who 14 = .ok (.invokestatic 78, 3) := by decide +kernel
theorem dX6_who_17 : decode cX6_who 17 = .ok (.ifCond .eq 16, 3) := by decide +kernel
theorem dX6_who_20 : decode cX6_who 20 = .ok (.iload 4, 2) := by decide +kernel
theorem dX6_who_22 : decode cX6_who 22 = .ok (.iconst 1, 1) := by decide +kernel
theorem dX6_who_23 : decode cX6_who 23 = .ok (.if_icmp .lt 10, 3) := by decide +kernel
theorem dX6_who_26 : decode cX6_who 26 = .ok (.iload 4, 2) := by decide +kernel
theorem dX6_who_28 : decode cX6_who 28 = .ok (.bipush 8, 2) := by decide +kernel
theorem dX6_who_30 : decode cX6_who 30 = .ok (.if_icmp .le 6, 3) := by decide +kernel
theorem dX6_who_33 : decode cX6_who 33 = .ok (.ldc 82, 2) := by decide +kernel
theorem dX6_who_35 : decode cX6_who 35 = .ok (.ireturn, 1) := by decide +kernel
theorem dX6_who_36 : decode cX6_who 36 = .ok (.aload_n 0, 1) := by decide +kernel
theorem dX6_who_37 : decode cX6_who 37 = .ok (.getfield 11, 3) := by decide +kernel
theorem dX6_who_40 : decode cX6_who 40 = .ok (.iload_n 2, 1) := by decide +kernel
theorem dX6_who_41 : decode cX6_who 41 = .ok (.aaload, 1) := by decide +kernel
theorem dX6_who_42 : decode cX6_who 42 = .ok (.astore 5, 2) := by decide +kernel
theorem dX6_who_44 : decode cX6_who 44 = .ok (.aload 5, 2) := by decide +kernel
theorem dX6_who_46 : decode cX6_who 46 = .ok (.iload_n 3, 1) := by decide +kernel
theorem dX6_who_47 : decode cX6_who 47 = .ok (.iconst 2, 1) := by decide +kernel
theorem dX6_who_48 : decode cX6_who 48 = .ok (.iload 4, 2) := by decide +kernel
theorem dX6_who_50 : decode cX6_who 50 = .ok (.imul, 1) := by decide +kernel
theorem dX6_who_51 : decode cX6_who 51 = .ok (.invokevirtual 94, 3) := by decide +kernel
theorem dX6_who_54 : decode cX6_who 54 = .ok (.istore 6, 2) := by decide +kernel
theorem dX6_who_56 : decode cX6_who 56 = .ok (.iload 6, 2) := by decide +kernel
theorem dX6_who_58 : decode cX6_who 58 = .ok (.ifCond .eq 10, 3) := by decide +kernel
theorem dX6_who_61 : decode cX6_who 61 = .ok (.aload_n 0, 1) := by decide +kernel
theorem dX6_who_62 : decode cX6_who 62 = .ok (.iload 6, 2) := by decide +kernel
theorem dX6_who_64 : decode cX6_who 64 = .ok (.invokevirtual 83, 3) := by decide +kernel
theorem dX6_who_67 : decode cX6_who 67 = .ok (.ireturn, 1) := by decide +kernel
theorem dX6_who_68 : decode cX6_who 68 = .ok (.iconst 0, 1) := by decide +kernel
theorem dX6_who_69 : decode cX6_who 69 = .ok (.istore 7, 2) := by decide +kernel
theorem dX6_who_71 : decode cX6_who 71 = .ok (.iload 7, 2) := by decide +kernel
theorem dX6_who_73 : decode cX6_who 73 = .ok (.iload 4, 2) := by decide +kernel
theorem dX6_who_75 : decode cX6_who 75 = .ok (.if_icmp .ge 30, 3) := by decide +kernel
theorem dX6_who_78 : decode cX6_who 78 = .ok (.aload 5, 2) := by decide +kernel
theorem dX6_who_80 : decode cX6_who 80 = .ok (.getfield 98, 3) := by decide +kernel
theorem dX6_who_83 : decode cX6_who 83 = .ok (.iload_n 3, 1) := by decide +kernel
theorem dX6_who_84 : decode cX6_who 84 = .ok (.iconst 2, 1) := by decide +kernel
theorem dX6_who_85 : decode cX6_who 85 = .ok (.iload 7, 2) := by decide +kernel
theorem dX6_who_87 : decode cX6_who 87 = .ok (.imul, 1) := by decide +kernel
theorem dX6_who_88 : decode cX6_who 88 = .ok (.iadd, 1) := by decide +kernel
theorem dX6_who_89 : decode cX6_who 89 = .ok (.iaload, 1) := by decide +kernel
theorem dX6_who_90 : decode cX6_who 90 = .ok (.invokestatic 162, 3) := by decide +kernel
theorem dX6_who_93 : decode cX6_who 93 = .ok (.ifCond .ne 6, 3) := by decide +kernel
theorem dX6_who_96 : decode cX6_who 96 = .ok (.ldc 82, 2) := by decide +kernel
theorem dX6_who_98 : decode cX6_who 98 = .ok (.ireturn, 1) := by decide +kernel
theorem dX6_who_99 : decode cX6_who 99 = .ok (.iinc 7 1, 3) := by decide +kernel
theorem dX6_who_102 : decode cX6_who 102 = .ok (.goto (-31), 3) := by decide +kernel
theorem dX6_who_105 : decode cX6_who 105 = .ok (.iconst 0, 1) := by decide +kernel
theorem dX6_who_106 : decode cX6_who 106 = .ok (.istore 7, 2) := by decide +kernel
theorem dX6_who_108 : decode cX6_who 108 = .ok (.iconst 1, 1) := by decide +kernel
theorem dX6_who_109 : decode cX6_who 109 = .ok (.istore 8, 2) := by decide +kernel
theorem dX6_who_111 : decode cX6_who 111 = .ok (.iload 8, 2) := by decide +kernel
theorem dX6_who_113 : decode cX6_who 113 = .ok (.bipush 6, 2) := by decide +kernel
theorem dX6_who_115 : decode cX6_who 115 = .ok (.if_icmp .ge 44, 3) := by decide +kernel
theorem dX6_who_118 : decode cX6_who 118 = .ok (.aload_n 0, 1) := by decide +kernel
theorem dX6_who_119 : decode cX6_who 119 = .ok (.iload 8, 2) := by decide +kernel
theorem dX6_who_121 : decode cX6_who 121 = .ok (.aload_n 0, 1) := by decide +kernel
theorem dX6_who_122 : decode cX6_who 122 = .ok (.getfield 32, 3) := by decide +kernel
theorem dX6_who_125 : decode cX6_who 125 = .ok (.getfield 214, 3) := by decide +kernel
theorem dX6_who_128 : decode cX6_who 128 = .ok (.iload_n 1, 1) := by decide +kernel
theorem dX6_who_129 : decode cX6_who 129 = .ok (.iaload, 1) := by decide +kernel
theorem dX6_who_130 : decode cX6_who 130 = .ok (.aload 5, 2) := by decide +kernel
theorem dX6_who_132 : decode cX6_who 132 = .ok (.getfield 98, 3) := by decide +kernel
theorem dX6_who_135 : decode cX6_who 135 = .ok (.iload_n 3, 1) := by decide +kernel
theorem dX6_who_136 : decode cX6_who 136 = .ok (.iload 4, 2) := by decide +kernel
theorem dX6_who_138 : decode cX6_who 138 = .ok (.invokevirtual 268, 3) := by decide +kernel
theorem dX6_who_141 : decode cX6_who 141 = .ok (.ifCond .eq 12, 3) := by decide +kernel
theorem dX6_who_144 : decode cX6_who 144 = .ok (.iload 7, 2) := by decide +kernel
theorem dX6_who_146 : decode cX6_who 146 = .ok (.iconst 1, 1) := by decide +kernel
theorem dX6_who_147 : decode cX6_who 147 = .ok (.iload 8, 2) := by decide +kernel
theorem dX6_who_149 : decode cX6_who 149 = .ok (.ishl, 1) := by decide +kernel
theorem dX6_who_150 : decode cX6_who 150 = .ok (.ior, 1) := by decide +kernel
theorem dX6_who_151 : decode cX6_who 151 = .ok (.istore 7, 2) := by decide +kernel
theorem dX6_who_153 : decode cX6_who 153 = .ok (.iinc 8 1, 3) := by decide +kernel
theorem dX6_who_156 : decode cX6_who 156 = .ok (.goto (-45), 3) := by decide +kernel
theorem dX6_who_159 : decode cX6_who 159 = .ok (.aload_n 0, 1) := by decide +kernel
theorem dX6_who_160 : decode cX6_who 160 = .ok (.iload 7, 2) := by decide +kernel
theorem dX6_who_162 : decode cX6_who 162 = .ok (.invokevirtual 91, 3) := by decide +kernel
theorem dX6_who_165 : decode cX6_who 165 = .ok (.ireturn, 1) := by decide +kernel
theorem dX6_layer_0 : decode cX6_layer 0 = .ok (.aload_n 0, 1) := by decide +kernel
theorem dX6_layer_1 : decode cX6_layer 1 = .ok (.getfield 32, 3) := by decide +kernel
theorem dX6_layer_4 : decode cX6_layer 4 = .ok (.iload_n 1, 1) := by decide +kernel
theorem dX6_layer_5 : decode cX6_layer 5 = .ok (.invokevirtual 165, 3) := by decide +kernel
theorem dX6_layer_8 : decode cX6_layer 8 = .ok (.ifCond .eq 15, 3) := by decide +kernel
theorem dX6_layer_11 : decode cX6_layer 11 = .ok (.aload_n 0, 1) := by decide +kernel
theorem dX6_layer_12 : decode cX6_layer 12 = .ok (.getfield 32, 3) := by decide +kernel
theorem dX6_layer_15 : decode cX6_layer 15 = .ok (.getfield 272, 3) := by decide +kernel
theorem dX6_layer_18 : decode cX6_layer 18 = .ok (.iload_n 1, 1) := by decide +kernel
theorem dX6_layer_19 : decode cX6_layer 19 = .ok (.iaload, 1) := by decide +kernel
theorem dX6_layer_20 : decode cX6_layer 20 = .ok (.goto 5, 3) := by decide +kernel
theorem dX6_layer_23 : decode cX6_layer 23 = .ok (.ldc 82, 2) := by decide +kernel
theorem dX6_layer_25 : decode cX6_layer 25 = .ok (.ireturn, 1) := by decide +kernel
theorem dX6_longest_0 : decode cX6_longest 0 = .ok (.aload_n 0, 1) := by decide +kernel
theorem dX6_longest_1 : decode cX6_longest 1 = .ok (.getfield 32, 3) := by decide +kernel
theorem dX6_longest_4 : decode cX6_longest 4 = .ok (.iload_n 1, 1) := by decide +kernel
theorem dX6_longest_5 : decode cX6_longest 5 = .ok (.invokevirtual 159, 3) := by decide +kernel
theorem dX6_longest_8 : decode cX6_longest 8 = .ok (.ifCond .eq 11, 3) := by decide +kernel
theorem dX6_longest_11 : decode cX6_longest 11 = .ok (.iload_n 2, 1) := by decide +kernel
theorem dX6_longest_12 : decode cX6_longest 12 = .ok (.iconst 2, 1) := by decide +kernel
theorem dX6_longest_13 : decode cX6_longest 13 = .ok (.invokestatic 78, 3) := by decide +kernel
theorem dX6_longest_16 : decode cX6_longest 16 = .ok (.ifCond .ne 6, 3) := by decide +kernel
theorem dX6_longest_19 : decode cX6_longest 19 = .ok (.ldc 82, 2) := by decide +kernel
theorem dX6_longest_21 : decode cX6_longest 21 = .ok (.ireturn, 1) := by decide +kernel
theorem dX6_longest_22 : decode cX6_longest 22 = .ok (.iconst 0, 1) := by decide +kernel
theorem dX6_longest_23 : decode cX6_longest 23 = .ok (.istore_n 3, 1) := by decide +kernel
theorem dX6_longest_24 : decode cX6_longest 24 = .ok (.iconst 0, 1) := by decide +kernel
theorem dX6_longest_25 : decode cX6_longest 25 = .ok (.istore 4, 2) := by decide +kernel
theorem dX6_longest_27 : decode cX6_longest 27 = .ok (.iconst 0, 1) := by decide +kernel
theorem dX6_longest_28 : decode cX6_longest 28 = .ok (.istore 5, 2) := by decide +kernel
theorem dX6_longest_30 : decode cX6_longest 30 = .ok (.iload 5, 2) := by decide +kernel
theorem dX6_longest_32 : decode cX6_longest 32 = .ok (.aload_n 0, 1) := by decide +kernel
theorem dX6_longest_33 : decode cX6_longest 33 = .ok (.getfield 32, 3) := by decide +kernel
theorem dX6_longest_36 : decode cX6_longest 36 = .ok (.getfield 152, 3) := by decide +kernel
theorem dX6_longest_39 : decode cX6_longest 39 = .ok (.if_icmp .ge 39, 3) := by decide +kernel
theorem dX6_longest_42 : decode cX6_longest 42 = .ok (.aload_n 0, 1) := by decide +kernel
theorem dX6_longest_43 : decode cX6_longest 43 = .ok (.iload_n 1, 1) := by decide +kernel
theorem dX6_longest_44 : decode cX6_longest 44 = .ok (.aload_n 0, 1) := by decide +kernel
theorem dX6_longest_45 : decode cX6_longest 45 = .ok (.getfield 39, 3) := by decide +kernel
theorem dX6_longest_48 : decode cX6_longest 48 = .ok (.getfield 175, 3) := by decide +kernel
theorem dX6_longest_51 : decode cX6_longest 51 = .ok (.iload 5, 2) := by decide +kernel
theorem dX6_longest_53 : decode cX6_longest 53 = .ok (.iaload, 1) := by decide +kernel
theorem dX6_longest_54 : decode cX6_longest 54 = .ok (.invokevirtual 275, 3) := by decide +kernel
theorem dX6_longest_57 : decode cX6_longest 57 = .ok (.istore 6, 2) := by decide +kernel
theorem dX6_longest_59 : decode cX6_longest 59 = .ok (.iload 6, 2) := by decide +kernel
theorem dX6_longest_61 : decode cX6_longest 61 = .ok (.iload_n 3, 1) := by decide +kernel
theorem dX6_longest_62 : decode cX6_longest 62 = .ok (.if_icmp .le 10, 3) := by decide +kernel
theorem dX6_longest_65 : decode cX6_longest 65 = .ok (.iload 6, 2) := by decide +kernel
theorem dX6_longest_67 : decode cX6_longest 67 = .ok (.istore_n 3, 1) := by decide +kernel
theorem dX6_longest_68 : decode cX6_longest 68 = .ok (.iload 5, 2) := by decide +kernel
theorem dX6_longest_70 : decode cX6_longest 70 = .ok (.istore 4, 2) := by decide +kernel
theorem dX6_longest_72 : decode cX6_longest 72 = .ok (.iinc 5 1, 3) := by decide +kernel
theorem dX6_longest_75 : decode cX6_longest 75 = .ok (.goto (-45), 3) := by decide +kernel
theorem dX6_longest_78 : decode cX6_longest 78 = .ok (.iload_n 2, 1) := by decide +kernel
theorem dX6_longest_79 : decode cX6_longest 79 = .ok (.ifCond .ne 7, 3) := by decide +kernel
theorem dX6_longest_82 : decode cX6_longest 82 = .ok (.iload_n 3, 1) := by decide +kernel
theorem dX6_longest_83 : decode cX6_longest 83 = .ok (.goto 5, 3) := by decide +kernel
theorem dX6_longest_86 : decode cX6_longest 86 = .ok (.iload 4, 2) := by decide +kernel
theorem dX6_longest_88 : decode cX6_longest 88 = .ok (.ireturn, 1) := by decide +kernel
theorem dX6_rains_0 : decode cX6_rains 0 = .ok (.aload_n 0, 1) := by decide +kernel
theorem dX6_rains_1 : decode cX6_rains 1 = .ok (.getfield 32, 3) := by decide +kernel
theorem dX6_rains_4 : decode cX6_rains 4 = .ok (.iload_n 1, 1) := by decide +kernel
theorem dX6_rains_5 : decode cX6_rains 5 = .ok (.invokevirtual 165, 3) := by decide +kernel
theorem dX6_rains_8 : decode cX6_rains 8 = .ok (.ifCond .eq 21, 3) := by decide +kernel
theorem dX6_rains_11 : decode cX6_rains 11 = .ok (.iload_n 2, 1) := by decide +kernel
theorem dX6_rains_12 : decode cX6_rains 12 = .ok (.ifCond .lt 17, 3) := by decide +kernel
theorem dX6_rains_15 : decode cX6_rains 15 = .ok (.iload_n 2, 1) := by decide +kernel
theorem dX6_rains_16 : decode cX6_rains 16 = .ok (.bipush 10, 2) := by decide +kernel
theorem dX6_rains_18 : decode cX6_rains 18 = .ok (.if_icmp .gt 11, 3) := by decide +kernel
theorem dX6_rains_21 : decode cX6_rains 21 = .ok (.iload_n 3, 1) := by decide +kernel
theorem dX6_rains_22 : decode cX6_rains 22 = .ok (.iconst 2, 1) := by decide +kernel
theorem dX6_rains_23 : decode cX6_rains 23 = .ok (.invokestatic 78, 3) := by decide +kernel
theorem dX6_rains_26 : decode cX6_rains 26 = .ok (.ifCond .ne 7, 3) := by decide +kernel
theorem dX6_rains_29 : decode cX6_rains 29 = .ok (.ldc2_w 278, 3) := by decide +kernel
theorem dX6_rains_32 : decode cX6_rains 32 = .ok (.lreturn, 1) := by decide +kernel
theorem dX6_rains_33 : decode cX6_rains 33 = .ok (.aload_n 0, 1) := by decide +kernel
theorem dX6_rains_34 : decode cX6_rains 34 = .ok (.getfield 39, 3) := by decide +kernel
theorem dX6_rains_37 : decode cX6_rains 37 = .ok (.invokevirtual 217, 3) := by decide +kernel
theorem dX6_rains_40 : decode cX6_rains 40 = .ok (.istore 4, 2) := by decide +kernel
theorem dX6_rains_42 : decode cX6_rains 42 = .ok (.lconst 0, 1) := by decide +kernel
theorem dX6_rains_43 : decode cX6_rains 43 = .ok (.lstore 5, 2) := by decide +kernel
theorem dX6_rains_45 : decode cX6_rains 45 = .ok (.iconst 0, 1) := by decide +kernel
theorem dX6_rains_46 : decode cX6_rains 46 = .ok (.istore 7, 2) := by decide +kernel
theorem dX6_rains_48 : decode cX6_rains 48 = .ok (.iload 7, 2) := by decide +kernel
theorem dX6_rains_50 : decode cX6_rains 50 = .ok (.iconst 1, 1) := by decide +kernel
theorem dX6_rains_51 : decode cX6_rains 51 = .ok (.aload_n 0, 1) := by decide +kernel
theorem dX6_rains_52 : decode cX6_rains 52 = .ok (.getfield 32, 3) := by decide +kernel
theorem dX6_rains_55 : decode cX6_rains 55 = .ok (.getfield 152, 3) := by decide +kernel
theorem dX6_rains_58 : decode cX6_rains 58 = .ok (.ishl, 1) := by decide +kernel
theorem dX6_rains_59 : decode cX6_rains 59 = .ok (.if_icmp .ge 69, 3) := by decide +kernel
theorem dX6_rains_62 : decode cX6_rains 62 = .ok (.aload_n 0, 1) := by decide +kernel
theorem dX6_rains_63 : decode cX6_rains 63 = .ok (.getfield 32, 3) := by decide +kernel
theorem dX6_rains_66 : decode cX6_rains 66 = .ok (.iload 4, 2) := by decide +kernel
theorem dX6_rains_68 : decode cX6_rains 68 = .ok (.iload 7, 2) := by decide +kernel
theorem dX6_rains_70 : decode cX6_rains 70 = .ok (.iconst (-1), 1) := by decide +kernel
theorem dX6_rains_71 : decode cX6_rains 71 = .ok (.ixor, 1) := by decide +kernel
theorem dX6_rains_72 : decode cX6_rains 72 = .ok (.iand, 1) := by decide +kernel
theorem dX6_rains_73 : decode cX6_rains 73 = .ok (.invokevirtual 232, 3) := by decide +kernel
theorem dX6_rains_76 : decode cX6_rains 76 = .ok (.iload_n 1, 1) := by decide +kernel
theorem dX6_rains_77 : decode cX6_rains 77 = .ok (.ishr, 1) := by decide +kernel
theorem dX6_rains_78 : decode cX6_rains 78 = .ok (.iconst 1, 1) := by decide +kernel
theorem dX6_rains_79 : decode cX6_rains 79 = .ok (.iand, 1) := by decide +kernel
theorem dX6_rains_80 : decode cX6_rains 80 = .ok (.iconst 1, 1) := by decide +kernel
theorem dX6_rains_81 : decode cX6_rains 81 = .ok (.if_icmp .ne 41, 3) := by decide +kernel
theorem dX6_rains_84 : decode cX6_rains 84 = .ok (.iload 7, 2) := by decide +kernel
theorem dX6_rains_86 : decode cX6_rains 86 = .ok (.invokestatic 236, 3) := by decide +kernel
theorem dX6_rains_89 : decode cX6_rains 89 = .ok (.istore 8, 2) := by decide +kernel
theorem dX6_rains_91 : decode cX6_rains 91 = .ok (.lload 5, 2) := by decide +kernel
theorem dX6_rains_93 : decode cX6_rains 93 = .ok (.iload_n 2, 1) := by decide +kernel
theorem dX6_rains_94 : decode cX6_rains 94 = .ok (.i2l, 1) := by decide +kernel
theorem dX6_rains_95 : decode cX6_rains 95 = .ok (.iload 8, 2) := by decide +kernel
theorem dX6_rains_97 : decode cX6_rains 97 = .ok (.invokestatic 280, 3) := by decide +kernel
theorem dX6_rains_100 : decode cX6_rains 100 = .ok (.bipush 10, 2) := by decide +kernel
theorem dX6_rains_102 : decode cX6_rains 102 = .ok (.iload_n 2, 1) := by decide +kernel
theorem dX6_rains_103 : decode cX6_rains 103 = .ok (.isub, 1) := by decide +kernel
theorem dX6_rains_104 : decode cX6_rains 104 = .ok (.i2l, 1) := by decide +kernel
theorem dX6_rains_105 : decode cX6_rains 105 = .ok (.aload_n 0, 1) := by decide +kernel
theorem dX6_rains_106 : decode cX6_rains 106 = .ok (.getfield 32, 3) := by decide +kernel
theorem dX6_rains_109 : decode cX6_rains 109 = .ok (.getfield 152, 3) := by decide +kernel
theorem dX6_rains_112 : decode cX6_rains 112 = .ok (.iload 8, 2) := by decide +kernel
theorem dX6_rains_114 : decode cX6_rains 114 = .ok (.isub, 1) := by decide +kernel
theorem dX6_rains_115 : decode cX6_rains 115 = .ok (.invokestatic 280, 3) := by decide +kernel
theorem dX6_rains_118 : decode cX6_rains 118 = .ok (.lmul, 1) := by decide +kernel
theorem dX6_rains_119 : decode cX6_rains 119 = .ok (.ladd, 1) := by decide +kernel
theorem dX6_rains_120 : decode cX6_rains 120 = .ok (.lstore 5, 2) := by decide +kernel
theorem dX6_rains_122 : decode cX6_rains 122 = .ok (.iinc 7 1, 3) := by decide +kernel
theorem dX6_rains_125 : decode cX6_rains 125 = .ok (.goto (-77), 3) := by decide +kernel
theorem dX6_rains_128 : decode cX6_rains 128 = .ok (.lload 5, 2) := by decide +kernel
theorem dX6_rains_130 : decode cX6_rains 130 = .ok (.ldc2_w 284, 3) := by decide +kernel
theorem dX6_rains_133 : decode cX6_rains 133 = .ok (.aload_n 0, 1) := by decide +kernel
theorem dX6_rains_134 : decode cX6_rains 134 = .ok (.getfield 32, 3) := by decide +kernel
theorem dX6_rains_137 : decode cX6_rains 137 = .ok (.getfield 152, 3) := by decide +kernel
theorem dX6_rains_140 : decode cX6_rains 140 = .ok (.invokestatic 280, 3) := by decide +kernel
theorem dX6_rains_143 : decode cX6_rains 143 = .ok (.iload_n 3, 1) := by decide +kernel
theorem dX6_rains_144 : decode cX6_rains 144 = .ok (.invokestatic 286, 3) := by decide +kernel
theorem dX6_rains_147 : decode cX6_rains 147 = .ok (.lreturn, 1) := by decide +kernel
theorem dX6_share_0 : decode cX6_share 0 = .ok (.aload_n 0, 1) := by decide +kernel
theorem dX6_share_1 : decode cX6_share 1 = .ok (.getfield 32, 3) := by decide +kernel
theorem dX6_share_4 : decode cX6_share 4 = .ok (.iload_n 1, 1) := by decide +kernel
theorem dX6_share_5 : decode cX6_share 5 = .ok (.invokevirtual 159, 3) := by decide +kernel
theorem dX6_share_8 : decode cX6_share 8 = .ok (.ifCond .eq 11, 3) := by decide +kernel
theorem dX6_share_11 : decode cX6_share 11 = .ok (.iload_n 2, 1) := by decide +kernel
theorem dX6_share_12 : decode cX6_share 12 = .ok (.iconst 2, 1) := by decide +kernel
theorem dX6_share_13 : decode cX6_share 13 = .ok (.invokestatic 78, 3) := by decide +kernel
theorem dX6_share_16 : decode cX6_share 16 = .ok (.ifCond .ne 6, 3) := by decide +kernel
theorem dX6_share_19 : decode cX6_share 19 = .ok (.ldc 82, 2) := by decide +kernel
theorem dX6_share_21 : decode cX6_share 21 = .ok (.ireturn, 1) := by decide +kernel
theorem dX6_share_22 : decode cX6_share 22 = .ok (.aload_n 0, 1) := by decide +kernel
theorem dX6_share_23 : decode cX6_share 23 = .ok (.getfield 39, 3) := by decide +kernel
theorem dX6_share_26 : decode cX6_share 26 = .ok (.getfield 184, 3) := by decide +kernel
theorem dX6_share_29 : decode cX6_share 29 = .ok (.iload_n 1, 1) := by decide +kernel
theorem dX6_share_30 : decode cX6_share 30 = .ok (.iaload, 1) := by decide +kernel
theorem dX6_share_31 : decode cX6_share 31 = .ok (.i2l, 1) := by decide +kernel
theorem dX6_share_32 : decode cX6_share 32 = .ok (.aload_n 0, 1) := by decide +kernel
theorem dX6_share_33 : decode cX6_share 33 = .ok (.getfield 39, 3) := by decide +kernel
theorem dX6_share_36 : decode cX6_share 36 = .ok (.invokevirtual 223, 3) := by decide +kernel
theorem dX6_share_39 : decode cX6_share 39 = .ok (.i2l, 1) := by decide +kernel
theorem dX6_share_40 : decode cX6_share 40 = .ok (.iload_n 2, 1) := by decide +kernel
theorem dX6_share_41 : decode cX6_share 41 = .ok (.invokestatic 286, 3) := by decide +kernel
theorem dX6_share_44 : decode cX6_share 44 = .ok (.l2i, 1) := by decide +kernel
theorem dX6_share_45 : decode cX6_share 45 = .ok (.ireturn, 1) := by decide +kernel
theorem dX6_drawn_0 : decode cX6_drawn 0 = .ok (.aload_n 0, 1) := by decide +kernel
theorem dX6_drawn_1 : decode cX6_drawn 1 = .ok (.invokevirtual 198, 3) := by decide +kernel
theorem dX6_drawn_4 : decode cX6_drawn 4 = .ok (.ifCond .ne 6, 3) := by decide +kernel
theorem dX6_drawn_7 : decode cX6_drawn 7 = .ok (.ldc 155, 2) := by decide +kernel
theorem dX6_drawn_9 : decode cX6_drawn 9 = .ok (.ireturn, 1) := by decide +kernel
theorem dX6_drawn_10 : decode cX6_drawn 10 = .ok (.iload_n 1, 1) := by decide +kernel
theorem dX6_drawn_11 : decode cX6_drawn 11 = .ok (.ifCond .lt 29, 3) := by decide +kernel
theorem dX6_drawn_14 : decode cX6_drawn 14 = .ok (.iload_n 1, 1) := by decide +kernel
theorem dX6_drawn_15 : decode cX6_drawn 15 = .ok (.bipush 60, 2) := by decide +kernel
theorem dX6_drawn_17 : decode cX6_drawn 17 = .ok (.if_icmp .gt 23, 3) := by decide +kernel
theorem dX6_drawn_20 : decode cX6_drawn 20 = .ok (.iload_n 2, 1) := by decide +kernel
theorem dX6_drawn_21 : decode cX6_drawn 21 = .ok (.iconst 1, 1) := by decide +kernel
theorem dX6_drawn_22 : decode cX6_drawn 22 = .ok (.if_icmp .lt 18, 3) := by decide +kernel
theorem dX6_drawn_25 : decode cX6_drawn 25 = .ok (.iload_n 2, 1) := by decide +kernel
theorem dX6_drawn_26 : decode cX6_drawn 26 = .ok (.ldc_w 290, 3) := by decide +kernel
theorem dX6_drawn_29 : decode cX6_drawn 29 = .ok (.if_icmp .gt 11, 3) := by decide +kernel
theorem dX6_drawn_32 : decode cX6_drawn 32 = .ok (.iload_n 3, 1) := by decide +kernel
theorem dX6_drawn_33 : decode cX6_drawn 33 = .ok (.iconst 2, 1) := by decide +kernel
theorem dX6_drawn_34 : decode cX6_drawn 34 = .ok (.invokestatic 78, 3) := by decide +kernel
theorem dX6_drawn_37 : decode cX6_drawn 37 = .ok (.ifCond .ne 6, 3) := by decide +kernel
theorem dX6_drawn_40 : decode cX6_drawn 40 = .ok (.ldc 82, 2) := by decide +kernel
theorem dX6_drawn_42 : decode cX6_drawn 42 = .ok (.ireturn, 1) := by decide +kernel
theorem dX6_drawn_43 : decode cX6_drawn 43 = .ok (.aload_n 0, 1) := by decide +kernel
theorem dX6_drawn_44 : decode cX6_drawn 44 = .ok (.getfield 60, 3) := by decide +kernel
theorem dX6_drawn_47 : decode cX6_drawn 47 = .ok (.aload_n 0, 1) := by decide +kernel
theorem dX6_drawn_48 : decode cX6_drawn 48 = .ok (.getfield 39, 3) := by decide +kernel
theorem dX6_drawn_51 : decode cX6_drawn 51 = .ok (.invokevirtual 156, 3) := by decide +kernel
theorem dX6_drawn_54 : decode cX6_drawn 54 = .ok (.aload_n 0, 1) := by decide +kernel
theorem dX6_drawn_55 : decode cX6_drawn 55 = .ok (.getfield 60, 3) := by decide +kernel
theorem dX6_drawn_58 : decode cX6_drawn 58 = .ok (.iconst 0, 1) := by decide +kernel
theorem dX6_drawn_59 : decode cX6_drawn 59 = .ok (.putfield 187, 3) := by decide +kernel
theorem dX6_drawn_62 : decode cX6_drawn 62 = .ok (.iload_n 2, 1) := by decide +kernel
theorem dX6_drawn_63 : decode cX6_drawn 63 = .ok (.i2l, 1) := by decide +kernel
theorem dX6_drawn_64 : decode cX6_drawn 64 = .ok (.lstore 4, 2) := by decide +kernel
theorem dX6_drawn_66 : decode cX6_drawn 66 = .ok (.iconst 0, 1) := by decide +kernel
theorem dX6_drawn_67 : decode cX6_drawn 67 = .ok (.istore 6, 2) := by decide +kernel
theorem dX6_drawn_69 : decode cX6_drawn 69 = .ok (.iload 6, 2) := by decide +kernel
theorem dX6_drawn_71 : decode cX6_drawn 71 = .ok (.iload_n 1, 1) := by decide +kernel
theorem dX6_drawn_72 : decode cX6_drawn 72 = .ok (.if_icmp .ge 62, 3) := by decide +kernel
theorem dX6_drawn_75 : decode cX6_drawn 75 = .ok (.lload 4, 2) := by decide +kernel
theorem dX6_drawn_77 : decode cX6_drawn 77 = .ok (.ldc2_w 291, 3) := by decide +kernel
theorem dX6_drawn_80 : decode cX6_drawn 80 = .ok (.lmul, 1) := by decide +kernel
theorem dX6_drawn_81 : decode cX6_drawn 81 = .ok (.ldc2_w 293, 3) := by decide +kernel
theorem dX6_drawn_84 : decode cX6_drawn 84 = .ok (.lrem, 1) := by decide +kernel
theorem dX6_drawn_85 : decode cX6_drawn 85 = .ok (.lstore 4, 2) := by decide +kernel
theorem dX6_drawn_87 : decode cX6_drawn 87 = .ok (.aload_n 0, 1) := by decide +kernel
theorem dX6_drawn_88 : decode cX6_drawn 88 = .ok (.lload 4, 2) := by decide +kernel
theorem dX6_drawn_90 : decode cX6_drawn 90 = .ok (.invokevirtual 295, 3) := by decide +kernel
theorem dX6_drawn_93 : decode cX6_drawn 93 = .ok (.lload 4, 2) := by decide +kernel
theorem dX6_drawn_95 : decode cX6_drawn 95 = .ok (.ldc2_w 299, 3) := by decide +kernel
theorem dX6_drawn_98 : decode cX6_drawn 98 = .ok (.lrem, 1) := by decide +kernel
theorem dX6_drawn_99 : decode cX6_drawn 99 = .ok (.lconst 0, 1) := by decide +kernel
theorem dX6_drawn_100 : decode cX6_drawn 100 = .ok (.lcmp, 1) := by decide +kernel
theorem dX6_drawn_101 : decode cX6_drawn 101 = .ok (.ifCond .ne 14, 3) := by decide +kernel
theorem dX6_drawn_104 : decode cX6_drawn 104 = .ok (.aload_n 0, 1) := by decide +kernel
theorem dX6_drawn_105 : decode cX6_drawn 105 = .ok (.getfield 32, 3) := by decide +kernel
theorem dX6_drawn_108 : decode cX6_drawn 108 = .ok (.aload_n 0, 1) := by decide +kernel
theorem dX6_drawn_109 : decode cX6_drawn 109 = .ok (.getfield 60, 3) := by decide +kernel
theorem dX6_drawn_112 : decode cX6_drawn 112 = .ok (.invokevirtual 201, 3) := by decide +kernel
theorem dX6_drawn_115 : decode cX6_drawn 115 = .ok (.aload_n 0, 1) := by decide +kernel
theorem dX6_drawn_116 : decode cX6_drawn 116 = .ok (.getfield 60, 3) := by decide +kernel
theorem dX6_drawn_119 : decode cX6_drawn 119 = .ok (.dup, 1) := by decide +kernel
theorem dX6_drawn_120 : decode cX6_drawn 120 = .ok (.getfield 168, 3) := by decide +kernel
theorem dX6_drawn_123 : decode cX6_drawn 123 = .ok (.iconst 1, 1) := by decide +kernel
theorem dX6_drawn_124 : decode cX6_drawn 124 = .ok (.iadd, 1) := by decide +kernel
theorem dX6_drawn_125 : decode cX6_drawn 125 = .ok (.putfield 168, 3) := by decide +kernel
theorem dX6_drawn_128 : decode cX6_drawn 128 = .ok (.iinc 6 1, 3) := by decide +kernel
theorem dX6_drawn_131 : decode cX6_drawn 131 = .ok (.goto (-62), 3) := by decide +kernel
theorem dX6_drawn_134 : decode cX6_drawn 134 = .ok (.iload_n 3, 1) := by decide +kernel
theorem dX6_drawn_135 : decode cX6_drawn 135 = .ok (.ifCond .ne 20, 3) := by decide +kernel
theorem dX6_drawn_138 : decode cX6_drawn 138 = .ok (.aload_n 0, 1) := by decide +kernel
theorem dX6_drawn_139 : decode cX6_drawn 139 = .ok (.getfield 32, 3) := by decide +kernel
theorem dX6_drawn_142 : decode cX6_drawn 142 = .ok (.aload_n 0, 1) := by decide +kernel
theorem dX6_drawn_143 : decode cX6_drawn 143 = .ok (.getfield 60, 3) := by decide +kernel
theorem dX6_drawn_146 : decode cX6_drawn 146 = .ok (.invokevirtual 217, 3) := by decide +kernel
theorem dX6_drawn_149 : decode cX6_drawn 149 = .ok (.invokevirtual 232, 3) := by decide +kernel
theorem dX6_drawn_152 : decode cX6_drawn 152 = .ok (.goto 10, 3) := by decide +kernel
theorem dX6_drawn_155 : decode cX6_drawn 155 = .ok (.aload_n 0, 1) := by decide +kernel
theorem dX6_drawn_156 : decode cX6_drawn 156 = .ok (.getfield 60, 3) := by decide +kernel
theorem dX6_drawn_159 : decode cX6_drawn 159 = .ok (.getfield 187, 3) := by decide +kernel
theorem dX6_drawn_162 : decode cX6_drawn 162 = .ok (.ireturn, 1) := by decide +kernel
theorem dX6_image_0 : decode cX6_image 0 = .ok (.iload_n 1, 1) := by decide +kernel
theorem dX6_image_1 : decode cX6_image 1 = .ok (.iconst 2, 1) := by decide +kernel
theorem dX6_image_2 : decode cX6_image 2 = .ok (.invokestatic 78, 3) := by decide +kernel
theorem dX6_image_5 : decode cX6_image 5 = .ok (.ifCond .ne 6, 3) := by decide +kernel
theorem dX6_image_8 : decode cX6_image 8 = .ok (.ldc 82, 2) := by decide +kernel
theorem dX6_image_10 : decode cX6_image 10 = .ok (.ireturn, 1) := by decide +kernel
theorem dX6_image_11 : decode cX6_image 11 = .ok (.aload_n 0, 1) := by decide +kernel
theorem dX6_image_12 : decode cX6_image 12 = .ok (.invokevirtual 198, 3) := by decide +kernel
theorem dX6_image_15 : decode cX6_image 15 = .ok (.ifCond .ne 6, 3) := by decide +kernel
theorem dX6_image_18 : decode cX6_image 18 = .ok (.ldc 155, 2) := by decide +kernel
theorem dX6_image_20 : decode cX6_image 20 = .ok (.ireturn, 1) := by decide +kernel
theorem dX6_image_21 : decode cX6_image 21 = .ok (.aload_n 0, 1) := by decide +kernel
theorem dX6_image_22 : decode cX6_image 22 = .ok (.getfield 53, 3) := by decide +kernel
theorem dX6_image_25 : decode cX6_image 25 = .ok (.iload_n 1, 1) := by decide +kernel
theorem dX6_image_26 : decode cX6_image 26 = .ok (.aaload, 1) := by decide +kernel
theorem dX6_image_27 : decode cX6_image 27 = .ok (.aload_n 0, 1) := by decide +kernel
theorem dX6_image_28 : decode cX6_image 28 = .ok (.getfield 32, 3) := by decide +kernel
theorem dX6_image_31 : decode cX6_image 31 = .ok (.invokevirtual 146, 3) := by decide +kernel
theorem dX6_image_34 : decode cX6_image 34 = .ok (.aload_n 0, 1) := by decide +kernel
theorem dX6_image_35 : decode cX6_image 35 = .ok (.getfield 57, 3) := by decide +kernel
