theorem dX7_begin_1 : decode cX7_begin 1 = .ok (.iconst (-1), 1) := by decide +kernel
theorem dX7_begin_2 : decode cX7_begin 2 = .ok (.if_icmp .ne 11, 3) := by decide +kernel
theorem dX7_begin_5 : decode cX7_begin 5 = .ok (.aload_n 0, 1) := by decide +kernel
theorem dX7_begin_6 : decode cX7_begin 6 = .ok (.getfield 15, 3) := by decide +kernel
theorem dX7_begin_9 : decode cX7_begin 9 = .ok (.iconst 0, 1) := by decide +kernel
theorem dX7_begin_10 : decode cX7_begin 10 = .ok (.invokestatic 19, 3) := by decide +kernel
theorem dX7_begin_13 : decode cX7_begin 13 = .ok (.return_, 1) := by decide +kernel
theorem dX7_keeps_0 : decode cX7_keeps 0 = .ok (.iconst 1, 1) := by decide +kernel
theorem dX7_keeps_1 : decode cX7_keeps 1 = .ok (.ireturn, 1) := by decide +kernel
theorem dX7_target_0 : decode cX7_target 0 = .ok (.aload_n 0, 1) := by decide +kernel
theorem dX7_target_1 : decode cX7_target 1 = .ok (.getfield 9, 3) := by decide +kernel
theorem dX7_target_4 : decode cX7_target 4 = .ok (.getfield 25, 3) := by decide +kernel
theorem dX7_target_7 : decode cX7_target 7 = .ok (.iload_n 1, 1) := by decide +kernel
theorem dX7_target_8 : decode cX7_target 8 = .ok (.iaload, 1) := by decide +kernel
theorem dX7_target_9 : decode cX7_target 9 = .ok (.ireturn, 1) := by decide +kernel
theorem dX7_left_0 : decode cX7_left 0 = .ok (.aload_n 0, 1) := by decide +kernel
theorem dX7_left_1 : decode cX7_left 1 = .ok (.getfield 9, 3) := by decide +kernel
theorem dX7_left_4 : decode cX7_left 4 = .ok (.getfield 30, 3) := by decide +kernel
theorem dX7_left_7 : decode cX7_left 7 = .ok (.iload_n 1, 1) := by decide +kernel
theorem dX7_left_8 : decode cX7_left 8 = .ok (.iaload, 1) := by decide +kernel
theorem dX7_left_9 : decode cX7_left 9 = .ok (.ireturn, 1) := by decide +kernel
theorem dX7_right_0 : decode cX7_right 0 = .ok (.aload_n 0, 1) := by decide +kernel
theorem dX7_right_1 : decode cX7_right 1 = .ok (.getfield 9, 3) := by decide +kernel
theorem dX7_right_4 : decode cX7_right 4 = .ok (.getfield 33, 3) := by decide +kernel
theorem dX7_right_7 : decode cX7_right 7 = .ok (.iload_n 1, 1) := by decide +kernel
theorem dX7_right_8 : decode cX7_right 8 = .ok (.iaload, 1) := by decide +kernel
theorem dX7_right_9 : decode cX7_right 9 = .ok (.ireturn, 1) := by decide +kernel
theorem dX7_endCell_0 : decode cX7_endCell 0 = .ok (.aload_n 0, 1) := by decide +kernel
theorem dX7_endCell_1 : decode cX7_endCell 1 = .ok (.getfield 9, 3) := by decide +kernel
theorem dX7_endCell_4 : decode cX7_endCell 4 = .ok (.iload_n 1, 1) := by decide +kernel
theorem dX7_endCell_5 : decode cX7_endCell 5 = .ok (.invokevirtual 36, 3) := by decide +kernel
theorem dX7_endCell_8 : decode cX7_endCell 8 = .ok (.ireturn, 1) := by decide +kernel
theorem dX8_init_0 : decode cX8_init 0 = .ok (.aload_n 0, 1) := by decide +kernel
theorem dX8_init_1 : decode cX8_init 1 = .ok (.sipush 261, 3) := by decide +kernel
theorem dX8_init_4 : decode cX8_init 4 = .ok (.invokespecial 3, 3) := by decide +kernel
theorem dX8_init_7 : decode cX8_init 7 = .ok (.aload_n 0, 1) := by decide +kernel
theorem dX8_init_8 : decode cX8_init 8 = .ok (.bipush 10, 2) := by decide +kernel
theorem dX8_init_10 : decode cX8_init 10 = .ok (.newarray .int, 2) := by decide +kernel
theorem dX8_init_12 : decode cX8_init 12 = .ok (.putfield 9, 3) := by decide +kernel
theorem dX8_init_15 : decode cX8_init 15 = .ok (.aload_n 0, 1) := by decide +kernel
theorem dX8_init_16 : decode cX8_init 16 = .ok (.aload_n 1, 1) := by decide +kernel
theorem dX8_init_17 : decode cX8_init 17 = .ok (.putfield 15, 3) := by decide +kernel
theorem dX8_init_20 : decode cX8_init 20 = .ok (.aload_n 0, 1) := by decide +kernel
theorem dX8_init_21 : decode cX8_init 21 = .ok (.aload_n 2, 1) := by decide +kernel
theorem dX8_init_22 : decode cX8_init 22 = .ok (.putfield 19, 3) := by decide +kernel
theorem dX8_init_25 : decode cX8_init 25 = .ok (.aload_n 0, 1) := by decide +kernel
theorem dX8_init_26 : decode cX8_init 26 = .ok (.aload_n 3, 1) := by decide +kernel
theorem dX8_init_27 : decode cX8_init 27 = .ok (.putfield 23, 3) := by decide +kernel
theorem dX8_init_30 : decode cX8_init 30 = .ok (.aload_n 0, 1) := by decide +kernel
theorem dX8_init_31 : decode cX8_init 31 = .ok (.aload 4, 2) := by decide +kernel
theorem dX8_init_33 : decode cX8_init 33 = .ok (.putfield 27, 3) := by decide +kernel
theorem dX8_init_36 : decode cX8_init 36 = .ok (.aload_n 0, 1) := by decide +kernel
theorem dX8_init_37 : decode cX8_init 37 = .ok (.aload 4, 2) := by decide +kernel
theorem dX8_init_39 : decode cX8_init 39 = .ok (.ifnonnull 10, 3) := by decide +kernel
theorem dX8_init_42 : decode cX8_init 42 = .ok (.aload_n 3, 1) := by decide +kernel
theorem dX8_init_43 : decode cX8_init 43 = .ok (.getfield 31, 3) := by decide +kernel
theorem dX8_init_46 : decode cX8_init 46 = .ok (.goto 8, 3) := by decide +kernel
theorem dX8_init_49 : decode cX8_init 49 = .ok (.aload 4, 2) := by decide +kernel
theorem dX8_init_51 : decode cX8_init 51 = .ok (.getfield 37, 3) := by decide +kernel
theorem dX8_init_54 : decode cX8_init 54 = .ok (.putfield 40, 3) := by decide +kernel
theorem dX8_init_57 : decode cX8_init 57 = .ok (.return_, 1) := by decide +kernel
theorem dX8_goes_0 : decode cX8_goes 0 = .ok (.aload_n 0, 1) := by decide +kernel
theorem dX8_goes_1 : decode cX8_goes 1 = .ok (.getfield 27, 3) := by decide +kernel
theorem dX8_goes_4 : decode cX8_goes 4 = .ok (.ifnull 19, 3) := by decide +kernel
theorem dX8_goes_7 : decode cX8_goes 7 = .ok (.aload_n 0, 1) := by decide +kernel
theorem dX8_goes_8 : decode cX8_goes 8 = .ok (.getfield 27, 3) := by decide +kernel
theorem dX8_goes_11 : decode cX8_goes 11 = .ok (.getfield 41, 3) := by decide +kernel
theorem dX8_goes_14 : decode cX8_goes 14 = .ok (.iload_n 1, 1) := by decide +kernel
theorem dX8_goes_15 : decode cX8_goes 15 = .ok (.baload, 1) := by decide +kernel
theorem dX8_goes_16 : decode cX8_goes 16 = .ok (.ifCond .eq 7, 3) := by decide +kernel
theorem dX8_goes_19 : decode cX8_goes 19 = .ok (.iconst 1, 1) := by decide +kernel
theorem dX8_goes_20 : decode cX8_goes 20 = .ok (.goto 4, 3) := by decide +kernel
theorem dX8_goes_23 : decode cX8_goes 23 = .ok (.iconst 0, 1) := by decide +kernel
theorem dX8_goes_24 : decode cX8_goes 24 = .ok (.ireturn, 1) := by decide +kernel
theorem dX8_begin_0 : decode cX8_begin 0 = .ok (.aload_n 0, 1) := by decide +kernel
theorem dX8_begin_1 : decode cX8_begin 1 = .ok (.getfield 23, 3) := by decide +kernel
theorem dX8_begin_4 : decode cX8_begin 4 = .ok (.getfield 45, 3) := by decide +kernel
theorem dX8_begin_7 : decode cX8_begin 7 = .ok (.iload_n 2, 1) := by decide +kernel
theorem dX8_begin_8 : decode cX8_begin 8 = .ok (.iaload, 1) := by decide +kernel
theorem dX8_begin_9 : decode cX8_begin 9 = .ok (.istore_n 3, 1) := by decide +kernel
theorem dX8_begin_10 : decode cX8_begin 10 = .ok (.aload_n 0, 1) := by decide +kernel
theorem dX8_begin_11 : decode cX8_begin 11 = .ok (.getfield 23, 3) := by decide +kernel
theorem dX8_begin_14 : decode cX8_begin 14 = .ok (.getfield 48, 3) := by decide +kernel
theorem dX8_begin_17 : decode cX8_begin 17 = .ok (.iload_n 2, 1) := by decide +kernel
theorem dX8_begin_18 : decode cX8_begin 18 = .ok (.iaload, 1) := by decide +kernel
theorem dX8_begin_19 : decode cX8_begin 19 = .ok (.istore 4, 2) := by decide +kernel
theorem dX8_begin_21 : decode cX8_begin 21 = .ok (.aload_n 0, 1) := by decide +kernel
theorem dX8_begin_22 : decode cX8_begin 22 = .ok (.getfield 19, 3) := by decide +kernel
theorem dX8_begin_25 : decode cX8_begin 25 = .ok (.getfield 51, 3) := by decide +kernel
theorem dX8_begin_28 : decode cX8_begin 28 = .ok (.iload_n 2, 1) := by decide +kernel
theorem dX8_begin_29 : decode cX8_begin 29 = .ok (.iaload, 1) := by decide +kernel
theorem dX8_begin_30 : decode cX8_begin 30 = .ok (.istore 5, 2) := by decide +kernel
theorem dX8_begin_32 : decode cX8_begin 32 = .ok (.iload_n 1, 1) := by decide +kernel
theorem dX8_begin_33 : decode cX8_begin 33 = .ok (.iconst (-1), 1) := by decide +kernel
theorem dX8_begin_34 : decode cX8_begin 34 = .ok (.if_icmp .ne 11, 3) := by decide +kernel
theorem dX8_begin_37 : decode cX8_begin 37 = .ok (.iload 5, 2) := by decide +kernel
theorem dX8_begin_39 : decode cX8_begin 39 = .ok (.invokestatic 56, 3) := by decide +kernel
theorem dX8_begin_42 : decode cX8_begin 42 = .ok (.goto 9, 3) := by decide +kernel
theorem dX8_begin_45 : decode cX8_begin 45 = .ok (.iload 5, 2) := by decide +kernel
theorem dX8_begin_47 : decode cX8_begin 47 = .ok (.iload_n 1, 1) := by decide +kernel
theorem dX8_begin_48 : decode cX8_begin 48 = .ok (.invokestatic 62, 3) := by decide +kernel
theorem dX8_begin_51 : decode cX8_begin 51 = .ok (.istore 6, 2) := by decide +kernel
theorem dX8_begin_53 : decode cX8_begin 53 = .ok (.iconst 0, 1) := by decide +kernel
theorem dX8_begin_54 : decode cX8_begin 54 = .ok (.istore 7, 2) := by decide +kernel
theorem dX8_begin_56 : decode cX8_begin 56 = .ok (.iload 7, 2) := by decide +kernel
theorem dX8_begin_58 : decode cX8_begin 58 = .ok (.iload_n 3, 1) := by decide +kernel
theorem dX8_begin_59 : decode cX8_begin 59 = .ok (.if_icmp .ge 57, 3) := by decide +kernel
theorem dX8_begin_62 : decode cX8_begin 62 = .ok (.aload_n 0, 1) := by decide +kernel
theorem dX8_begin_63 : decode cX8_begin 63 = .ok (.iload 4, 2) := by decide +kernel
theorem dX8_begin_65 : decode cX8_begin 65 = .ok (.iload 7, 2) := by decide +kernel
theorem dX8_begin_67 : decode cX8_begin 67 = .ok (.iadd, 1) := by decide +kernel
theorem dX8_begin_68 : decode cX8_begin 68 = .ok (.invokevirtual 66, 3) := by decide +kernel
theorem dX8_begin_71 : decode cX8_begin 71 = .ok (.ifCond .ne 39, 3) := by decide +kernel
theorem dX8_begin_74 : decode cX8_begin 74 = .ok (.aload_n 0, 1) := by decide +kernel
theorem dX8_begin_75 : decode cX8_begin 75 = .ok (.getfield 9, 3) := by decide +kernel
theorem dX8_begin_78 : decode cX8_begin 78 = .ok (.iload 7, 2) := by decide +kernel
theorem dX8_begin_80 : decode cX8_begin 80 = .ok (.aload_n 0, 1) := by decide +kernel
theorem dX8_begin_81 : decode cX8_begin 81 = .ok (.getfield 70, 3) := by decide +kernel
theorem dX8_begin_84 : decode cX8_begin 84 = .ok (.aload_n 0, 1) := by decide +kernel
theorem dX8_begin_85 : decode cX8_begin 85 = .ok (.getfield 40, 3) := by decide +kernel
theorem dX8_begin_88 : decode cX8_begin 88 = .ok (.getfield 73, 3) := by decide +kernel
theorem dX8_begin_91 : decode cX8_begin 91 = .ok (.aload_n 0, 1) := by decide +kernel
theorem dX8_begin_92 : decode cX8_begin 92 = .ok (.getfield 23, 3) := by decide +kernel
theorem dX8_begin_95 : decode cX8_begin 95 = .ok (.getfield 78, 3) := by decide +kernel
theorem dX8_begin_98 : decode cX8_begin 98 = .ok (.iload 4, 2) := by decide +kernel
theorem dX8_begin_100 : decode cX8_begin 100 = .ok (.iload 7, 2) := by decide +kernel
theorem dX8_begin_102 : decode cX8_begin 102 = .ok (.iadd, 1) := by decide +kernel
theorem dX8_begin_103 : decode cX8_begin 103 = .ok (.iaload, 1) := by decide +kernel
theorem dX8_begin_104 : decode cX8_begin 104 = .ok (.iload 6, 2) := by decide +kernel
theorem dX8_begin_106 : decode cX8_begin 106 = .ok (.iadd, 1) := by decide +kernel
theorem dX8_begin_107 : decode cX8_begin 107 = .ok (.iaload, 1) := by decide +kernel
theorem dX8_begin_108 : decode cX8_begin 108 = .ok (.iaload, 1) := by decide +kernel
theorem dX8_begin_109 : decode cX8_begin 109 = .ok (.iastore, 1) := by decide +kernel
theorem dX8_begin_110 : decode cX8_begin 110 = .ok (.iinc 7 1, 3) := by decide +kernel
theorem dX8_begin_113 : decode cX8_begin 113 = .ok (.goto (-57), 3) := by decide +kernel
theorem dX8_begin_116 : decode cX8_begin 116 = .ok (.iconst 0, 1) := by decide +kernel
theorem dX8_begin_117 : decode cX8_begin 117 = .ok (.istore 7, 2) := by decide +kernel
theorem dX8_begin_119 : decode cX8_begin 119 = .ok (.iload 7, 2) := by decide +kernel
theorem dX8_begin_121 : decode cX8_begin 121 = .ok (.iload_n 3, 1) := by decide +kernel
theorem dX8_begin_122 : decode cX8_begin 122 = .ok (.if_icmp .ge 38, 3) := by decide +kernel
theorem dX8_begin_125 : decode cX8_begin 125 = .ok (.aload_n 0, 1) := by decide +kernel
theorem dX8_begin_126 : decode cX8_begin 126 = .ok (.iload 4, 2) := by decide +kernel
theorem dX8_begin_128 : decode cX8_begin 128 = .ok (.iload 7, 2) := by decide +kernel
theorem dX8_begin_130 : decode cX8_begin 130 = .ok (.iadd, 1) := by decide +kernel
theorem dX8_begin_131 : decode cX8_begin 131 = .ok (.invokevirtual 66, 3) := by decide +kernel
theorem dX8_begin_134 : decode cX8_begin 134 = .ok (.ifCond .ne 20, 3) := by decide +kernel
theorem dX8_begin_137 : decode cX8_begin 137 = .ok (.aload_n 0, 1) := by decide +kernel
theorem dX8_begin_138 : decode cX8_begin 138 = .ok (.getfield 70, 3) := by decide +kernel
theorem dX8_begin_141 : decode cX8_begin 141 = .ok (.iload 4, 2) := by decide +kernel
theorem dX8_begin_143 : decode cX8_begin 143 = .ok (.iload 7, 2) := by decide +kernel
theorem dX8_begin_145 : decode cX8_begin 145 = .ok (.iadd, 1) := by decide +kernel
theorem dX8_begin_146 : decode cX8_begin 146 = .ok (.aload_n 0, 1) := by decide +kernel
theorem dX8_begin_147 : decode cX8_begin 147 = .ok (.getfield 9, 3) := by decide +kernel
theorem dX8_begin_150 : decode cX8_begin 150 = .ok (.iload 7, 2) := by decide +kernel
theorem dX8_begin_152 : decode cX8_begin 152 = .ok (.iaload, 1) := by decide +kernel
theorem dX8_begin_153 : decode cX8_begin 153 = .ok (.iastore, 1) := by decide +kernel
theorem dX8_begin_154 : decode cX8_begin 154 = .ok (.iinc 7 1, 3) := by decide +kernel
theorem dX8_begin_157 : decode cX8_begin 157 = .ok (.goto (-38), 3) := by decide +kernel
theorem dX8_begin_160 : decode cX8_begin 160 = .ok (.return_, 1) := by decide +kernel
theorem dX8_keeps_0 : decode cX8_keeps 0 = .ok (.aload_n 0, 1) := by decide +kernel
theorem dX8_keeps_1 : decode cX8_keeps 1 = .ok (.getfield 23, 3) := by decide +kernel
theorem dX8_keeps_4 : decode cX8_keeps 4 = .ok (.getfield 81, 3) := by decide +kernel
theorem dX8_keeps_7 : decode cX8_keeps 7 = .ok (.iload_n 1, 1) := by decide +kernel
theorem dX8_keeps_8 : decode cX8_keeps 8 = .ok (.iaload, 1) := by decide +kernel
theorem dX8_keeps_9 : decode cX8_keeps 9 = .ok (.istore_n 2, 1) := by decide +kernel
theorem dX8_keeps_10 : decode cX8_keeps 10 = .ok (.iload_n 2, 1) := by decide +kernel
theorem dX8_keeps_11 : decode cX8_keeps 11 = .ok (.iconst (-1), 1) := by decide +kernel
theorem dX8_keeps_12 : decode cX8_keeps 12 = .ok (.if_icmp .ne 25, 3) := by decide +kernel
theorem dX8_keeps_15 : decode cX8_keeps 15 = .ok (.aload_n 0, 1) := by decide +kernel
theorem dX8_keeps_16 : decode cX8_keeps 16 = .ok (.getfield 15, 3) := by decide +kernel
theorem dX8_keeps_19 : decode cX8_keeps 19 = .ok (.getfield 84, 3) := by decide +kernel
theorem dX8_keeps_22 : decode cX8_keeps 22 = .ok (.iload_n 1, 1) := by decide +kernel
theorem dX8_keeps_23 : decode cX8_keeps 23 = .ok (.iaload, 1) := by decide +kernel
theorem dX8_keeps_24 : decode cX8_keeps 24 = .ok (.bipush 14, 2) := by decide +kernel
theorem dX8_keeps_26 : decode cX8_keeps 26 = .ok (.if_icmp .ne 7, 3) := by decide +kernel
theorem dX8_keeps_29 : decode cX8_keeps 29 = .ok (.iconst 1, 1) := by decide +kernel
theorem dX8_keeps_30 : decode cX8_keeps 30 = .ok (.goto 20, 3) := by decide +kernel
theorem dX8_keeps_33 : decode cX8_keeps 33 = .ok (.iconst 0, 1) := by decide +kernel
theorem dX8_keeps_34 : decode cX8_keeps 34 = .ok (.goto 16, 3) := by decide +kernel
theorem dX8_keeps_37 : decode cX8_keeps 37 = .ok (.aload_n 0, 1) := by decide +kernel
theorem dX8_keeps_38 : decode cX8_keeps 38 = .ok (.iload_n 2, 1) := by decide +kernel
theorem dX8_keeps_39 : decode cX8_keeps 39 = .ok (.invokevirtual 66, 3) := by decide +kernel
theorem dX8_keeps_42 : decode cX8_keeps 42 = .ok (.ifCond .ne 7, 3) := by decide +kernel
theorem dX8_keeps_45 : decode cX8_keeps 45 = .ok (.iconst 1, 1) := by decide +kernel
theorem dX8_keeps_46 : decode cX8_keeps 46 = .ok (.goto 4, 3) := by decide +kernel
theorem dX8_keeps_49 : decode cX8_keeps 49 = .ok (.iconst 0, 1) := by decide +kernel
theorem dX8_keeps_50 : decode cX8_keeps 50 = .ok (.ireturn, 1) := by decide +kernel
theorem dX8_target_0 : decode cX8_target 0 = .ok (.aload_n 0, 1) := by decide +kernel
theorem dX8_target_1 : decode cX8_target 1 = .ok (.getfield 23, 3) := by decide +kernel
theorem dX8_target_4 : decode cX8_target 4 = .ok (.getfield 81, 3) := by decide +kernel
theorem dX8_target_7 : decode cX8_target 7 = .ok (.iload_n 1, 1) := by decide +kernel
theorem dX8_target_8 : decode cX8_target 8 = .ok (.iaload, 1) := by decide +kernel
theorem dX8_target_9 : decode cX8_target 9 = .ok (.ireturn, 1) := by decide +kernel
theorem dX8_left_0 : decode cX8_left 0 = .ok (.aload_n 0, 1) := by decide +kernel
theorem dX8_left_1 : decode cX8_left 1 = .ok (.getfield 15, 3) := by decide +kernel
theorem dX8_left_4 : decode cX8_left 4 = .ok (.getfield 84, 3) := by decide +kernel
theorem dX8_left_7 : decode cX8_left 7 = .ok (.iload_n 1, 1) := by decide +kernel
theorem dX8_left_8 : decode cX8_left 8 = .ok (.iaload, 1) := by decide +kernel
theorem dX8_left_9 : decode cX8_left 9 = .ok (.bipush 14, 2) := by decide +kernel
theorem dX8_left_11 : decode cX8_left 11 = .ok (.if_icmp .ne 13, 3) := by decide +kernel
theorem dX8_left_14 : decode cX8_left 14 = .ok (.aload_n 0, 1) := by decide +kernel
theorem dX8_left_15 : decode cX8_left 15 = .ok (.getfield 40, 3) := by decide +kernel
theorem dX8_left_18 : decode cX8_left 18 = .ok (.getfield 89, 3) := by decide +kernel
theorem dX8_left_21 : decode cX8_left 21 = .ok (.iload_n 1, 1) := by decide +kernel
theorem dX8_left_22 : decode cX8_left 22 = .ok (.iaload, 1) := by decide +kernel
theorem dX8_left_23 : decode cX8_left 23 = .ok (.ireturn, 1) := by decide +kernel
theorem dX8_left_24 : decode cX8_left 24 = .ok (.aload_n 0, 1) := by decide +kernel
theorem dX8_left_25 : decode cX8_left 25 = .ok (.getfield 40, 3) := by decide +kernel
theorem dX8_left_28 : decode cX8_left 28 = .ok (.getfield 73, 3) := by decide +kernel
theorem dX8_left_31 : decode cX8_left 31 = .ok (.aload_n 0, 1) := by decide +kernel
theorem dX8_left_32 : decode cX8_left 32 = .ok (.getfield 23, 3) := by decide +kernel
theorem dX8_left_35 : decode cX8_left 35 = .ok (.getfield 78, 3) := by decide +kernel
theorem dX8_left_38 : decode cX8_left 38 = .ok (.aload_n 0, 1) := by decide +kernel
theorem dX8_left_39 : decode cX8_left 39 = .ok (.getfield 23, 3) := by decide +kernel
theorem dX8_left_42 : decode cX8_left 42 = .ok (.getfield 81, 3) := by decide +kernel
theorem dX8_left_45 : decode cX8_left 45 = .ok (.iload_n 1, 1) := by decide +kernel
theorem dX8_left_46 : decode cX8_left 46 = .ok (.iaload, 1) := by decide +kernel
theorem dX8_left_47 : decode cX8_left 47 = .ok (.iaload, 1) := by decide +kernel
theorem dX8_left_48 : decode cX8_left 48 = .ok (.iaload, 1) := by decide +kernel
theorem dX8_left_49 : decode cX8_left 49 = .ok (.ireturn, 1) := by decide +kernel
theorem dX8_right_0 : decode cX8_right 0 = .ok (.aload_n 0, 1) := by decide +kernel
theorem dX8_right_1 : decode cX8_right 1 = .ok (.getfield 40, 3) := by decide +kernel
theorem dX8_right_4 : decode cX8_right 4 = .ok (.getfield 73, 3) := by decide +kernel
theorem dX8_right_7 : decode cX8_right 7 = .ok (.aload_n 0, 1) := by decide +kernel
theorem dX8_right_8 : decode cX8_right 8 = .ok (.getfield 23, 3) := by decide +kernel
theorem dX8_right_11 : decode cX8_right 11 = .ok (.getfield 78, 3) := by decide +kernel
theorem dX8_right_14 : decode cX8_right 14 = .ok (.aload_n 0, 1) := by decide +kernel
theorem dX8_right_15 : decode cX8_right 15 = .ok (.getfield 23, 3) := by decide +kernel
theorem dX8_right_18 : decode cX8_right 18 = .ok (.getfield 81, 3) := by decide +kernel
theorem dX8_right_21 : decode cX8_right 21 = .ok (.iload_n 1, 1) := by decide +kernel
theorem dX8_right_22 : decode cX8_right 22 = .ok (.iaload, 1) := by decide +kernel
theorem dX8_right_23 : decode cX8_right 23 = .ok (.iaload, 1) := by decide +kernel
theorem dX8_right_24 : decode cX8_right 24 = .ok (.iconst 1, 1) := by decide +kernel
theorem dX8_right_25 : decode cX8_right 25 = .ok (.iadd, 1) := by decide +kernel
theorem dX8_right_26 : decode cX8_right 26 = .ok (.iaload, 1) := by decide +kernel
theorem dX8_right_27 : decode cX8_right 27 = .ok (.ireturn, 1) := by decide +kernel
theorem dX8_endCell_0 : decode cX8_endCell 0 = .ok (.aload_n 0, 1) := by decide +kernel
theorem dX8_endCell_1 : decode cX8_endCell 1 = .ok (.getfield 40, 3) := by decide +kernel
theorem dX8_endCell_4 : decode cX8_endCell 4 = .ok (.getfield 92, 3) := by decide +kernel
theorem dX8_endCell_7 : decode cX8_endCell 7 = .ok (.iload_n 1, 1) := by decide +kernel
theorem dX8_endCell_8 : decode cX8_endCell 8 = .ok (.iaload, 1) := by decide +kernel
theorem dX8_endCell_9 : decode cX8_endCell 9 = .ok (.ireturn, 1) := by decide +kernel
theorem dX9_init_0 : decode cX9_init 0 = .ok (.aload_n 0, 1) := by decide +kernel
theorem dX9_init_1 : decode cX9_init 1 = .ok (.invokespecial 3, 3) := by decide +kernel
theorem dX9_init_4 : decode cX9_init 4 = .ok (.aload_n 0, 1) := by decide +kernel
theorem dX9_init_5 : decode cX9_init 5 = .ok (.sipush 261, 3) := by decide +kernel
theorem dX9_init_8 : decode cX9_init 8 = .ok (.newarray .int, 2) := by decide +kernel
theorem dX9_init_10 : decode cX9_init 10 = .ok (.putfield 9, 3) := by decide +kernel
theorem dX9_init_13 : decode cX9_init 13 = .ok (.aload_n 0, 1) := by decide +kernel
theorem dX9_init_14 : decode cX9_init 14 = .ok (.sipush 261, 3) := by decide +kernel
theorem dX9_init_17 : decode cX9_init 17 = .ok (.newarray .int, 2) := by decide +kernel
theorem dX9_init_19 : decode cX9_init 19 = .ok (.putfield 15, 3) := by decide +kernel
theorem dX9_init_22 : decode cX9_init 22 = .ok (.aload_n 0, 1) := by decide +kernel
theorem dX9_init_23 : decode cX9_init 23 = .ok (.sipush 261, 3) := by decide +kernel
theorem dX9_init_26 : decode cX9_init 26 = .ok (.newarray .int, 2) := by decide +kernel
theorem dX9_init_28 : decode cX9_init 28 = .ok (.putfield 18, 3) := by decide +kernel
theorem dX9_init_31 : decode cX9_init 31 = .ok (.aload_n 0, 1) := by decide +kernel
theorem dX9_init_32 : decode cX9_init 32 = .ok (.sipush 261, 3) := by decide +kernel
theorem dX9_init_35 : decode cX9_init 35 = .ok (.newarray .int, 2) := by decide +kernel
theorem dX9_init_37 : decode cX9_init 37 = .ok (.putfield 21, 3) := by decide +kernel
theorem dX9_init_40 : decode cX9_init 40 = .ok (.aload_n 0, 1) := by decide +kernel
theorem dX9_init_41 : decode cX9_init 41 = .ok (.sipush 262, 3) := by decide +kernel
theorem dX9_init_44 : decode cX9_init 44 = .ok (.newarray .int, 2) := by decide +kernel
theorem dX9_init_46 : decode cX9_init 46 = .ok (.putfield 24, 3) := by decide +kernel
theorem dX9_init_49 : decode cX9_init 49 = .ok (.aload_n 0, 1) := by decide +kernel
theorem dX9_init_50 : decode cX9_init 50 = .ok (.new 27, 3) := by decide +kernel
theorem dX9_init_53 : decode cX9_init 53 = .ok (.dup, 1) := by decide +kernel
theorem dX9_init_54 : decode cX9_init 54 = .ok (.invokespecial 29, 3) := by decide +kernel
theorem dX9_init_57 : decode cX9_init 57 = .ok (.putfield 30, 3) := by decide +kernel
theorem dX9_init_60 : decode cX9_init 60 = .ok (.aload_n 0, 1) := by decide +kernel
theorem dX9_init_61 : decode cX9_init 61 = .ok (.bipush 100, 2) := by decide +kernel
theorem dX9_init_63 : decode cX9_init 63 = .ok (.newarray .int, 2) := by decide +kernel
theorem dX9_init_65 : decode cX9_init 65 = .ok (.putfield 34, 3) := by decide +kernel
theorem dX9_init_68 : decode cX9_init 68 = .ok (.aload_n 0, 1) := by decide +kernel
theorem dX9_init_69 : decode cX9_init 69 = .ok (.bipush 16, 2) := by decide +kernel
theorem dX9_init_71 : decode cX9_init 71 = .ok (.newarray .int, 2) := by decide +kernel
theorem dX9_init_73 : decode cX9_init 73 = .ok (.putfield 37, 3) := by decide +kernel
theorem dX9_init_76 : decode cX9_init 76 = .ok (.aload_n 0, 1) := by decide +kernel
theorem dX9_init_77 : decode cX9_init 77 = .ok (.bipush 16, 2) := by decide +kernel
theorem dX9_init_79 : decode cX9_init 79 = .ok (.newarray .int, 2) := by decide +kernel
theorem dX9_init_81 : decode cX9_init 81 = .ok (.putfield 40, 3) := by decide +kernel
theorem dX9_init_84 : decode cX9_init 84 = .ok (.aload_n 0, 1) := by decide +kernel
theorem dX9_init_85 : decode cX9_init 85 = .ok (.bipush 10, 2) := by decide +kernel
theorem dX9_init_87 : decode cX9_init 87 = .ok (.newarray .int, 2) := by decide +kernel
theorem dX9_init_89 : decode cX9_init 89 = .ok (.putfield 43, 3) := by decide +kernel
theorem dX9_init_92 : decode cX9_init 92 = .ok (.aload_n 0, 1) := by decide +kernel
theorem dX9_init_93 : decode cX9_init 93 = .ok (.sipush 160, 3) := by decide +kernel
theorem dX9_init_96 : decode cX9_init 96 = .ok (.newarray .int, 2) := by decide +kernel
theorem dX9_init_98 : decode cX9_init 98 = .ok (.putfield 46, 3) := by decide +kernel
theorem dX9_init_101 : decode cX9_init 101 = .ok (.return_, 1) := by decide +kernel
theorem dX9_has_0 : decode cX9_has 0 = .ok (.iload_n 1, 1) := by decide +kernel
theorem dX9_has_1 : decode cX9_has 1 = .ok (.ifCond .lt 15, 3) := by decide +kernel
theorem dX9_has_4 : decode cX9_has 4 = .ok (.iload_n 1, 1) := by decide +kernel
theorem dX9_has_5 : decode cX9_has 5 = .ok (.aload_n 0, 1) := by decide +kernel
theorem dX9_has_6 : decode cX9_has 6 = .ok (.getfield 49, 3) := by decide +kernel
theorem dX9_has_9 : decode cX9_has 9 = .ok (.if_icmp .ge 7, 3) := by decide +kernel
theorem dX9_has_12 : decode cX9_has 12 = .ok (.iconst 1, 1) := by decide +kernel
theorem dX9_has_13 : decode cX9_has 13 = .ok (.goto 4, 3) := by decide +kernel
theorem dX9_has_16 : decode cX9_has 16 = .ok (.iconst 0, 1) := by decide +kernel
theorem dX9_has_17 : decode cX9_has 17 = .ok (.ireturn, 1) := by decide +kernel
theorem dX9_operandsOf_0 : decode cX9_operandsOf 0 = .ok (.aload_n 0, 1) := by decide +kernel
theorem dX9_operandsOf_1 : decode cX9_operandsOf 1 = .ok (.getfield 24, 3) := by decide +kernel
theorem dX9_operandsOf_4 : decode cX9_operandsOf 4 = .ok (.iload_n 1, 1) := by decide +kernel
theorem dX9_operandsOf_5 : decode cX9_operandsOf 5 = .ok (.iconst 1, 1) := by decide +kernel
theorem dX9_operandsOf_6 : decode cX9_operandsOf 6 = .ok (.iadd, 1) := by decide +kernel
theorem dX9_operandsOf_7 : decode cX9_operandsOf 7 = .ok (.iaload, 1) := by decide +kernel
theorem dX9_operandsOf_8 : decode cX9_operandsOf 8 = .ok (.aload_n 0, 1) := by decide +kernel
theorem dX9_operandsOf_9 : decode cX9_operandsOf 9 = .ok (.getfield 24, 3) := by decide +kernel
theorem dX9_operandsOf_12 : decode cX9_operandsOf 12 = .ok (.iload_n 1, 1) := by decide +kernel
theorem dX9_operandsOf_13 : decode cX9_operandsOf 13 = .ok (.iaload, 1) := by decide +kernel
theorem dX9_operandsOf_14 : decode cX9_operandsOf 14 = .ok (.isub, 1) := by decide +kernel
theorem dX9_operandsOf_15 : decode cX9_operandsOf 15 = .ok (.ireturn, 1) := by decide +kernel
theorem dX9_hasOperand_0 : decode cX9_hasOperand 0 = .ok (.aload_n 0, 1) := by decide +kernel
theorem dX9_hasOperand_1 : decode cX9_hasOperand 1 = .ok (.iload_n 1, 1) := by decide +kernel
theorem dX9_hasOperand_2 : decode cX9_hasOperand 2 = .ok (.invokevirtual 53, 3) := by decide +kernel
theorem dX9_hasOperand_5 : decode cX9_hasOperand 5 = .ok (.ifCond .eq 20, 3) := by decide +kernel
theorem dX9_hasOperand_8 : decode cX9_hasOperand 8 = .ok (.iload_n 2, 1) := by decide +kernel
theorem dX9_hasOperand_9 : decode cX9_hasOperand 9 = .ok (.ifCond .lt 16, 3) := by decide +kernel
theorem dX9_hasOperand_12 : decode cX9_hasOperand 12 = .ok (.iload_n 2, 1) := by decide +kernel
theorem dX9_hasOperand_13 : decode cX9_hasOperand 13 = .ok (.aload_n 0, 1) := by decide +kernel
theorem dX9_hasOperand_14 : decode cX9_hasOperand 14 = .ok (.iload_n 1, 1) := by decide +kernel
theorem dX9_hasOperand_15 : decode cX9_hasOperand 15 = .ok (.invokevirtual 57, 3) := by decide +kernel
theorem dX9_hasOperand_18 : decode cX9_hasOperand 18 = .ok (.if_icmp .ge 7, 3) := by decide +kernel
theorem dX9_hasOperand_21 : decode cX9_hasOperand 21 = .ok (.iconst 1, 1) := by decide +kernel
theorem dX9_hasOperand_22 : decode cX9_hasOperand 22 = .ok (.goto 4, 3) := by decide +kernel
theorem dX9_hasOperand_25 : decode cX9_hasOperand 25 = .ok (.iconst 0, 1) := by decide +kernel
theorem dX9_hasOperand_26 : decode cX9_hasOperand 26 = .ok (.ireturn, 1) := by decide +kernel
theorem dX9_allChoices_0 : decode cX9_allChoices 0 = .ok (.iconst 0, 1) := by decide +kernel
theorem dX9_allChoices_1 : decode cX9_allChoices 1 = .ok (.istore_n 1, 1) := by decide +kernel
theorem dX9_allChoices_2 : decode cX9_allChoices 2 = .ok (.iconst 0, 1) := by decide +kernel
theorem dX9_allChoices_3 : decode cX9_allChoices 3 = .ok (.istore_n 2, 1) := by decide +kernel
theorem dX9_allChoices_4 : decode cX9_allChoices 4 = .ok (.iload_n 2, 1) := by decide +kernel
theorem dX9_allChoices_5 : decode cX9_allChoices 5 = .ok (.bipush 16, 2) := by decide +kernel
theorem dX9_allChoices_7 : decode cX9_allChoices 7 = .ok (.if_icmp .ge 18, 3) := by decide +kernel
theorem dX9_allChoices_10 : decode cX9_allChoices 10 = .ok (.iload_n 1, 1) := by decide +kernel
theorem dX9_allChoices_11 : decode cX9_allChoices 11 = .ok (.aload_n 0, 1) := by decide +kernel
theorem dX9_allChoices_12 : decode cX9_allChoices 12 = .ok (.getfield 40, 3) := by decide +kernel
theorem dX9_allChoices_15 : decode cX9_allChoices 15 = .ok (.iload_n 2, 1) := by decide +kernel
theorem dX9_allChoices_16 : decode cX9_allChoices 16 = .ok (.iaload, 1) := by decide +kernel
theorem dX9_allChoices_17 : decode cX9_allChoices 17 = .ok (.iadd, 1) := by decide +kernel
theorem dX9_allChoices_18 : decode cX9_allChoices 18 = .ok (.istore_n 1, 1) := by decide +kernel
theorem dX9_allChoices_19 : decode cX9_allChoices 19 = .ok (.iinc 2 1, 3) := by decide +kernel
theorem dX9_allChoices_22 : decode cX9_allChoices 22 = .ok (.goto (-18), 3) := by decide +kernel
theorem dX9_allChoices_25 : decode cX9_allChoices 25 = .ok (.iload_n 1, 1) := by decide +kernel
theorem dX9_allChoices_26 : decode cX9_allChoices 26 = .ok (.ireturn, 1) := by decide +kernel
theorem dX9_make_0 : decode cX9_make 0 = .ok (.aload_n 0, 1) := by decide +kernel
theorem dX9_make_1 : decode cX9_make 1 = .ok (.aload_n 1, 1) := by decide +kernel
theorem dX9_make_2 : decode cX9_make 2 = .ok (.aload_n 2, 1) := by decide +kernel
theorem dX9_make_3 : decode cX9_make 3 = .ok (.invokevirtual 61, 3) := by decide +kernel
theorem dX9_make_6 : decode cX9_make 6 = .ok (.aload_n 0, 1) := by decide +kernel
theorem dX9_make_7 : decode cX9_make 7 = .ok (.aload_n 1, 1) := by decide +kernel
theorem dX9_make_8 : decode cX9_make 8 = .ok (.aload_n 2, 1) := by decide +kernel
theorem dX9_make_9 : decode cX9_make 9 = .ok (.invokevirtual 65, 3) := by decide +kernel
theorem dX9_make_12 : decode cX9_make 12 = .ok (.iconst 1, 1) := by decide +kernel
theorem dX9_make_13 : decode cX9_make 13 = .ok (.istore_n 3, 1) := by decide +kernel
theorem dX9_make_14 : decode cX9_make 14 = .ok (.iload_n 3, 1) := by decide +kernel
theorem dX9_make_15 : decode cX9_make 15 = .ok (.bipush 16, 2) := by decide +kernel
theorem dX9_make_17 : decode cX9_make 17 = .ok (.if_icmp .gt 62, 3) := by decide +kernel
theorem dX9_make_20 : decode cX9_make 20 = .ok (.iconst 0, 1) := by decide +kernel
theorem dX9_make_21 : decode cX9_make 21 = .ok (.istore 4, 2) := by decide +kernel
theorem dX9_make_23 : decode cX9_make 23 = .ok (.iload 4, 2) := by decide +kernel
theorem dX9_make_25 : decode cX9_make 25 = .ok (.bipush 16, 2) := by decide +kernel
theorem dX9_make_27 : decode cX9_make 27 = .ok (.if_icmp .ge 46, 3) := by decide +kernel
theorem dX9_make_30 : decode cX9_make 30 = .ok (.aload_n 2, 1) := by decide +kernel
theorem dX9_make_31 : decode cX9_make 31 = .ok (.iload 4, 2) := by decide +kernel
theorem dX9_make_33 : decode cX9_make 33 = .ok (.invokevirtual 68, 3) := by decide +kernel
theorem dX9_make_36 : decode cX9_make 36 = .ok (.ifCond .eq 31, 3) := by decide +kernel
theorem dX9_make_39 : decode cX9_make 39 = .ok (.aload_n 2, 1) := by decide +kernel
theorem dX9_make_40 : decode cX9_make 40 = .ok (.getfield 73, 3) := by decide +kernel
theorem dX9_make_43 : decode cX9_make 43 = .ok (.iload 4, 2) := by decide +kernel
theorem dX9_make_45 : decode cX9_make 45 = .ok (.iaload, 1) := by decide +kernel
theorem dX9_make_46 : decode cX9_make 46 = .ok (.invokestatic 76, 3) := by decide +kernel
theorem dX9_make_49 : decode cX9_make 49 = .ok (.iload_n 3, 1) := by decide +kernel
theorem dX9_make_50 : decode cX9_make 50 = .ok (.if_icmp .ne 17, 3) := by decide +kernel
theorem dX9_make_53 : decode cX9_make 53 = .ok (.aload_n 0, 1) := by decide +kernel
theorem dX9_make_54 : decode cX9_make 54 = .ok (.aload_n 2, 1) := by decide +kernel
theorem dX9_make_55 : decode cX9_make 55 = .ok (.iload 4, 2) := by decide +kernel
theorem dX9_make_57 : decode cX9_make 57 = .ok (.invokevirtual 81, 3) := by decide +kernel
theorem dX9_make_60 : decode cX9_make 60 = .ok (.aload_n 0, 1) := by decide +kernel
theorem dX9_make_61 : decode cX9_make 61 = .ok (.aload_n 1, 1) := by decide +kernel
theorem dX9_make_62 : decode cX9_make 62 = .ok (.iload 4, 2) := by decide +kernel
theorem dX9_make_64 : decode cX9_make 64 = .ok (.invokevirtual 85, 3) := by decide +kernel
theorem dX9_make_67 : decode cX9_make 67 = .ok (.iinc 4 1, 3) := by decide +kernel
theorem dX9_make_70 : decode cX9_make 70 = .ok (.goto (-47), 3) := by decide +kernel
theorem dX9_make_73 : decode cX9_make 73 = .ok (.iinc 3 1, 3) := by decide +kernel
theorem dX9_make_76 : decode cX9_make 76 = .ok (.goto (-62), 3) := by decide +kernel
theorem dX9_make_79 : decode cX9_make 79 = .ok (.aload_n 0, 1) := by decide +kernel
theorem dX9_make_80 : decode cX9_make 80 = .ok (.aload_n 2, 1) := by decide +kernel
theorem dX9_make_81 : decode cX9_make 81 = .ok (.invokevirtual 89, 3) := by decide +kernel
theorem dX9_make_84 : decode cX9_make 84 = .ok (.return_, 1) := by decide +kernel
theorem dX9_placeChoices_0 : decode cX9_placeChoices 0 = .ok (.iconst 0, 1) := by decide +kernel
theorem dX9_placeChoices_1 : decode cX9_placeChoices 1 = .ok (.istore_n 3, 1) := by decide +kernel
theorem dX9_placeChoices_2 : decode cX9_placeChoices 2 = .ok (.iload_n 3, 1) := by decide +kernel
theorem dX9_placeChoices_3 : decode cX9_placeChoices 3 = .ok (.bipush 10, 2) := by decide +kernel
theorem dX9_placeChoices_5 : decode cX9_placeChoices 5 = .ok (.if_icmp .ge 50, 3) := by decide +kernel
theorem dX9_placeChoices_8 : decode cX9_placeChoices 8 = .ok (.iconst 1, 1) := by decide +kernel
theorem dX9_placeChoices_9 : decode cX9_placeChoices 9 = .ok (.aload_n 1, 1) := by decide +kernel
theorem dX9_placeChoices_10 : decode cX9_placeChoices 10 = .ok (.iload_n 3, 1) := by decide +kernel
theorem dX9_placeChoices_11 : decode cX9_placeChoices 11 = .ok (.invokestatic 93, 3) := by decide +kernel
theorem dX9_placeChoices_14 : decode cX9_placeChoices 14 = .ok (.aload_n 2, 1) := by decide +kernel
theorem dX9_placeChoices_15 : decode cX9_placeChoices 15 = .ok (.getfield 97, 3) := by decide +kernel
theorem dX9_placeChoices_18 : decode cX9_placeChoices 18 = .ok (.iand, 1) := by decide +kernel
theorem dX9_placeChoices_19 : decode cX9_placeChoices 19 = .ok (.ior, 1) := by decide +kernel
theorem dX9_placeChoices_20 : decode cX9_placeChoices 20 = .ok (.istore 4, 2) := by decide +kernel
theorem dX9_placeChoices_22 : decode cX9_placeChoices 22 = .ok (.iload 4, 2) := by decide +kernel
theorem dX9_placeChoices_24 : decode cX9_placeChoices 24 = .ok (.aload_n 2, 1) := by decide +kernel
theorem dX9_placeChoices_25 : decode cX9_placeChoices 25 = .ok (.getfield 100, 3) := by decide +kernel
theorem dX9_placeChoices_28 : decode cX9_placeChoices 28 = .ok (.iconst 0, 1) := by decide +kernel
theorem dX9_placeChoices_29 : decode cX9_placeChoices 29 = .ok (.invokestatic 103, 3) := by decide +kernel
theorem dX9_placeChoices_32 : decode cX9_placeChoices 32 = .ok (.istore 5, 2) := by decide +kernel
theorem dX9_placeChoices_34 : decode cX9_placeChoices 34 = .ok (.aload_n 0, 1) := by decide +kernel
theorem dX9_placeChoices_35 : decode cX9_placeChoices 35 = .ok (.getfield 43, 3) := by decide +kernel
theorem dX9_placeChoices_38 : decode cX9_placeChoices 38 = .ok (.iload_n 3, 1) := by decide +kernel
theorem dX9_placeChoices_39 : decode cX9_placeChoices 39 = .ok (.iload 5, 2) := by decide +kernel
theorem dX9_placeChoices_41 : decode cX9_placeChoices 41 = .ok (.aload_n 2, 1) := by decide +kernel
theorem dX9_placeChoices_42 : decode cX9_placeChoices 42 = .ok (.getfield 100, 3) := by decide +kernel
theorem dX9_placeChoices_45 : decode cX9_placeChoices 45 = .ok (.invokestatic 107, 3) := by decide +kernel
theorem dX9_placeChoices_48 : decode cX9_placeChoices 48 = .ok (.iastore, 1) := by decide +kernel
theorem dX9_placeChoices_49 : decode cX9_placeChoices 49 = .ok (.iinc 3 1, 3) := by decide +kernel
theorem dX9_placeChoices_52 : decode cX9_placeChoices 52 = .ok (.goto (-50), 3) := by decide +kernel
theorem dX9_placeChoices_55 : decode cX9_placeChoices 55 = .ok (.return_, 1) := by decide +kernel
theorem dX9_givingBlocks_0 : decode cX9_givingBlocks 0 = .ok (.iconst 0, 1) := by decide +kernel
theorem dX9_givingBlocks_1 : decode cX9_givingBlocks 1 = .ok (.istore_n 2, 1) := by decide +kernel
theorem dX9_givingBlocks_2 : decode cX9_givingBlocks 2 = .ok (.iconst 0, 1) := by decide +kernel
theorem dX9_givingBlocks_3 : decode cX9_givingBlocks 3 = .ok (.istore_n 3, 1) := by decide +kernel
theorem dX9_givingBlocks_4 : decode cX9_givingBlocks 4 = .ok (.iload_n 3, 1) := by decide +kernel
theorem dX9_givingBlocks_5 : decode cX9_givingBlocks 5 = .ok (.bipush 16, 2) := by decide +kernel
theorem dX9_givingBlocks_7 : decode cX9_givingBlocks 7 = .ok (.if_icmp .ge 53, 3) := by decide +kernel
theorem dX9_givingBlocks_10 : decode cX9_givingBlocks 10 = .ok (.aload_n 0, 1) := by decide +kernel
theorem dX9_givingBlocks_11 : decode cX9_givingBlocks 11 = .ok (.getfield 111, 3) := by decide +kernel
theorem dX9_givingBlocks_14 : decode cX9_givingBlocks 14 = .ok (.iload_n 3, 1) := by decide +kernel
theorem dX9_givingBlocks_15 : decode cX9_givingBlocks 15 = .ok (.iaload, 1) := by decide +kernel
theorem dX9_givingBlocks_16 : decode cX9_givingBlocks 16 = .ok (.istore 4, 2) := by decide +kernel
theorem dX9_givingBlocks_18 : decode cX9_givingBlocks 18 = .ok (.iload 4, 2) := by decide +kernel
theorem dX9_givingBlocks_20 : decode cX9_givingBlocks 20 = .ok (.aload_n 0, 1) := by decide +kernel
theorem dX9_givingBlocks_21 : decode cX9_givingBlocks 21 = .ok (.getfield 111, 3) := by decide +kernel
theorem dX9_givingBlocks_24 : decode cX9_givingBlocks 24 = .ok (.iload_n 3, 1) := by decide +kernel
theorem dX9_givingBlocks_25 : decode cX9_givingBlocks 25 = .ok (.iconst 1, 1) := by decide +kernel
theorem dX9_givingBlocks_26 : decode cX9_givingBlocks 26 = .ok (.iadd, 1) := by decide +kernel
theorem dX9_givingBlocks_27 : decode cX9_givingBlocks 27 = .ok (.iaload, 1) := by decide +kernel
theorem dX9_givingBlocks_28 : decode cX9_givingBlocks 28 = .ok (.if_icmp .ge 26, 3) := by decide +kernel
theorem dX9_givingBlocks_31 : decode cX9_givingBlocks 31 = .ok (.aload_n 0, 1) := by decide +kernel
theorem dX9_givingBlocks_32 : decode cX9_givingBlocks 32 = .ok (.getfield 116, 3) := by decide +kernel
theorem dX9_givingBlocks_35 : decode cX9_givingBlocks 35 = .ok (.iload 4, 2) := by decide +kernel
theorem dX9_givingBlocks_37 : decode cX9_givingBlocks 37 = .ok (.iaload, 1) := by decide +kernel
theorem dX9_givingBlocks_38 : decode cX9_givingBlocks 38 = .ok (.iload_n 1, 1) := by decide +kernel
theorem dX9_givingBlocks_39 : decode cX9_givingBlocks 39 = .ok (.if_icmp .ne 9, 3) := by decide +kernel
theorem dX9_givingBlocks_42 : decode cX9_givingBlocks 42 = .ok (.iload_n 2, 1) := by decide +kernel
theorem dX9_givingBlocks_43 : decode cX9_givingBlocks 43 = .ok (.iconst 1, 1) := by decide +kernel
theorem dX9_givingBlocks_44 : decode cX9_givingBlocks 44 = .ok (.iload_n 3, 1) := by decide +kernel
theorem dX9_givingBlocks_45 : decode cX9_givingBlocks 45 = .ok (.ishl, 1) := by decide +kernel
theorem dX9_givingBlocks_46 : decode cX9_givingBlocks 46 = .ok (.ior, 1) := by decide +kernel
theorem dX9_givingBlocks_47 : decode cX9_givingBlocks 47 = .ok (.istore_n 2, 1) := by decide +kernel
theorem dX9_givingBlocks_48 : decode cX9_givingBlocks 48 = .ok (.iinc 4 1, 3) := by decide +kernel
theorem dX9_givingBlocks_51 : decode cX9_givingBlocks 51 = .ok (.goto (-33), 3) := by decide +kernel
theorem dX9_givingBlocks_54 : decode cX9_givingBlocks 54 = .ok (.iinc 3 1, 3) := by decide +kernel
theorem dX9_givingBlocks_57 : decode cX9_givingBlocks 57 = .ok (.goto (-53), 3) := by decide +kernel
theorem dX9_givingBlocks_60 : decode cX9_givingBlocks 60 = .ok (.iload_n 2, 1) := by decide +kernel
theorem dX9_givingBlocks_61 : decode cX9_givingBlocks 61 = .ok (.ireturn, 1) := by decide +kernel
theorem dX9_numberAll_0 : decode cX9_numberAll 0 = .ok (.aload_n 0, 1) := by decide +kernel
theorem dX9_numberAll_1 : decode cX9_numberAll 1 = .ok (.iconst 0, 1) := by decide +kernel
theorem dX9_numberAll_2 : decode cX9_numberAll 2 = .ok (.putfield 49, 3) := by decide +kernel
theorem dX9_numberAll_5 : decode cX9_numberAll 5 = .ok (.aload_n 0, 1) := by decide +kernel
theorem dX9_numberAll_6 : decode cX9_numberAll 6 = .ok (.getfield 40, 3) := by decide +kernel
theorem dX9_numberAll_9 : decode cX9_numberAll 9 = .ok (.iconst 0, 1) := by decide +kernel
theorem dX9_numberAll_10 : decode cX9_numberAll 10 = .ok (.invokestatic 119, 3) := by decide +kernel
theorem dX9_numberAll_13 : decode cX9_numberAll 13 = .ok (.aload_n 0, 1) := by decide +kernel
theorem dX9_numberAll_14 : decode cX9_numberAll 14 = .ok (.getfield 34, 3) := by decide +kernel
theorem dX9_numberAll_17 : decode cX9_numberAll 17 = .ok (.iconst (-1), 1) := by decide +kernel
theorem dX9_numberAll_18 : decode cX9_numberAll 18 = .ok (.invokestatic 119, 3) := by decide +kernel
theorem dX9_numberAll_21 : decode cX9_numberAll 21 = .ok (.aload_n 2, 1) := by decide +kernel
theorem dX9_numberAll_22 : decode cX9_numberAll 22 = .ok (.iconst 0, 1) := by decide +kernel
theorem dX9_numberAll_23 : decode cX9_numberAll 23 = .ok (.invokevirtual 68, 3) := by decide +kernel
theorem dX9_numberAll_26 : decode cX9_numberAll 26 = .ok (.ifCond .eq 12, 3) := by decide +kernel
theorem dX9_numberAll_29 : decode cX9_numberAll 29 = .ok (.aload_n 0, 1) := by decide +kernel
theorem dX9_numberAll_30 : decode cX9_numberAll 30 = .ok (.iconst 0, 1) := by decide +kernel
theorem dX9_numberAll_31 : decode cX9_numberAll 31 = .ok (.iconst 0, 1) := by decide +kernel
theorem dX9_numberAll_32 : decode cX9_numberAll 32 = .ok (.iconst (-1), 1) := by decide +kernel
theorem dX9_numberAll_33 : decode cX9_numberAll 33 = .ok (.iconst 0, 1) := by decide +kernel
theorem dX9_numberAll_34 : decode cX9_numberAll 34 = .ok (.iconst 0, 1) := by decide +kernel
theorem dX9_numberAll_35 : decode cX9_numberAll 35 = .ok (.invokevirtual 125, 3) := by decide +kernel
theorem dX9_numberAll_38 : decode cX9_numberAll 38 = .ok (.iconst 0, 1) := by decide +kernel
theorem dX9_numberAll_39 : decode cX9_numberAll 39 = .ok (.istore_n 3, 1) := by decide +kernel
theorem dX9_numberAll_40 : decode cX9_numberAll 40 = .ok (.iload_n 3, 1) := by decide +kernel
theorem dX9_numberAll_41 : decode cX9_numberAll 41 = .ok (.bipush 16, 2) := by decide +kernel
theorem dX9_numberAll_43 : decode cX9_numberAll 43 = .ok (.if_icmp .ge 29, 3) := by decide +kernel
theorem dX9_numberAll_46 : decode cX9_numberAll 46 = .ok (.aload_n 2, 1) := by decide +kernel
theorem dX9_numberAll_47 : decode cX9_numberAll 47 = .ok (.iload_n 3, 1) := by decide +kernel
theorem dX9_numberAll_48 : decode cX9_numberAll 48 = .ok (.invokevirtual 68, 3) := by decide +kernel
theorem dX9_numberAll_51 : decode cX9_numberAll 51 = .ok (.ifCond .eq 15, 3) := by decide +kernel
theorem dX9_numberAll_54 : decode cX9_numberAll 54 = .ok (.aload_n 0, 1) := by decide +kernel
theorem dX9_numberAll_55 : decode cX9_numberAll 55 = .ok (.aload_n 2, 1) := by decide +kernel
theorem dX9_numberAll_56 : decode cX9_numberAll 56 = .ok (.iload_n 3, 1) := by decide +kernel
theorem dX9_numberAll_57 : decode cX9_numberAll 57 = .ok (.invokevirtual 129, 3) := by decide +kernel
theorem dX9_numberAll_60 : decode cX9_numberAll 60 = .ok (.aload_n 0, 1) := by decide +kernel
theorem dX9_numberAll_61 : decode cX9_numberAll 61 = .ok (.aload_n 1, 1) := by decide +kernel
theorem dX9_numberAll_62 : decode cX9_numberAll 62 = .ok (.iload_n 3, 1) := by decide +kernel
theorem dX9_numberAll_63 : decode cX9_numberAll 63 = .ok (.invokevirtual 132, 3) := by decide +kernel
theorem dX9_numberAll_66 : decode cX9_numberAll 66 = .ok (.iinc 3 1, 3) := by decide +kernel
theorem dX9_numberAll_69 : decode cX9_numberAll 69 = .ok (.goto (-29), 3) := by decide +kernel
theorem dX9_numberAll_72 : decode cX9_numberAll 72 = .ok (.return_, 1) := by decide +kernel
theorem dX9_numberChoices_0 : decode cX9_numberChoices 0 = .ok (.aload_n 1, 1) := by decide +kernel
theorem dX9_numberChoices_1 : decode cX9_numberChoices 1 = .ok (.getfield 135, 3) := by decide +kernel
theorem dX9_numberChoices_4 : decode cX9_numberChoices 4 = .ok (.iload_n 2, 1) := by decide +kernel
theorem dX9_numberChoices_5 : decode cX9_numberChoices 5 = .ok (.iaload, 1) := by decide +kernel
theorem dX9_numberChoices_6 : decode cX9_numberChoices 6 = .ok (.invokestatic 76, 3) := by decide +kernel
theorem dX9_numberChoices_9 : decode cX9_numberChoices 9 = .ok (.iload_n 2, 1) := by decide +kernel
theorem dX9_numberChoices_10 : decode cX9_numberChoices 10 = .ok (.ifCond .ne 7, 3) := by decide +kernel
theorem dX9_numberChoices_13 : decode cX9_numberChoices 13 = .ok (.iconst 1, 1) := by decide +kernel
theorem dX9_numberChoices_14 : decode cX9_numberChoices 14 = .ok (.goto 4, 3) := by decide +kernel
theorem dX9_numberChoices_17 : decode cX9_numberChoices 17 = .ok (.iconst 0, 1) := by decide +kernel
theorem dX9_numberChoices_18 : decode cX9_numberChoices 18 = .ok (.iadd, 1) := by decide +kernel
theorem dX9_numberChoices_19 : decode cX9_numberChoices 19 = .ok (.istore_n 3, 1) := by decide +kernel
theorem dX9_numberChoices_20 : decode cX9_numberChoices 20 = .ok (.aload_n 0, 1) := by decide +kernel
theorem dX9_numberChoices_21 : decode cX9_numberChoices 21 = .ok (.getfield 37, 3) := by decide +kernel
theorem dX9_numberChoices_24 : decode cX9_numberChoices 24 = .ok (.iload_n 2, 1) := by decide +kernel
theorem dX9_numberChoices_25 : decode cX9_numberChoices 25 = .ok (.aload_n 0, 1) := by decide +kernel
theorem dX9_numberChoices_26 : decode cX9_numberChoices 26 = .ok (.getfield 49, 3) := by decide +kernel
theorem dX9_numberChoices_29 : decode cX9_numberChoices 29 = .ok (.iastore, 1) := by decide +kernel
theorem dX9_numberChoices_30 : decode cX9_numberChoices 30 = .ok (.iconst 0, 1) := by decide +kernel
theorem dX9_numberChoices_31 : decode cX9_numberChoices 31 = .ok (.istore 4, 2) := by decide +kernel
theorem dX9_numberChoices_33 : decode cX9_numberChoices 33 = .ok (.iload 4, 2) := by decide +kernel
theorem dX9_numberChoices_35 : decode cX9_numberChoices 35 = .ok (.bipush 10, 2) := by decide +kernel
theorem dX9_numberChoices_37 : decode cX9_numberChoices 37 = .ok (.if_icmp .ge 44, 3) := by decide +kernel
theorem dX9_numberChoices_40 : decode cX9_numberChoices 40 = .ok (.aload_n 0, 1) := by decide +kernel
theorem dX9_numberChoices_41 : decode cX9_numberChoices 41 = .ok (.getfield 43, 3) := by decide +kernel
theorem dX9_numberChoices_44 : decode cX9_numberChoices 44 = .ok (.iload 4, 2) := by decide +kernel
theorem dX9_numberChoices_46 : decode cX9_numberChoices 46 = .ok (.iaload, 1) := by decide +kernel
theorem dX9_numberChoices_47 : decode cX9_numberChoices 47 = .ok (.iload_n 2, 1) := by decide +kernel
theorem dX9_numberChoices_48 : decode cX9_numberChoices 48 = .ok (.invokestatic 138, 3) := by decide +kernel
theorem dX9_numberChoices_51 : decode cX9_numberChoices 51 = .ok (.ifCond .eq 24, 3) := by decide +kernel
theorem dX9_numberChoices_54 : decode cX9_numberChoices 54 = .ok (.aload_n 0, 1) := by decide +kernel
theorem dX9_numberChoices_55 : decode cX9_numberChoices 55 = .ok (.bipush 15, 2) := by decide +kernel
theorem dX9_numberChoices_57 : decode cX9_numberChoices 57 = .ok (.iload_n 2, 1) := by decide +kernel
theorem dX9_numberChoices_58 : decode cX9_numberChoices 58 = .ok (.iload 4, 2) := by decide +kernel
theorem dX9_numberChoices_60 : decode cX9_numberChoices 60 = .ok (.iconst (-1), 1) := by decide +kernel
theorem dX9_numberChoices_61 : decode cX9_numberChoices 61 = .ok (.iload_n 3, 1) := by decide +kernel
theorem dX9_numberChoices_62 : decode cX9_numberChoices 62 = .ok (.invokevirtual 125, 3) := by decide +kernel
theorem dX9_numberChoices_65 : decode cX9_numberChoices 65 = .ok (.aload_n 0, 1) := by decide +kernel
theorem dX9_numberChoices_66 : decode cX9_numberChoices 66 = .ok (.getfield 40, 3) := by decide +kernel
theorem dX9_numberChoices_69 : decode cX9_numberChoices 69 = .ok (.iload_n 2, 1) := by decide +kernel
theorem dX9_numberChoices_70 : decode cX9_numberChoices 70 = .ok (.dup2, 1) := by decide +kernel
theorem dX9_numberChoices_71 : decode cX9_numberChoices 71 = .ok (.iaload, 1) := by decide +kernel
theorem dX9_numberChoices_72 : decode cX9_numberChoices 72 = .ok (.iconst 1, 1) := by decide +kernel
theorem dX9_numberChoices_73 : decode cX9_numberChoices 73 = .ok (.iadd, 1) := by decide +kernel
theorem dX9_numberChoices_74 : decode cX9_numberChoices 74 = .ok (.iastore, 1) := by decide +kernel
theorem dX9_numberChoices_75 : decode cX9_numberChoices 75 = .ok (.iinc 4 1, 3) := by decide +kernel
theorem dX9_numberChoices_78 : decode cX9_numberChoices 78 = .ok (.goto (-45), 3) := by decide +kernel
theorem dX9_numberChoices_81 : decode cX9_numberChoices 81 = .ok (.return_, 1) := by decide +kernel
theorem dX9_numberInstructions_0 : decode cX9_numberInstructions 0 = .ok (.aload_n 1, 1) := by decide +kernel
theorem dX9_numberInstructions_1 : decode cX9_numberInstructions 1 = .ok (.getfield 111, 3) := by decide +kernel
theorem dX9_numberInstructions_4 : decode cX9_numberInstructions 4 = .ok (.iload_n 2, 1) := by decide +kernel
theorem dX9_numberInstructions_5 : decode cX9_numberInstructions 5 = .ok (.iaload, 1) := by decide +kernel
theorem dX9_numberInstructions_6 : decode cX9_numberInstructions 6 = .ok (.istore_n 3, 1) := by decide +kernel
theorem dX9_numberInstructions_7 : decode cX9_numberInstructions 7 = .ok (.iload_n 3, 1) := by decide +kernel
theorem dX9_numberInstructions_8 : decode cX9_numberInstructions 8 = .ok (.aload_n 1, 1) := by decide +kernel
theorem dX9_numberInstructions_9 : decode cX9_numberInstructions 9 = .ok (.getfield 111, 3) := by decide +kernel
theorem dX9_numberInstructions_12 : decode cX9_numberInstructions 12 = .ok (.iload_n 2, 1) := by decide +kernel
theorem dX9_numberInstructions_13 : decode cX9_numberInstructions 13 = .ok (.iconst 1, 1) := by decide +kernel
theorem dX9_numberInstructions_14 : decode cX9_numberInstructions 14 = .ok (.iadd, 1) := by decide +kernel
theorem dX9_numberInstructions_15 : decode cX9_numberInstructions 15 = .ok (.iaload, 1) := by decide +kernel
theorem dX9_numberInstructions_16 : decode cX9_numberInstructions 16 = .ok (.if_icmp .ge 92, 3) := by decide +kernel
theorem dX9_numberInstructions_19 : decode cX9_numberInstructions 19 = .ok (.aload_n 1, 1) := by decide +kernel
theorem dX9_numberInstructions_20 : decode cX9_numberInstructions 20 = .ok (.getfield 142, 3) := by decide +kernel
theorem dX9_numberInstructions_23 : decode cX9_numberInstructions 23 = .ok (.iload_n 3, 1) := by decide +kernel
theorem dX9_numberInstructions_24 : decode cX9_numberInstructions 24 = .ok (.iaload, 1) := by decide +kernel
theorem dX9_numberInstructions_25 : decode cX9_numberInstructions 25 = .ok (.istore 4, 2) := by decide +kernel
theorem dX9_numberInstructions_27 : decode cX9_numberInstructions 27 = .ok (.iload 4, 2) := by decide +kernel
theorem dX9_numberInstructions_29 : decode cX9_numberInstructions 29 = .ok (.iconst 2, 1) := by decide +kernel
theorem dX9_numberInstructions_30 : decode cX9_numberInstructions 30 = .ok (.if_icmp .eq 72, 3) := by decide +kernel
theorem dX9_numberInstructions_33 : decode cX9_numberInstructions 33 = .ok (.iload 4, 2) := by decide +kernel
theorem dX9_numberInstructions_35 : decode cX9_numberInstructions 35 = .ok (.bipush 14, 2) := by decide +kernel
theorem dX9_numberInstructions_37 : decode cX9_numberInstructions 37 = .ok (.if_icmp .ne 6, 3) := by decide +kernel
theorem dX9_numberInstructions_40 : decode cX9_numberInstructions 40 = .ok (.goto 62, 3) := by decide +kernel
theorem dX9_numberInstructions_43 : decode cX9_numberInstructions 43 = .ok (.aload_n 0, 1) := by decide +kernel
theorem dX9_numberInstructions_44 : decode cX9_numberInstructions 44 = .ok (.getfield 34, 3) := by decide +kernel
theorem dX9_numberInstructions_47 : decode cX9_numberInstructions 47 = .ok (.iload_n 3, 1) := by decide +kernel
theorem dX9_numberInstructions_48 : decode cX9_numberInstructions 48 = .ok (.aload_n 0, 1) := by decide +kernel
theorem dX9_numberInstructions_49 : decode cX9_numberInstructions 49 = .ok (.getfield 49, 3) := by decide +kernel
theorem dX9_numberInstructions_52 : decode cX9_numberInstructions 52 = .ok (.iastore, 1) := by decide +kernel
theorem dX9_numberInstructions_53 : decode cX9_numberInstructions 53 = .ok (.iload 4, 2) := by decide +kernel
theorem dX9_numberInstructions_55 : decode cX9_numberInstructions 55 = .ok (.ifCond .eq 9, 3) := by decide +kernel
theorem dX9_numberInstructions_58 : decode cX9_numberInstructions 58 = .ok (.iload 4, 2) := by decide +kernel
theorem dX9_numberInstructions_60 : decode cX9_numberInstructions 60 = .ok (.iconst 1, 1) := by decide +kernel
theorem dX9_numberInstructions_61 : decode cX9_numberInstructions 61 = .ok (.if_icmp .ne 26, 3) := by decide +kernel
theorem dX9_numberInstructions_64 : decode cX9_numberInstructions 64 = .ok (.aload_n 0, 1) := by decide +kernel
theorem dX9_numberInstructions_65 : decode cX9_numberInstructions 65 = .ok (.iload 4, 2) := by decide +kernel
theorem dX9_numberInstructions_67 : decode cX9_numberInstructions 67 = .ok (.iload_n 2, 1) := by decide +kernel
theorem dX9_numberInstructions_68 : decode cX9_numberInstructions 68 = .ok (.aload_n 1, 1) := by decide +kernel
theorem dX9_numberInstructions_69 : decode cX9_numberInstructions 69 = .ok (.getfield 116, 3) := by decide +kernel
theorem dX9_numberInstructions_72 : decode cX9_numberInstructions 72 = .ok (.iload_n 3, 1) := by decide +kernel
theorem dX9_numberInstructions_73 : decode cX9_numberInstructions 73 = .ok (.iaload, 1) := by decide +kernel
theorem dX9_numberInstructions_74 : decode cX9_numberInstructions 74 = .ok (.aload_n 1, 1) := by decide +kernel
theorem dX9_numberInstructions_75 : decode cX9_numberInstructions 75 = .ok (.getfield 143, 3) := by decide +kernel
theorem dX9_numberInstructions_78 : decode cX9_numberInstructions 78 = .ok (.iload_n 3, 1) := by decide +kernel
theorem dX9_numberInstructions_79 : decode cX9_numberInstructions 79 = .ok (.iaload, 1) := by decide +kernel
theorem dX9_numberInstructions_80 : decode cX9_numberInstructions 80 = .ok (.iconst 0, 1) := by decide +kernel
theorem dX9_numberInstructions_81 : decode cX9_numberInstructions 81 = .ok (.invokevirtual 125, 3) := by decide +kernel
theorem dX9_numberInstructions_84 : decode cX9_numberInstructions 84 = .ok (.goto 18, 3) := by decide +kernel
theorem dX9_numberInstructions_87 : decode cX9_numberInstructions 87 = .ok (.aload_n 0, 1) := by decide +kernel
theorem dX9_numberInstructions_88 : decode cX9_numberInstructions 88 = .ok (.iload 4, 2) := by decide +kernel
theorem dX9_numberInstructions_90 : decode cX9_numberInstructions 90 = .ok (.iload_n 2, 1) := by decide +kernel
theorem dX9_numberInstructions_91 : decode cX9_numberInstructions 91 = .ok (.aload_n 1, 1) := by decide +kernel
theorem dX9_numberInstructions_92 : decode cX9_numberInstructions 92 = .ok (.getfield 116, 3) := by decide +kernel
theorem dX9_numberInstructions_95 : decode cX9_numberInstructions 95 = .ok (.iload_n 3, 1) := by decide +kernel
theorem dX9_numberInstructions_96 : decode cX9_numberInstructions 96 = .ok (.iaload, 1) := by decide +kernel
theorem dX9_numberInstructions_97 : decode cX9_numberInstructions 97 = .ok (.iconst (-1), 1) := by decide +kernel
theorem dX9_numberInstructions_98 : decode cX9_numberInstructions 98 = .ok (.iconst 2, 1) := by decide +kernel
theorem dX9_numberInstructions_99 : decode cX9_numberInstructions 99 = .ok (.invokevirtual 125, 3) := by decide +kernel
theorem dX9_numberInstructions_102 : decode cX9_numberInstructions 102 = .ok (.iinc 3 1, 3) := by decide +kernel
theorem dX9_numberInstructions_105 : decode cX9_numberInstructions 105 = .ok (.goto (-98), 3) := by decide +kernel
theorem dX9_numberInstructions_108 : decode cX9_numberInstructions 108 = .ok (.return_, 1) := by decide +kernel
theorem dX9_add_0 : decode cX9_add 0 = .ok (.aload_n 0, 1) := by decide +kernel
theorem dX9_add_1 : decode cX9_add 1 = .ok (.getfield 9, 3) := by decide +kernel
theorem dX9_add_4 : decode cX9_add 4 = .ok (.aload_n 0, 1) := by decide +kernel
theorem dX9_add_5 : decode cX9_add 5 = .ok (.getfield 49, 3) := by decide +kernel
theorem dX9_add_8 : decode cX9_add 8 = .ok (.iload_n 1, 1) := by decide +kernel
theorem dX9_add_9 : decode cX9_add 9 = .ok (.iastore, 1) := by decide +kernel
theorem dX9_add_10 : decode cX9_add 10 = .ok (.aload_n 0, 1) := by decide +kernel
theorem dX9_add_11 : decode cX9_add 11 = .ok (.getfield 15, 3) := by decide +kernel
theorem dX9_add_14 : decode cX9_add 14 = .ok (.aload_n 0, 1) := by decide +kernel
theorem dX9_add_15 : decode cX9_add 15 = .ok (.getfield 49, 3) := by decide +kernel
theorem dX9_add_18 : decode cX9_add 18 = .ok (.iload_n 2, 1) := by decide +kernel
theorem dX9_add_19 : decode cX9_add 19 = .ok (.iastore, 1) := by decide +kernel
theorem dX9_add_20 : decode cX9_add 20 = .ok (.aload_n 0, 1) := by decide +kernel
theorem dX9_add_21 : decode cX9_add 21 = .ok (.getfield 18, 3) := by decide +kernel
theorem dX9_add_24 : decode cX9_add 24 = .ok (.aload_n 0, 1) := by decide +kernel
theorem dX9_add_25 : decode cX9_add 25 = .ok (.getfield 49, 3) := by decide +kernel
theorem dX9_add_28 : decode cX9_add 28 = .ok (.iload_n 3, 1) := by decide +kernel
theorem dX9_add_29 : decode cX9_add 29 = .ok (.iastore, 1) := by decide +kernel
theorem dX9_add_30 : decode cX9_add 30 = .ok (.aload_n 0, 1) := by decide +kernel
theorem dX9_add_31 : decode cX9_add 31 = .ok (.getfield 21, 3) := by decide +kernel
theorem dX9_add_34 : decode cX9_add 34 = .ok (.aload_n 0, 1) := by decide +kernel
theorem dX9_add_35 : decode cX9_add 35 = .ok (.getfield 49, 3) := by decide +kernel
theorem dX9_add_38 : decode cX9_add 38 = .ok (.iload 4, 2) := by decide +kernel
theorem dX9_add_40 : decode cX9_add 40 = .ok (.iastore, 1) := by decide +kernel
theorem dX9_add_41 : decode cX9_add 41 = .ok (.aload_n 0, 1) := by decide +kernel
theorem dX9_add_42 : decode cX9_add 42 = .ok (.getfield 24, 3) := by decide +kernel
theorem dX9_add_45 : decode cX9_add 45 = .ok (.aload_n 0, 1) := by decide +kernel
theorem dX9_add_46 : decode cX9_add 46 = .ok (.getfield 49, 3) := by decide +kernel
theorem dX9_add_49 : decode cX9_add 49 = .ok (.iconst 1, 1) := by decide +kernel
theorem dX9_add_50 : decode cX9_add 50 = .ok (.iadd, 1) := by decide +kernel
theorem dX9_add_51 : decode cX9_add 51 = .ok (.aload_n 0, 1) := by decide +kernel
theorem dX9_add_52 : decode cX9_add 52 = .ok (.getfield 49, 3) := by decide +kernel
theorem dX9_add_55 : decode cX9_add 55 = .ok (.ifCond .ne 7, 3) := by decide +kernel
theorem dX9_add_58 : decode cX9_add 58 = .ok (.iconst 0, 1) := by decide +kernel
theorem dX9_add_59 : decode cX9_add 59 = .ok (.goto 12, 3) := by decide +kernel
theorem dX9_add_62 : decode cX9_add 62 = .ok (.aload_n 0, 1) := by decide +kernel
theorem dX9_add_63 : decode cX9_add 63 = .ok (.getfield 24, 3) := by decide +kernel
theorem dX9_add_66 : decode cX9_add 66 = .ok (.aload_n 0, 1) := by decide +kernel
theorem dX9_add_67 : decode cX9_add 67 = .ok (.getfield 49, 3) := by decide +kernel
theorem dX9_add_70 : decode cX9_add 70 = .ok (.iaload, 1) := by decide +kernel
theorem dX9_add_71 : decode cX9_add 71 = .ok (.iload 5, 2) := by decide +kernel
theorem dX9_add_73 : decode cX9_add 73 = .ok (.iadd, 1) := by decide +kernel
theorem dX9_add_74 : decode cX9_add 74 = .ok (.iastore, 1) := by decide +kernel
theorem dX9_add_75 : decode cX9_add 75 = .ok (.aload_n 0, 1) := by decide +kernel
theorem dX9_add_76 : decode cX9_add 76 = .ok (.dup, 1) := by decide +kernel
theorem dX9_add_77 : decode cX9_add 77 = .ok (.getfield 49, 3) := by decide +kernel
theorem dX9_add_80 : decode cX9_add 80 = .ok (.iconst 1, 1) := by decide +kernel
theorem dX9_add_81 : decode cX9_add 81 = .ok (.iadd, 1) := by decide +kernel
theorem dX9_add_82 : decode cX9_add 82 = .ok (.putfield 49, 3) := by decide +kernel
theorem dX9_add_85 : decode cX9_add 85 = .ok (.return_, 1) := by decide +kernel
theorem dX9_beginBlock_0 : decode cX9_beginBlock 0 = .ok (.iload_n 2, 1) := by decide +kernel
theorem dX9_beginBlock_1 : decode cX9_beginBlock 1 = .ok (.bipush 10, 2) := by decide +kernel
theorem dX9_beginBlock_3 : decode cX9_beginBlock 3 = .ok (.imul, 1) := by decide +kernel
theorem dX9_beginBlock_4 : decode cX9_beginBlock 4 = .ok (.istore_n 3, 1) := by decide +kernel
theorem dX9_beginBlock_5 : decode cX9_beginBlock 5 = .ok (.aload_n 1, 1) := by decide +kernel
theorem dX9_beginBlock_6 : decode cX9_beginBlock 6 = .ok (.getfield 146, 3) := by decide +kernel
theorem dX9_beginBlock_9 : decode cX9_beginBlock 9 = .ok (.iload_n 2, 1) := by decide +kernel
theorem dX9_beginBlock_10 : decode cX9_beginBlock 10 = .ok (.iaload, 1) := by decide +kernel
theorem dX9_beginBlock_11 : decode cX9_beginBlock 11 = .ok (.istore 4, 2) := by decide +kernel
theorem dX9_beginBlock_13 : decode cX9_beginBlock 13 = .ok (.iconst 0, 1) := by decide +kernel
theorem dX9_beginBlock_14 : decode cX9_beginBlock 14 = .ok (.istore 5, 2) := by decide +kernel
theorem dX9_beginBlock_16 : decode cX9_beginBlock 16 = .ok (.iload 5, 2) := by decide +kernel
theorem dX9_beginBlock_18 : decode cX9_beginBlock 18 = .ok (.bipush 10, 2) := by decide +kernel
theorem dX9_beginBlock_20 : decode cX9_beginBlock 20 = .ok (.if_icmp .ge 41, 3) := by decide +kernel
theorem dX9_beginBlock_23 : decode cX9_beginBlock 23 = .ok (.aload_n 0, 1) := by decide +kernel
theorem dX9_beginBlock_24 : decode cX9_beginBlock 24 = .ok (.getfield 46, 3) := by decide +kernel
theorem dX9_beginBlock_27 : decode cX9_beginBlock 27 = .ok (.iload_n 3, 1) := by decide +kernel
theorem dX9_beginBlock_28 : decode cX9_beginBlock 28 = .ok (.iload 5, 2) := by decide +kernel
theorem dX9_beginBlock_30 : decode cX9_beginBlock 30 = .ok (.iadd, 1) := by decide +kernel
theorem dX9_beginBlock_31 : decode cX9_beginBlock 31 = .ok (.iload 4, 2) := by decide +kernel
theorem dX9_beginBlock_33 : decode cX9_beginBlock 33 = .ok (.iconst (-1), 1) := by decide +kernel
theorem dX9_beginBlock_34 : decode cX9_beginBlock 34 = .ok (.if_icmp .ne 7, 3) := by decide +kernel
theorem dX9_beginBlock_37 : decode cX9_beginBlock 37 = .ok (.iconst 0, 1) := by decide +kernel
theorem dX9_beginBlock_38 : decode cX9_beginBlock 38 = .ok (.goto 16, 3) := by decide +kernel
theorem dX9_beginBlock_41 : decode cX9_beginBlock 41 = .ok (.aload_n 0, 1) := by decide +kernel
theorem dX9_beginBlock_42 : decode cX9_beginBlock 42 = .ok (.getfield 46, 3) := by decide +kernel
theorem dX9_beginBlock_45 : decode cX9_beginBlock 45 = .ok (.iload 4, 2) := by decide +kernel
theorem dX9_beginBlock_47 : decode cX9_beginBlock 47 = .ok (.bipush 10, 2) := by decide +kernel
theorem dX9_beginBlock_49 : decode cX9_beginBlock 49 = .ok (.imul, 1) := by decide +kernel
theorem dX9_beginBlock_50 : decode cX9_beginBlock 50 = .ok (.iload 5, 2) := by decide +kernel
theorem dX9_beginBlock_52 : decode cX9_beginBlock 52 = .ok (.iadd, 1) := by decide +kernel
theorem dX9_beginBlock_53 : decode cX9_beginBlock 53 = .ok (.iaload, 1) := by decide +kernel
theorem dX9_beginBlock_54 : decode cX9_beginBlock 54 = .ok (.iastore, 1) := by decide +kernel
theorem dX9_beginBlock_55 : decode cX9_beginBlock 55 = .ok (.iinc 5 1, 3) := by decide +kernel
theorem dX9_beginBlock_58 : decode cX9_beginBlock 58 = .ok (.goto (-42), 3) := by decide +kernel
theorem dX9_beginBlock_61 : decode cX9_beginBlock 61 = .ok (.aload_n 0, 1) := by decide +kernel
theorem dX9_beginBlock_62 : decode cX9_beginBlock 62 = .ok (.getfield 37, 3) := by decide +kernel
theorem dX9_beginBlock_65 : decode cX9_beginBlock 65 = .ok (.iload_n 2, 1) := by decide +kernel
theorem dX9_beginBlock_66 : decode cX9_beginBlock 66 = .ok (.iaload, 1) := by decide +kernel
theorem dX9_beginBlock_67 : decode cX9_beginBlock 67 = .ok (.istore 5, 2) := by decide +kernel
theorem dX9_beginBlock_69 : decode cX9_beginBlock 69 = .ok (.iload 5, 2) := by decide +kernel
theorem dX9_beginBlock_71 : decode cX9_beginBlock 71 = .ok (.aload_n 0, 1) := by decide +kernel
theorem dX9_beginBlock_72 : decode cX9_beginBlock 72 = .ok (.getfield 37, 3) := by decide +kernel
theorem dX9_beginBlock_75 : decode cX9_beginBlock 75 = .ok (.iload_n 2, 1) := by decide +kernel
theorem dX9_beginBlock_76 : decode cX9_beginBlock 76 = .ok (.iaload, 1) := by decide +kernel
theorem dX9_beginBlock_77 : decode cX9_beginBlock 77 = .ok (.aload_n 0, 1) := by decide +kernel
theorem dX9_beginBlock_78 : decode cX9_beginBlock 78 = .ok (.getfield 40, 3) := by decide +kernel
theorem dX9_beginBlock_81 : decode cX9_beginBlock 81 = .ok (.iload_n 2, 1) := by decide +kernel
theorem dX9_beginBlock_82 : decode cX9_beginBlock 82 = .ok (.iaload, 1) := by decide +kernel
theorem dX9_beginBlock_83 : decode cX9_beginBlock 83 = .ok (.iadd, 1) := by decide +kernel
theorem dX9_beginBlock_84 : decode cX9_beginBlock 84 = .ok (.if_icmp .ge 25, 3) := by decide +kernel
theorem dX9_beginBlock_87 : decode cX9_beginBlock 87 = .ok (.aload_n 0, 1) := by decide +kernel
theorem dX9_beginBlock_88 : decode cX9_beginBlock 88 = .ok (.getfield 46, 3) := by decide +kernel
theorem dX9_beginBlock_91 : decode cX9_beginBlock 91 = .ok (.iload_n 3, 1) := by decide +kernel
theorem dX9_beginBlock_92 : decode cX9_beginBlock 92 = .ok (.aload_n 0, 1) := by decide +kernel
theorem dX9_beginBlock_93 : decode cX9_beginBlock 93 = .ok (.getfield 18, 3) := by decide +kernel
theorem dX9_beginBlock_96 : decode cX9_beginBlock 96 = .ok (.iload 5, 2) := by decide +kernel
theorem dX9_beginBlock_98 : decode cX9_beginBlock 98 = .ok (.iaload, 1) := by decide +kernel
theorem dX9_beginBlock_99 : decode cX9_beginBlock 99 = .ok (.iadd, 1) := by decide +kernel
theorem dX9_beginBlock_100 : decode cX9_beginBlock 100 = .ok (.iload 5, 2) := by decide +kernel
theorem dX9_beginBlock_102 : decode cX9_beginBlock 102 = .ok (.iastore, 1) := by decide +kernel
theorem dX9_beginBlock_103 : decode cX9_beginBlock 103 = .ok (.iinc 5 1, 3) := by decide +kernel
theorem dX9_beginBlock_106 : decode cX9_beginBlock 106 = .ok (.goto (-37), 3) := by decide +kernel
theorem dX9_beginBlock_109 : decode cX9_beginBlock 109 = .ok (.return_, 1) := by decide +kernel
theorem dX9_followBlock_0 : decode cX9_followBlock 0 = .ok (.iload_n 2, 1) := by decide +kernel
theorem dX9_followBlock_1 : decode cX9_followBlock 1 = .ok (.bipush 10, 2) := by decide +kernel
theorem dX9_followBlock_3 : decode cX9_followBlock 3 = .ok (.imul, 1) := by decide +kernel
theorem dX9_followBlock_4 : decode cX9_followBlock 4 = .ok (.istore_n 3, 1) := by decide +kernel
theorem dX9_followBlock_5 : decode cX9_followBlock 5 = .ok (.aload_n 1, 1) := by decide +kernel
theorem dX9_followBlock_6 : decode cX9_followBlock 6 = .ok (.getfield 111, 3) := by decide +kernel
theorem dX9_followBlock_9 : decode cX9_followBlock 9 = .ok (.iload_n 2, 1) := by decide +kernel
theorem dX9_followBlock_10 : decode cX9_followBlock 10 = .ok (.iaload, 1) := by decide +kernel
theorem dX9_followBlock_11 : decode cX9_followBlock 11 = .ok (.istore 4, 2) := by decide +kernel
theorem dX9_followBlock_13 : decode cX9_followBlock 13 = .ok (.iload 4, 2) := by decide +kernel
theorem dX9_followBlock_15 : decode cX9_followBlock 15 = .ok (.aload_n 1, 1) := by decide +kernel
theorem dX9_followBlock_16 : decode cX9_followBlock 16 = .ok (.getfield 111, 3) := by decide +kernel
theorem dX9_followBlock_19 : decode cX9_followBlock 19 = .ok (.iload_n 2, 1) := by decide +kernel
theorem dX9_followBlock_20 : decode cX9_followBlock 20 = .ok (.iconst 1, 1) := by decide +kernel
theorem dX9_followBlock_21 : decode cX9_followBlock 21 = .ok (.iadd, 1) := by decide +kernel
theorem dX9_followBlock_22 : decode cX9_followBlock 22 = .ok (.iaload, 1) := by decide +kernel
theorem dX9_followBlock_23 : decode cX9_followBlock 23 = .ok (.if_icmp .ge 185, 3) := by decide +kernel
theorem dX9_followBlock_26 : decode cX9_followBlock 26 = .ok (.aload_n 1, 1) := by decide +kernel
theorem dX9_followBlock_27 : decode cX9_followBlock 27 = .ok (.getfield 142, 3) := by decide +kernel
theorem dX9_followBlock_30 : decode cX9_followBlock 30 = .ok (.iload 4, 2) := by decide +kernel
theorem dX9_followBlock_32 : decode cX9_followBlock 32 = .ok (.iaload, 1) := by decide +kernel
theorem dX9_followBlock_33 : decode cX9_followBlock 33 = .ok (.istore 5, 2) := by decide +kernel
theorem dX9_followBlock_35 : decode cX9_followBlock 35 = .ok (.iload 5, 2) := by decide +kernel
theorem dX9_followBlock_37 : decode cX9_followBlock 37 = .ok (.bipush 14, 2) := by decide +kernel
theorem dX9_followBlock_39 : decode cX9_followBlock 39 = .ok (.if_icmp .ne 30, 3) := by decide +kernel
theorem dX9_followBlock_42 : decode cX9_followBlock 42 = .ok (.aload_n 0, 1) := by decide +kernel
theorem dX9_followBlock_43 : decode cX9_followBlock 43 = .ok (.getfield 30, 3) := by decide +kernel
theorem dX9_followBlock_46 : decode cX9_followBlock 46 = .ok (.getfield 149, 3) := by decide +kernel
theorem dX9_followBlock_49 : decode cX9_followBlock 49 = .ok (.iload 4, 2) := by decide +kernel
theorem dX9_followBlock_51 : decode cX9_followBlock 51 = .ok (.aload_n 0, 1) := by decide +kernel
theorem dX9_followBlock_52 : decode cX9_followBlock 52 = .ok (.getfield 46, 3) := by decide +kernel
theorem dX9_followBlock_55 : decode cX9_followBlock 55 = .ok (.iload_n 3, 1) := by decide +kernel
theorem dX9_followBlock_56 : decode cX9_followBlock 56 = .ok (.aload_n 1, 1) := by decide +kernel
theorem dX9_followBlock_57 : decode cX9_followBlock 57 = .ok (.getfield 143, 3) := by decide +kernel
theorem dX9_followBlock_60 : decode cX9_followBlock 60 = .ok (.iload 4, 2) := by decide +kernel
theorem dX9_followBlock_62 : decode cX9_followBlock 62 = .ok (.iaload, 1) := by decide +kernel
theorem dX9_followBlock_63 : decode cX9_followBlock 63 = .ok (.iadd, 1) := by decide +kernel
theorem dX9_followBlock_64 : decode cX9_followBlock 64 = .ok (.iaload, 1) := by decide +kernel
theorem dX9_followBlock_65 : decode cX9_followBlock 65 = .ok (.iastore, 1) := by decide +kernel
theorem dX9_followBlock_66 : decode cX9_followBlock 66 = .ok (.goto 136, 3) := by decide +kernel
theorem dX9_followBlock_69 : decode cX9_followBlock 69 = .ok (.iload 5, 2) := by decide +kernel
theorem dX9_followBlock_71 : decode cX9_followBlock 71 = .ok (.iconst 2, 1) := by decide +kernel
theorem dX9_followBlock_72 : decode cX9_followBlock 72 = .ok (.if_icmp .ne 34, 3) := by decide +kernel
theorem dX9_followBlock_75 : decode cX9_followBlock 75 = .ok (.aload_n 0, 1) := by decide +kernel
theorem dX9_followBlock_76 : decode cX9_followBlock 76 = .ok (.getfield 46, 3) := by decide +kernel
theorem dX9_followBlock_79 : decode cX9_followBlock 79 = .ok (.iload_n 3, 1) := by decide +kernel
theorem dX9_followBlock_80 : decode cX9_followBlock 80 = .ok (.aload_n 1, 1) := by decide +kernel
theorem dX9_followBlock_81 : decode cX9_followBlock 81 = .ok (.getfield 116, 3) := by decide +kernel
theorem dX9_followBlock_84 : decode cX9_followBlock 84 = .ok (.iload 4, 2) := by decide +kernel
theorem dX9_followBlock_86 : decode cX9_followBlock 86 = .ok (.iaload, 1) := by decide +kernel
theorem dX9_followBlock_87 : decode cX9_followBlock 87 = .ok (.iadd, 1) := by decide +kernel
theorem dX9_followBlock_88 : decode cX9_followBlock 88 = .ok (.aload_n 0, 1) := by decide +kernel
theorem dX9_followBlock_89 : decode cX9_followBlock 89 = .ok (.getfield 46, 3) := by decide +kernel
theorem dX9_followBlock_92 : decode cX9_followBlock 92 = .ok (.iload_n 3, 1) := by decide +kernel
theorem dX9_followBlock_93 : decode cX9_followBlock 93 = .ok (.aload_n 1, 1) := by decide +kernel
theorem dX9_followBlock_94 : decode cX9_followBlock 94 = .ok (.getfield 143, 3) := by decide +kernel
theorem dX9_followBlock_97 : decode cX9_followBlock 97 = .ok (.iload 4, 2) := by decide +kernel
theorem dX9_followBlock_99 : decode cX9_followBlock 99 = .ok (.iaload, 1) := by decide +kernel
theorem dX9_followBlock_100 : decode cX9_followBlock 100 = .ok (.iadd, 1) := by decide +kernel
theorem dX9_followBlock_101 : decode cX9_followBlock 101 = .ok (.iaload, 1) := by decide +kernel
theorem dX9_followBlock_102 : decode cX9_followBlock 102 = .ok (.iastore, 1) := by decide +kernel
theorem dX9_followBlock_103 : decode cX9_followBlock 103 = .ok (.goto 99, 3) := by decide +kernel
theorem dX9_followBlock_106 : decode cX9_followBlock 106 = .ok (.aload_n 0, 1) := by decide +kernel
theorem dX9_followBlock_107 : decode cX9_followBlock 107 = .ok (.getfield 34, 3) := by decide +kernel
theorem dX9_followBlock_110 : decode cX9_followBlock 110 = .ok (.iload 4, 2) := by decide +kernel
theorem dX9_followBlock_112 : decode cX9_followBlock 112 = .ok (.iaload, 1) := by decide +kernel
theorem dX9_followBlock_113 : decode cX9_followBlock 113 = .ok (.istore 6, 2) := by decide +kernel
theorem dX9_followBlock_115 : decode cX9_followBlock 115 = .ok (.iload 5, 2) := by decide +kernel
theorem dX9_followBlock_117 : decode cX9_followBlock 117 = .ok (.ifCond .eq 69, 3) := by decide +kernel
theorem dX9_followBlock_120 : decode cX9_followBlock 120 = .ok (.iload 5, 2) := by decide +kernel
theorem dX9_followBlock_122 : decode cX9_followBlock 122 = .ok (.iconst 1, 1) := by decide +kernel
theorem dX9_followBlock_123 : decode cX9_followBlock 123 = .ok (.if_icmp .eq 63, 3) := by decide +kernel
theorem dX9_followBlock_126 : decode cX9_followBlock 126 = .ok (.aload_n 0, 1) := by decide +kernel
theorem dX9_followBlock_127 : decode cX9_followBlock 127 = .ok (.getfield 30, 3) := by decide +kernel
theorem dX9_followBlock_130 : decode cX9_followBlock 130 = .ok (.getfield 152, 3) := by decide +kernel
theorem dX9_followBlock_133 : decode cX9_followBlock 133 = .ok (.aload_n 0, 1) := by decide +kernel
theorem dX9_followBlock_134 : decode cX9_followBlock 134 = .ok (.getfield 24, 3) := by decide +kernel
theorem dX9_followBlock_137 : decode cX9_followBlock 137 = .ok (.iload 6, 2) := by decide +kernel
theorem dX9_followBlock_139 : decode cX9_followBlock 139 = .ok (.iaload, 1) := by decide +kernel
theorem dX9_followBlock_140 : decode cX9_followBlock 140 = .ok (.aload_n 0, 1) := by decide +kernel
theorem dX9_followBlock_141 : decode cX9_followBlock 141 = .ok (.getfield 46, 3) := by decide +kernel
theorem dX9_followBlock_144 : decode cX9_followBlock 144 = .ok (.iload_n 3, 1) := by decide +kernel
theorem dX9_followBlock_145 : decode cX9_followBlock 145 = .ok (.aload_n 1, 1) := by decide +kernel
theorem dX9_followBlock_146 : decode cX9_followBlock 146 = .ok (.getfield 143, 3) := by decide +kernel
theorem dX9_followBlock_149 : decode cX9_followBlock 149 = .ok (.iload 4, 2) := by decide +kernel
theorem dX9_followBlock_151 : decode cX9_followBlock 151 = .ok (.iaload, 1) := by decide +kernel
theorem dX9_followBlock_152 : decode cX9_followBlock 152 = .ok (.iadd, 1) := by decide +kernel
theorem dX9_followBlock_153 : decode cX9_followBlock 153 = .ok (.iaload, 1) := by decide +kernel
theorem dX9_followBlock_154 : decode cX9_followBlock 154 = .ok (.iastore, 1) := by decide +kernel
theorem dX9_followBlock_155 : decode cX9_followBlock 155 = .ok (.aload_n 0, 1) := by decide +kernel
theorem dX9_followBlock_156 : decode cX9_followBlock 156 = .ok (.getfield 30, 3) := by decide +kernel
theorem dX9_followBlock_159 : decode cX9_followBlock 159 = .ok (.getfield 152, 3) := by decide +kernel
theorem dX9_followBlock_162 : decode cX9_followBlock 162 = .ok (.aload_n 0, 1) := by decide +kernel
theorem dX9_followBlock_163 : decode cX9_followBlock 163 = .ok (.getfield 24, 3) := by decide +kernel
theorem dX9_followBlock_166 : decode cX9_followBlock 166 = .ok (.iload 6, 2) := by decide +kernel
theorem dX9_followBlock_168 : decode cX9_followBlock 168 = .ok (.iaload, 1) := by decide +kernel
theorem dX9_followBlock_169 : decode cX9_followBlock 169 = .ok (.iconst 1, 1) := by decide +kernel
theorem dX9_followBlock_170 : decode cX9_followBlock 170 = .ok (.iadd, 1) := by decide +kernel
theorem dX9_followBlock_171 : decode cX9_followBlock 171 = .ok (.aload_n 0, 1) := by decide +kernel
theorem dX9_followBlock_172 : decode cX9_followBlock 172 = .ok (.getfield 46, 3) := by decide +kernel
theorem dX9_followBlock_175 : decode cX9_followBlock 175 = .ok (.iload_n 3, 1) := by decide +kernel
theorem dX9_followBlock_176 : decode cX9_followBlock 176 = .ok (.aload_n 1, 1) := by decide +kernel
theorem dX9_followBlock_177 : decode cX9_followBlock 177 = .ok (.getfield 155, 3) := by decide +kernel
theorem dX9_followBlock_180 : decode cX9_followBlock 180 = .ok (.iload 4, 2) := by decide +kernel
theorem dX9_followBlock_182 : decode cX9_followBlock 182 = .ok (.iaload, 1) := by decide +kernel
theorem dX9_followBlock_183 : decode cX9_followBlock 183 = .ok (.iadd, 1) := by decide +kernel
theorem dX9_followBlock_184 : decode cX9_followBlock 184 = .ok (.iaload, 1) := by decide +kernel
theorem dX9_followBlock_185 : decode cX9_followBlock 185 = .ok (.iastore, 1) := by decide +kernel
theorem dX9_followBlock_186 : decode cX9_followBlock 186 = .ok (.aload_n 0, 1) := by decide +kernel
theorem dX9_followBlock_187 : decode cX9_followBlock 187 = .ok (.getfield 46, 3) := by decide +kernel
theorem dX9_followBlock_190 : decode cX9_followBlock 190 = .ok (.iload_n 3, 1) := by decide +kernel
theorem dX9_followBlock_191 : decode cX9_followBlock 191 = .ok (.aload_n 1, 1) := by decide +kernel
theorem dX9_followBlock_192 : decode cX9_followBlock 192 = .ok (.getfield 116, 3) := by decide +kernel
theorem dX9_followBlock_195 : decode cX9_followBlock 195 = .ok (.iload 4, 2) := by decide +kernel
theorem dX9_followBlock_197 : decode cX9_followBlock 197 = .ok (.iaload, 1) := by decide +kernel
theorem dX9_followBlock_198 : decode cX9_followBlock 198 = .ok (.iadd, 1) := by decide +kernel
theorem dX9_followBlock_199 : decode cX9_followBlock 199 = .ok (.iload 6, 2) := by decide +kernel
theorem dX9_followBlock_201 : decode cX9_followBlock 201 = .ok (.iastore, 1) := by decide +kernel
theorem dX9_followBlock_202 : decode cX9_followBlock 202 = .ok (.iinc 4 1, 3) := by decide +kernel
theorem dX9_followBlock_205 : decode cX9_followBlock 205 = .ok (.goto (-192), 3) := by decide +kernel
theorem dX9_followBlock_208 : decode cX9_followBlock 208 = .ok (.aload_n 1, 1) := by decide +kernel
theorem dX9_followBlock_209 : decode cX9_followBlock 209 = .ok (.iload_n 2, 1) := by decide +kernel
theorem dX9_followBlock_210 : decode cX9_followBlock 210 = .ok (.invokevirtual 158, 3) := by decide +kernel
theorem dX9_followBlock_213 : decode cX9_followBlock 213 = .ok (.iconst 1, 1) := by decide +kernel
theorem dX9_followBlock_214 : decode cX9_followBlock 214 = .ok (.if_icmp .ne 7, 3) := by decide +kernel
theorem dX9_followBlock_217 : decode cX9_followBlock 217 = .ok (.iconst 1, 1) := by decide +kernel
theorem dX9_followBlock_218 : decode cX9_followBlock 218 = .ok (.goto 4, 3) := by decide +kernel
theorem dX9_followBlock_221 : decode cX9_followBlock 221 = .ok (.iconst 0, 1) := by decide +kernel
theorem dX9_followBlock_222 : decode cX9_followBlock 222 = .ok (.istore 4, 2) := by decide +kernel
theorem dX9_followBlock_224 : decode cX9_followBlock 224 = .ok (.aload_n 0, 1) := by decide +kernel
theorem dX9_followBlock_225 : decode cX9_followBlock 225 = .ok (.getfield 30, 3) := by decide +kernel
theorem dX9_followBlock_228 : decode cX9_followBlock 228 = .ok (.getfield 161, 3) := by decide +kernel
theorem dX9_followBlock_231 : decode cX9_followBlock 231 = .ok (.iload_n 2, 1) := by decide +kernel
theorem dX9_followBlock_232 : decode cX9_followBlock 232 = .ok (.iload 4, 2) := by decide +kernel
theorem dX9_followBlock_234 : decode cX9_followBlock 234 = .ok (.ifCond .eq 7, 3) := by decide +kernel
theorem dX9_followBlock_237 : decode cX9_followBlock 237 = .ok (.iconst (-1), 1) := by decide +kernel
theorem dX9_followBlock_238 : decode cX9_followBlock 238 = .ok (.goto 15, 3) := by decide +kernel
theorem dX9_followBlock_241 : decode cX9_followBlock 241 = .ok (.aload_n 0, 1) := by decide +kernel
theorem dX9_followBlock_242 : decode cX9_followBlock 242 = .ok (.getfield 46, 3) := by decide +kernel
theorem dX9_followBlock_245 : decode cX9_followBlock 245 = .ok (.iload_n 3, 1) := by decide +kernel
theorem dX9_followBlock_246 : decode cX9_followBlock 246 = .ok (.aload_n 1, 1) := by decide +kernel
theorem dX9_followBlock_247 : decode cX9_followBlock 247 = .ok (.iload_n 2, 1) := by decide +kernel
theorem dX9_followBlock_248 : decode cX9_followBlock 248 = .ok (.invokevirtual 164, 3) := by decide +kernel
theorem dX9_followBlock_251 : decode cX9_followBlock 251 = .ok (.iadd, 1) := by decide +kernel
theorem dX9_followBlock_252 : decode cX9_followBlock 252 = .ok (.iaload, 1) := by decide +kernel
theorem dX9_followBlock_253 : decode cX9_followBlock 253 = .ok (.iastore, 1) := by decide +kernel
theorem dX9_followBlock_254 : decode cX9_followBlock 254 = .ok (.return_, 1) := by decide +kernel
theorem dX9_fillChoices_0 : decode cX9_fillChoices 0 = .ok (.iconst 0, 1) := by decide +kernel
theorem dX9_fillChoices_1 : decode cX9_fillChoices 1 = .ok (.istore_n 2, 1) := by decide +kernel
theorem dX9_fillChoices_2 : decode cX9_fillChoices 2 = .ok (.iload_n 2, 1) := by decide +kernel
theorem dX9_fillChoices_3 : decode cX9_fillChoices 3 = .ok (.bipush 16, 2) := by decide +kernel
theorem dX9_fillChoices_5 : decode cX9_fillChoices 5 = .ok (.if_icmp .ge 50, 3) := by decide +kernel
theorem dX9_fillChoices_8 : decode cX9_fillChoices 8 = .ok (.aload_n 0, 1) := by decide +kernel
theorem dX9_fillChoices_9 : decode cX9_fillChoices 9 = .ok (.getfield 37, 3) := by decide +kernel
theorem dX9_fillChoices_12 : decode cX9_fillChoices 12 = .ok (.iload_n 2, 1) := by decide +kernel
theorem dX9_fillChoices_13 : decode cX9_fillChoices 13 = .ok (.iaload, 1) := by decide +kernel
theorem dX9_fillChoices_14 : decode cX9_fillChoices 14 = .ok (.istore_n 3, 1) := by decide +kernel
theorem dX9_fillChoices_15 : decode cX9_fillChoices 15 = .ok (.iload_n 3, 1) := by decide +kernel
theorem dX9_fillChoices_16 : decode cX9_fillChoices 16 = .ok (.aload_n 0, 1) := by decide +kernel
theorem dX9_fillChoices_17 : decode cX9_fillChoices 17 = .ok (.getfield 37, 3) := by decide +kernel
theorem dX9_fillChoices_20 : decode cX9_fillChoices 20 = .ok (.iload_n 2, 1) := by decide +kernel
theorem dX9_fillChoices_21 : decode cX9_fillChoices 21 = .ok (.iaload, 1) := by decide +kernel
theorem dX9_fillChoices_22 : decode cX9_fillChoices 22 = .ok (.aload_n 0, 1) := by decide +kernel
theorem dX9_fillChoices_23 : decode cX9_fillChoices 23 = .ok (.getfield 40, 3) := by decide +kernel
theorem dX9_fillChoices_26 : decode cX9_fillChoices 26 = .ok (.iload_n 2, 1) := by decide +kernel
theorem dX9_fillChoices_27 : decode cX9_fillChoices 27 = .ok (.iaload, 1) := by decide +kernel
theorem dX9_fillChoices_28 : decode cX9_fillChoices 28 = .ok (.iadd, 1) := by decide +kernel
theorem dX9_fillChoices_29 : decode cX9_fillChoices 29 = .ok (.if_icmp .ge 20, 3) := by decide +kernel
theorem dX9_fillChoices_32 : decode cX9_fillChoices 32 = .ok (.aload_n 0, 1) := by decide +kernel
theorem dX9_fillChoices_33 : decode cX9_fillChoices 33 = .ok (.iload_n 3, 1) := by decide +kernel
theorem dX9_fillChoices_34 : decode cX9_fillChoices 34 = .ok (.aload_n 1, 1) := by decide +kernel
theorem dX9_fillChoices_35 : decode cX9_fillChoices 35 = .ok (.getfield 135, 3) := by decide +kernel
theorem dX9_fillChoices_38 : decode cX9_fillChoices 38 = .ok (.iload_n 2, 1) := by decide +kernel
theorem dX9_fillChoices_39 : decode cX9_fillChoices 39 = .ok (.iaload, 1) := by decide +kernel
theorem dX9_fillChoices_40 : decode cX9_fillChoices 40 = .ok (.invokevirtual 167, 3) := by decide +kernel
theorem dX9_fillChoices_43 : decode cX9_fillChoices 43 = .ok (.iinc 3 1, 3) := by decide +kernel
theorem dX9_fillChoices_46 : decode cX9_fillChoices 46 = .ok (.goto (-31), 3) := by decide +kernel
theorem dX9_fillChoices_49 : decode cX9_fillChoices 49 = .ok (.iinc 2 1, 3) := by decide +kernel
theorem dX9_fillChoices_52 : decode cX9_fillChoices 52 = .ok (.goto (-50), 3) := by decide +kernel
theorem dX9_fillChoices_55 : decode cX9_fillChoices 55 = .ok (.return_, 1) := by decide +kernel
theorem dX9_fillChoice_0 : decode cX9_fillChoice 0 = .ok (.aload_n 0, 1) := by decide +kernel
theorem dX9_fillChoice_1 : decode cX9_fillChoice 1 = .ok (.getfield 24, 3) := by decide +kernel
theorem dX9_fillChoice_4 : decode cX9_fillChoice 4 = .ok (.iload_n 1, 1) := by decide +kernel
theorem dX9_fillChoice_5 : decode cX9_fillChoice 5 = .ok (.iaload, 1) := by decide +kernel
theorem dX9_fillChoice_6 : decode cX9_fillChoice 6 = .ok (.istore_n 3, 1) := by decide +kernel
theorem dX9_fillChoice_7 : decode cX9_fillChoice 7 = .ok (.iconst 0, 1) := by decide +kernel
theorem dX9_fillChoice_8 : decode cX9_fillChoice 8 = .ok (.istore 4, 2) := by decide +kernel
theorem dX9_fillChoice_10 : decode cX9_fillChoice 10 = .ok (.iload 4, 2) := by decide +kernel
theorem dX9_fillChoice_12 : decode cX9_fillChoice 12 = .ok (.bipush 16, 2) := by decide +kernel
theorem dX9_fillChoice_14 : decode cX9_fillChoice 14 = .ok (.if_icmp .ge 47, 3) := by decide +kernel
theorem dX9_fillChoice_17 : decode cX9_fillChoice 17 = .ok (.iload_n 2, 1) := by decide +kernel
theorem dX9_fillChoice_18 : decode cX9_fillChoice 18 = .ok (.iload 4, 2) := by decide +kernel
theorem dX9_fillChoice_20 : decode cX9_fillChoice 20 = .ok (.invokestatic 138, 3) := by decide +kernel
theorem dX9_fillChoice_23 : decode cX9_fillChoice 23 = .ok (.ifCond .eq 32, 3) := by decide +kernel
theorem dX9_fillChoice_26 : decode cX9_fillChoice 26 = .ok (.aload_n 0, 1) := by decide +kernel
theorem dX9_fillChoice_27 : decode cX9_fillChoice 27 = .ok (.getfield 30, 3) := by decide +kernel
theorem dX9_fillChoice_30 : decode cX9_fillChoice 30 = .ok (.getfield 152, 3) := by decide +kernel
theorem dX9_fillChoice_33 : decode cX9_fillChoice 33 = .ok (.iload_n 3, 1) := by decide +kernel
theorem dX9_fillChoice_34 : decode cX9_fillChoice 34 = .ok (.aload_n 0, 1) := by decide +kernel
theorem dX9_fillChoice_35 : decode cX9_fillChoice 35 = .ok (.getfield 46, 3) := by decide +kernel
theorem dX9_fillChoice_38 : decode cX9_fillChoice 38 = .ok (.iload 4, 2) := by decide +kernel
theorem dX9_fillChoice_40 : decode cX9_fillChoice 40 = .ok (.bipush 10, 2) := by decide +kernel
theorem dX9_fillChoice_42 : decode cX9_fillChoice 42 = .ok (.imul, 1) := by decide +kernel
theorem dX9_fillChoice_43 : decode cX9_fillChoice 43 = .ok (.aload_n 0, 1) := by decide +kernel
theorem dX9_fillChoice_44 : decode cX9_fillChoice 44 = .ok (.getfield 18, 3) := by decide +kernel
theorem dX9_fillChoice_47 : decode cX9_fillChoice 47 = .ok (.iload_n 1, 1) := by decide +kernel
theorem dX9_fillChoice_48 : decode cX9_fillChoice 48 = .ok (.iaload, 1) := by decide +kernel
theorem dX9_fillChoice_49 : decode cX9_fillChoice 49 = .ok (.iadd, 1) := by decide +kernel
theorem dX9_fillChoice_50 : decode cX9_fillChoice 50 = .ok (.iaload, 1) := by decide +kernel
theorem dX9_fillChoice_51 : decode cX9_fillChoice 51 = .ok (.iastore, 1) := by decide +kernel
theorem dX9_fillChoice_52 : decode cX9_fillChoice 52 = .ok (.iinc 3 1, 3) := by decide +kernel
theorem dX9_fillChoice_55 : decode cX9_fillChoice 55 = .ok (.iinc 4 1, 3) := by decide +kernel
theorem dX9_fillChoice_58 : decode cX9_fillChoice 58 = .ok (.goto (-48), 3) := by decide +kernel
theorem dX9_fillChoice_61 : decode cX9_fillChoice 61 = .ok (.aload_n 0, 1) := by decide +kernel
theorem dX9_fillChoice_62 : decode cX9_fillChoice 62 = .ok (.getfield 15, 3) := by decide +kernel
theorem dX9_fillChoice_65 : decode cX9_fillChoice 65 = .ok (.iload_n 1, 1) := by decide +kernel
theorem dX9_fillChoice_66 : decode cX9_fillChoice 66 = .ok (.iaload, 1) := by decide +kernel
theorem dX9_fillChoice_67 : decode cX9_fillChoice 67 = .ok (.ifCond .ne 13, 3) := by decide +kernel
theorem dX9_fillChoice_70 : decode cX9_fillChoice 70 = .ok (.aload_n 0, 1) := by decide +kernel
theorem dX9_fillChoice_71 : decode cX9_fillChoice 71 = .ok (.getfield 30, 3) := by decide +kernel
theorem dX9_fillChoice_74 : decode cX9_fillChoice 74 = .ok (.getfield 152, 3) := by decide +kernel
theorem dX9_fillChoice_77 : decode cX9_fillChoice 77 = .ok (.iload_n 3, 1) := by decide +kernel
theorem dX9_fillChoice_78 : decode cX9_fillChoice 78 = .ok (.iconst 0, 1) := by decide +kernel
theorem dX9_fillChoice_79 : decode cX9_fillChoice 79 = .ok (.iastore, 1) := by decide +kernel
theorem dX9_fillChoice_80 : decode cX9_fillChoice 80 = .ok (.return_, 1) := by decide +kernel
theorem dX10_init_0 : decode cX10_init 0 = .ok (.aload_n 0, 1) := by decide +kernel
theorem dX10_init_1 : decode cX10_init 1 = .ok (.invokespecial 3, 3) := by decide +kernel
theorem dX10_init_4 : decode cX10_init 4 = .ok (.aload_n 0, 1) := by decide +kernel
theorem dX10_init_5 : decode cX10_init 5 = .ok (.new 9, 3) := by decide +kernel
theorem dX10_init_8 : decode cX10_init 8 = .ok (.dup, 1) := by decide +kernel
theorem dX10_init_9 : decode cX10_init 9 = .ok (.invokespecial 11, 3) := by decide +kernel
theorem dX10_init_12 : decode cX10_init 12 = .ok (.putfield 12, 3) := by decide +kernel
theorem dX10_init_15 : decode cX10_init 15 = .ok (.aload_n 0, 1) := by decide +kernel
theorem dX10_init_16 : decode cX10_init 16 = .ok (.new 16, 3) := by decide +kernel
theorem dX10_init_19 : decode cX10_init 19 = .ok (.dup, 1) := by decide +kernel
theorem dX10_init_20 : decode cX10_init 20 = .ok (.invokespecial 18, 3) := by decide +kernel
theorem dX10_init_23 : decode cX10_init 23 = .ok (.putfield 19, 3) := by decide +kernel
theorem dX10_init_26 : decode cX10_init 26 = .ok (.aload_n 0, 1) := by decide +kernel
theorem dX10_init_27 : decode cX10_init 27 = .ok (.new 23, 3) := by decide +kernel
theorem dX10_init_30 : decode cX10_init 30 = .ok (.dup, 1) := by decide +kernel
theorem dX10_init_31 : decode cX10_init 31 = .ok (.invokespecial 25, 3) := by decide +kernel
theorem dX10_init_34 : decode cX10_init 34 = .ok (.putfield 26, 3) := by decide +kernel
theorem dX10_init_37 : decode cX10_init 37 = .ok (.aload_n 0, 1) := by decide +kernel
theorem dX10_init_38 : decode cX10_init 38 = .ok (.new 30, 3) := by decide +kernel
theorem dX10_init_41 : decode cX10_init 41 = .ok (.dup, 1) := by decide +kernel
theorem dX10_init_42 : decode cX10_init 42 = .ok (.invokespecial 32, 3) := by decide +kernel
theorem dX10_init_45 : decode cX10_init 45 = .ok (.putfield 33, 3) := by decide +kernel
theorem dX10_init_48 : decode cX10_init 48 = .ok (.aload_n 0, 1) := by decide +kernel
theorem dX10_init_49 : decode cX10_init 49 = .ok (.new 37, 3) := by decide +kernel
theorem dX10_init_52 : decode cX10_init 52 = .ok (.dup, 1) := by decide +kernel
theorem dX10_init_53 : decode cX10_init 53 = .ok (.invokespecial 39, 3) := by decide +kernel
theorem dX10_init_56 : decode cX10_init 56 = .ok (.putfield 40, 3) := by decide +kernel
theorem dX10_init_59 : decode cX10_init 59 = .ok (.aload_n 0, 1) := by decide +kernel
theorem dX10_init_60 : decode cX10_init 60 = .ok (.new 44, 3) := by decide +kernel
theorem dX10_init_63 : decode cX10_init 63 = .ok (.dup, 1) := by decide +kernel
theorem dX10_init_64 : decode cX10_init 64 = .ok (.aload_n 0, 1) := by decide +kernel
theorem dX10_init_65 : decode cX10_init 65 = .ok (.getfield 12, 3) := by decide +kernel
theorem dX10_init_68 : decode cX10_init 68 = .ok (.invokespecial 46, 3) := by decide +kernel
theorem dX10_init_71 : decode cX10_init 71 = .ok (.putfield 49, 3) := by decide +kernel
theorem dX10_init_74 : decode cX10_init 74 = .ok (.aload_n 0, 1) := by decide +kernel
theorem dX10_init_75 : decode cX10_init 75 = .ok (.new 53, 3) := by decide +kernel
theorem dX10_init_78 : decode cX10_init 78 = .ok (.dup, 1) := by decide +kernel
theorem dX10_init_79 : decode cX10_init 79 = .ok (.aload_n 0, 1) := by decide +kernel
theorem dX10_init_80 : decode cX10_init 80 = .ok (.getfield 12, 3) := by decide +kernel
theorem dX10_init_83 : decode cX10_init 83 = .ok (.aload_n 0, 1) := by decide +kernel
theorem dX10_init_84 : decode cX10_init 84 = .ok (.getfield 19, 3) := by decide +kernel
theorem dX10_init_87 : decode cX10_init 87 = .ok (.aload_n 0, 1) := by decide +kernel
theorem dX10_init_88 : decode cX10_init 88 = .ok (.getfield 26, 3) := by decide +kernel
theorem dX10_init_91 : decode cX10_init 91 = .ok (.aconst_null, 1) := by decide +kernel
theorem dX10_init_92 : decode cX10_init 92 = .ok (.invokespecial 55, 3) := by decide +kernel
theorem dX10_init_95 : decode cX10_init 95 = .ok (.putfield 58, 3) := by decide +kernel
theorem dX10_init_98 : decode cX10_init 98 = .ok (.aload_n 0, 1) := by decide +kernel
theorem dX10_init_99 : decode cX10_init 99 = .ok (.new 53, 3) := by decide +kernel
theorem dX10_init_102 : decode cX10_init 102 = .ok (.dup, 1) := by decide +kernel
theorem dX10_init_103 : decode cX10_init 103 = .ok (.aload_n 0, 1) := by decide +kernel
theorem dX10_init_104 : decode cX10_init 104 = .ok (.getfield 12, 3) := by decide +kernel
theorem dX10_init_107 : decode cX10_init 107 = .ok (.aload_n 0, 1) := by decide +kernel
theorem dX10_init_108 : decode cX10_init 108 = .ok (.getfield 19, 3) := by decide +kernel
theorem dX10_init_111 : decode cX10_init 111 = .ok (.aload_n 0, 1) := by decide +kernel
theorem dX10_init_112 : decode cX10_init 112 = .ok (.getfield 26, 3) := by decide +kernel
theorem dX10_init_115 : decode cX10_init 115 = .ok (.aload_n 0, 1) := by decide +kernel
theorem dX10_init_116 : decode cX10_init 116 = .ok (.getfield 40, 3) := by decide +kernel
theorem dX10_init_119 : decode cX10_init 119 = .ok (.invokespecial 55, 3) := by decide +kernel
theorem dX10_init_122 : decode cX10_init 122 = .ok (.putfield 61, 3) := by decide +kernel
theorem dX10_init_125 : decode cX10_init 125 = .ok (.aload_n 0, 1) := by decide +kernel
theorem dX10_init_126 : decode cX10_init 126 = .ok (.new 64, 3) := by decide +kernel
theorem dX10_init_129 : decode cX10_init 129 = .ok (.dup, 1) := by decide +kernel
theorem dX10_init_130 : decode cX10_init 130 = .ok (.aload_n 0, 1) := by decide +kernel
theorem dX10_init_131 : decode cX10_init 131 = .ok (.getfield 12, 3) := by decide +kernel
theorem dX10_init_134 : decode cX10_init 134 = .ok (.invokespecial 66, 3) := by decide +kernel
theorem dX10_init_137 : decode cX10_init 137 = .ok (.putfield 67, 3) := by decide +kernel
theorem dX10_init_140 : decode cX10_init 140 = .ok (.aload_n 0, 1) := by decide +kernel
theorem dX10_init_141 : decode cX10_init 141 = .ok (.iconst 1, 1) := by decide +kernel
theorem dX10_init_142 : decode cX10_init 142 = .ok (.putfield 71, 3) := by decide +kernel
theorem dX10_init_145 : decode cX10_init 145 = .ok (.return_, 1) := by decide +kernel
theorem dX10_block_0 : decode cX10_block 0 = .ok (.aload_n 0, 1) := by decide +kernel
theorem dX10_block_1 : decode cX10_block 1 = .ok (.getfield 12, 3) := by decide +kernel
theorem dX10_block_4 : decode cX10_block 4 = .ok (.getfield 75, 3) := by decide +kernel
theorem dX10_block_7 : decode cX10_block 7 = .ok (.bipush 16, 2) := by decide +kernel
theorem dX10_block_9 : decode cX10_block 9 = .ok (.if_icmp .lt 5, 3) := by decide +kernel
theorem dX10_block_12 : decode cX10_block 12 = .ok (.iconst (-1), 1) := by decide +kernel
theorem dX10_block_13 : decode cX10_block 13 = .ok (.ireturn, 1) := by decide +kernel
theorem dX10_block_14 : decode cX10_block 14 = .ok (.aload_n 0, 1) := by decide +kernel
theorem dX10_block_15 : decode cX10_block 15 = .ok (.iconst 1, 1) := by decide +kernel
theorem dX10_block_16 : decode cX10_block 16 = .ok (.putfield 71, 3) := by decide +kernel
theorem dX10_block_19 : decode cX10_block 19 = .ok (.aload_n 0, 1) := by decide +kernel
theorem dX10_block_20 : decode cX10_block 20 = .ok (.getfield 12, 3) := by decide +kernel
theorem dX10_block_23 : decode cX10_block 23 = .ok (.dup, 1) := by decide +kernel
theorem dX10_block_24 : decode cX10_block 24 = .ok (.getfield 75, 3) := by decide +kernel
theorem dX10_block_27 : decode cX10_block 27 = .ok (.iconst 1, 1) := by decide +kernel
theorem dX10_block_28 : decode cX10_block 28 = .ok (.iadd, 1) := by decide +kernel
theorem dX10_block_29 : decode cX10_block 29 = .ok (.putfield 75, 3) := by decide +kernel
theorem dX10_block_32 : decode cX10_block 32 = .ok (.aload_n 0, 1) := by decide +kernel
theorem dX10_block_33 : decode cX10_block 33 = .ok (.getfield 12, 3) := by decide +kernel
theorem dX10_block_36 : decode cX10_block 36 = .ok (.getfield 75, 3) := by decide +kernel
theorem dX10_block_39 : decode cX10_block 39 = .ok (.iconst 1, 1) := by decide +kernel
theorem dX10_block_40 : decode cX10_block 40 = .ok (.isub, 1) := by decide +kernel
theorem dX10_block_41 : decode cX10_block 41 = .ok (.ireturn, 1) := by decide +kernel
theorem dX10_put_0 : decode cX10_put 0 = .ok (.aload_n 0, 1) := by decide +kernel
theorem dX10_put_1 : decode cX10_put 1 = .ok (.getfield 12, 3) := by decide +kernel
theorem dX10_put_4 : decode cX10_put 4 = .ok (.iload_n 1, 1) := by decide +kernel
theorem dX10_put_5 : decode cX10_put 5 = .ok (.invokevirtual 79, 3) := by decide +kernel
theorem dX10_put_8 : decode cX10_put 8 = .ok (.ifCond .eq 27, 3) := by decide +kernel
theorem dX10_put_11 : decode cX10_put 11 = .ok (.aload_n 0, 1) := by decide +kernel
theorem dX10_put_12 : decode cX10_put 12 = .ok (.getfield 12, 3) := by decide +kernel
theorem dX10_put_15 : decode cX10_put 15 = .ok (.invokevirtual 83, 3) := by decide +kernel
theorem dX10_put_18 : decode cX10_put 18 = .ok (.bipush 100, 2) := by decide +kernel
theorem dX10_put_20 : decode cX10_put 20 = .ok (.if_icmp .ge 15, 3) := by decide +kernel
theorem dX10_put_23 : decode cX10_put 23 = .ok (.iload_n 2, 1) := by decide +kernel
theorem dX10_put_24 : decode cX10_put 24 = .ok (.iload_n 3, 1) := by decide +kernel
theorem dX10_put_25 : decode cX10_put 25 = .ok (.iload 4, 2) := by decide +kernel
theorem dX10_put_27 : decode cX10_put 27 = .ok (.iload 5, 2) := by decide +kernel
theorem dX10_put_29 : decode cX10_put 29 = .ok (.invokestatic 87, 3) := by decide +kernel
theorem dX10_put_32 : decode cX10_put 32 = .ok (.ifCond .ne 5, 3) := by decide +kernel
theorem dX10_put_35 : decode cX10_put 35 = .ok (.iconst (-1), 1) := by decide +kernel
theorem dX10_put_36 : decode cX10_put 36 = .ok (.ireturn, 1) := by decide +kernel
theorem dX10_put_37 : decode cX10_put 37 = .ok (.aload_n 0, 1) := by decide +kernel
theorem dX10_put_38 : decode cX10_put 38 = .ok (.iconst 1, 1) := by decide +kernel
theorem dX10_put_39 : decode cX10_put 39 = .ok (.putfield 71, 3) := by decide +kernel
theorem dX10_put_42 : decode cX10_put 42 = .ok (.iload_n 2, 1) := by decide +kernel
theorem dX10_put_43 : decode cX10_put 43 = .ok (.bipush 14, 2) := by decide +kernel
theorem dX10_put_45 : decode cX10_put 45 = .ok (.if_icmp .ne 18, 3) := by decide +kernel
theorem dX10_put_48 : decode cX10_put 48 = .ok (.aload_n 0, 1) := by decide +kernel
theorem dX10_put_49 : decode cX10_put 49 = .ok (.getfield 12, 3) := by decide +kernel
theorem dX10_put_52 : decode cX10_put 52 = .ok (.iload_n 1, 1) := by decide +kernel
theorem dX10_put_53 : decode cX10_put 53 = .ok (.iload_n 2, 1) := by decide +kernel
theorem dX10_put_54 : decode cX10_put 54 = .ok (.iconst (-1), 1) := by decide +kernel
theorem dX10_put_55 : decode cX10_put 55 = .ok (.iload_n 3, 1) := by decide +kernel
theorem dX10_put_56 : decode cX10_put 56 = .ok (.iconst (-1), 1) := by decide +kernel
theorem dX10_put_57 : decode cX10_put 57 = .ok (.invokevirtual 91, 3) := by decide +kernel
theorem dX10_put_60 : decode cX10_put 60 = .ok (.goto 17, 3) := by decide +kernel
theorem dX10_put_63 : decode cX10_put 63 = .ok (.aload_n 0, 1) := by decide +kernel
theorem dX10_put_64 : decode cX10_put 64 = .ok (.getfield 12, 3) := by decide +kernel
theorem dX10_put_67 : decode cX10_put 67 = .ok (.iload_n 1, 1) := by decide +kernel
theorem dX10_put_68 : decode cX10_put 68 = .ok (.iload_n 2, 1) := by decide +kernel
theorem dX10_put_69 : decode cX10_put 69 = .ok (.iload_n 3, 1) := by decide +kernel
theorem dX10_put_70 : decode cX10_put 70 = .ok (.iload 4, 2) := by decide +kernel
theorem dX10_put_72 : decode cX10_put 72 = .ok (.iload 5, 2) := by decide +kernel
theorem dX10_put_74 : decode cX10_put 74 = .ok (.invokevirtual 91, 3) := by decide +kernel
theorem dX10_put_77 : decode cX10_put 77 = .ok (.aload_n 0, 1) := by decide +kernel
theorem dX10_put_78 : decode cX10_put 78 = .ok (.getfield 12, 3) := by decide +kernel
theorem dX10_put_81 : decode cX10_put 81 = .ok (.invokevirtual 83, 3) := by decide +kernel
theorem dX10_put_84 : decode cX10_put 84 = .ok (.ireturn, 1) := by decide +kernel
theorem dX10_ends_0 : decode cX10_ends 0 = .ok (.aload_n 0, 1) := by decide +kernel
theorem dX10_ends_1 : decode cX10_ends 1 = .ok (.getfield 12, 3) := by decide +kernel
theorem dX10_ends_4 : decode cX10_ends 4 = .ok (.iload_n 1, 1) := by decide +kernel
theorem dX10_ends_5 : decode cX10_ends 5 = .ok (.invokevirtual 79, 3) := by decide +kernel
theorem dX10_ends_8 : decode cX10_ends 8 = .ok (.ifCond .eq 15, 3) := by decide +kernel
theorem dX10_ends_11 : decode cX10_ends 11 = .ok (.iload_n 2, 1) := by decide +kernel
theorem dX10_ends_12 : decode cX10_ends 12 = .ok (.iload_n 3, 1) := by decide +kernel
theorem dX10_ends_13 : decode cX10_ends 13 = .ok (.iload 4, 2) := by decide +kernel
theorem dX10_ends_15 : decode cX10_ends 15 = .ok (.iload 5, 2) := by decide +kernel
theorem dX10_ends_17 : decode cX10_ends 17 = .ok (.invokestatic 95, 3) := by decide +kernel
theorem dX10_ends_20 : decode cX10_ends 20 = .ok (.ifCond .ne 5, 3) := by decide +kernel
theorem dX10_ends_23 : decode cX10_ends 23 = .ok (.iconst 0, 1) := by decide +kernel
theorem dX10_ends_24 : decode cX10_ends 24 = .ok (.ireturn, 1) := by decide +kernel
theorem dX10_ends_25 : decode cX10_ends 25 = .ok (.aload_n 0, 1) := by decide +kernel
theorem dX10_ends_26 : decode cX10_ends 26 = .ok (.iconst 1, 1) := by decide +kernel
theorem dX10_ends_27 : decode cX10_ends 27 = .ok (.putfield 71, 3) := by decide +kernel
theorem dX10_ends_30 : decode cX10_ends 30 = .ok (.aload_n 0, 1) := by decide +kernel
theorem dX10_ends_31 : decode cX10_ends 31 = .ok (.getfield 12, 3) := by decide +kernel
theorem dX10_ends_34 : decode cX10_ends 34 = .ok (.iload_n 1, 1) := by decide +kernel
theorem dX10_ends_35 : decode cX10_ends 35 = .ok (.iload_n 2, 1) := by decide +kernel
theorem dX10_ends_36 : decode cX10_ends 36 = .ok (.iload_n 3, 1) := by decide +kernel
theorem dX10_ends_37 : decode cX10_ends 37 = .ok (.iload 4, 2) := by decide +kernel
theorem dX10_ends_39 : decode cX10_ends 39 = .ok (.iload 5, 2) := by decide +kernel
theorem dX10_ends_41 : decode cX10_ends 41 = .ok (.invokevirtual 98, 3) := by decide +kernel
theorem dX10_ends_44 : decode cX10_ends 44 = .ok (.iconst 1, 1) := by decide +kernel
theorem dX10_ends_45 : decode cX10_ends 45 = .ok (.ireturn, 1) := by decide +kernel
theorem dX10_clear_0 : decode cX10_clear 0 = .ok (.aload_n 0, 1) := by decide +kernel
theorem dX10_clear_1 : decode cX10_clear 1 = .ok (.getfield 12, 3) := by decide +kernel
theorem dX10_clear_4 : decode cX10_clear 4 = .ok (.getfield 75, 3) := by decide +kernel
theorem dX10_clear_7 : decode cX10_clear 7 = .ok (.istore_n 1, 1) := by decide +kernel
theorem dX10_clear_8 : decode cX10_clear 8 = .ok (.aload_n 0, 1) := by decide +kernel
theorem dX10_clear_9 : decode cX10_clear 9 = .ok (.iconst 1, 1) := by decide +kernel
theorem dX10_clear_10 : decode cX10_clear 10 = .ok (.putfield 71, 3) := by decide +kernel
theorem dX10_clear_13 : decode cX10_clear 13 = .ok (.aload_n 0, 1) := by decide +kernel
theorem dX10_clear_14 : decode cX10_clear 14 = .ok (.getfield 12, 3) := by decide +kernel
theorem dX10_clear_17 : decode cX10_clear 17 = .ok (.invokevirtual 101, 3) := by decide +kernel
theorem dX10_clear_20 : decode cX10_clear 20 = .ok (.iload_n 1, 1) := by decide +kernel
theorem dX10_clear_21 : decode cX10_clear 21 = .ok (.ireturn, 1) := by decide +kernel
theorem dX10_about_0 : decode cX10_about 0 = .ok (.aload_n 0, 1) := by decide +kernel
theorem dX10_about_1 : decode cX10_about 1 = .ok (.getfield 12, 3) := by decide +kernel
theorem dX10_about_4 : decode cX10_about 4 = .ok (.iload_n 1, 1) := by decide +kernel
theorem dX10_about_5 : decode cX10_about 5 = .ok (.invokevirtual 79, 3) := by decide +kernel
theorem dX10_about_8 : decode cX10_about 8 = .ok (.ifCond .ne 5, 3) := by decide +kernel
theorem dX10_about_11 : decode cX10_about 11 = .ok (.iconst (-1), 1) := by decide +kernel
theorem dX10_about_12 : decode cX10_about 12 = .ok (.ireturn, 1) := by decide +kernel
theorem dX10_about_13 : decode cX10_about 13 = .ok (.aload_n 0, 1) := by decide +kernel
theorem dX10_about_14 : decode cX10_about 14 = .ok (.invokevirtual 104, 3) := by decide +kernel
theorem dX10_about_17 : decode cX10_about 17 = .ok (.iload_n 2, 1) := by decide +kernel
theorem dX10_about_18 : decode cX10_about 18 = .ok (.lookupswitch 82 #[(0, 34), (3, 51), (6, 73)], 34) := by decide +kernel
theorem dX10_about_52 : decode cX10_about 52 = .ok (.aload_n 0, 1) := by decide +kernel
theorem dX10_about_53 : decode cX10_about 53 = .ok (.getfield 19, 3) := by decide +kernel
theorem dX10_about_56 : decode cX10_about 56 = .ok (.iload_n 1, 1) := by decide +kernel
theorem dX10_about_57 : decode cX10_about 57 = .ok (.invokevirtual 107, 3) := by decide +kernel
theorem dX10_about_60 : decode cX10_about 60 = .ok (.ifCond .eq 7, 3) := by decide +kernel
theorem dX10_about_63 : decode cX10_about 63 = .ok (.iconst 1, 1) := by decide +kernel
theorem dX10_about_64 : decode cX10_about 64 = .ok (.goto 4, 3) := by decide +kernel
theorem dX10_about_67 : decode cX10_about 67 = .ok (.iconst 0, 1) := by decide +kernel
theorem dX10_about_68 : decode cX10_about 68 = .ok (.ireturn, 1) := by decide +kernel
theorem dX10_about_69 : decode cX10_about 69 = .ok (.aload_n 0, 1) := by decide +kernel
theorem dX10_about_70 : decode cX10_about 70 = .ok (.getfield 12, 3) := by decide +kernel
theorem dX10_about_73 : decode cX10_about 73 = .ok (.getfield 110, 3) := by decide +kernel
theorem dX10_about_76 : decode cX10_about 76 = .ok (.iload_n 1, 1) := by decide +kernel
theorem dX10_about_77 : decode cX10_about 77 = .ok (.iconst 1, 1) := by decide +kernel
theorem dX10_about_78 : decode cX10_about 78 = .ok (.iadd, 1) := by decide +kernel
theorem dX10_about_79 : decode cX10_about 79 = .ok (.iaload, 1) := by decide +kernel
theorem dX10_about_80 : decode cX10_about 80 = .ok (.aload_n 0, 1) := by decide +kernel
theorem dX10_about_81 : decode cX10_about 81 = .ok (.getfield 12, 3) := by decide +kernel
theorem dX10_about_84 : decode cX10_about 84 = .ok (.getfield 110, 3) := by decide +kernel
theorem dX10_about_87 : decode cX10_about 87 = .ok (.iload_n 1, 1) := by decide +kernel
theorem dX10_about_88 : decode cX10_about 88 = .ok (.iaload, 1) := by decide +kernel
theorem dX10_about_89 : decode cX10_about 89 = .ok (.isub, 1) := by decide +kernel
theorem dX10_about_90 : decode cX10_about 90 = .ok (.ireturn, 1) := by decide +kernel
theorem dX10_about_91 : decode cX10_about 91 = .ok (.aload_n 0, 1) := by decide +kernel
theorem dX10_about_92 : decode cX10_about 92 = .ok (.getfield 12, 3) := by decide +kernel
theorem dX10_about_95 : decode cX10_about 95 = .ok (.iload_n 1, 1) := by decide +kernel
theorem dX10_about_96 : decode cX10_about 96 = .ok (.invokevirtual 114, 3) := by decide +kernel
theorem dX10_about_99 : decode cX10_about 99 = .ok (.ireturn, 1) := by decide +kernel
theorem dX10_about_100 : decode cX10_about 100 = .ok (.aload_n 0, 1) := by decide +kernel
theorem dX10_about_101 : decode cX10_about 101 = .ok (.getfield 19, 3) := by decide +kernel
theorem dX10_about_104 : decode cX10_about 104 = .ok (.iload_n 1, 1) := by decide +kernel
theorem dX10_about_105 : decode cX10_about 105 = .ok (.invokevirtual 107, 3) := by decide +kernel
theorem dX10_about_108 : decode cX10_about 108 = .ok (.ifCond .eq 12, 3) := by decide +kernel
theorem dX10_about_111 : decode cX10_about 111 = .ok (.aload_n 0, 1) := by decide +kernel
theorem dX10_about_112 : decode cX10_about 112 = .ok (.iload_n 1, 1) := by decide +kernel
theorem dX10_about_113 : decode cX10_about 113 = .ok (.iload_n 2, 1) := by decide +kernel
theorem dX10_about_114 : decode cX10_about 114 = .ok (.invokevirtual 118, 3) := by decide +kernel
theorem dX10_about_117 : decode cX10_about 117 = .ok (.goto 4, 3) := by decide +kernel
theorem dX10_about_120 : decode cX10_about 120 = .ok (.iconst (-1), 1) := by decide +kernel
theorem dX10_about_121 : decode cX10_about 121 = .ok (.ireturn, 1) := by decide +kernel
theorem dX10_aboutReached_0 : decode cX10_aboutReached 0 = .ok (.iload_n 2, 1) := by decide +kernel
theorem dX10_aboutReached_1 : decode cX10_aboutReached 1 = .ok (.tableswitch 81 1 5 #[35, 45, 81, 58, 68], 35) := by decide +kernel
theorem dX10_aboutReached_36 : decode cX10_aboutReached 36 = .ok (.aload_n 0, 1) := by decide +kernel
theorem dX10_aboutReached_37 : decode cX10_aboutReached 37 = .ok (.getfield 19, 3) := by decide +kernel
theorem dX10_aboutReached_40 : decode cX10_aboutReached 40 = .ok (.getfield 122, 3) := by decide +kernel
theorem dX10_aboutReached_43 : decode cX10_aboutReached 43 = .ok (.iload_n 1, 1) := by decide +kernel
theorem dX10_aboutReached_44 : decode cX10_aboutReached 44 = .ok (.iaload, 1) := by decide +kernel
theorem dX10_aboutReached_45 : decode cX10_aboutReached 45 = .ok (.ireturn, 1) := by decide +kernel
theorem dX10_aboutReached_46 : decode cX10_aboutReached 46 = .ok (.aload_n 0, 1) := by decide +kernel
theorem dX10_aboutReached_47 : decode cX10_aboutReached 47 = .ok (.getfield 19, 3) := by decide +kernel
theorem dX10_aboutReached_50 : decode cX10_aboutReached 50 = .ok (.getfield 125, 3) := by decide +kernel
theorem dX10_aboutReached_53 : decode cX10_aboutReached 53 = .ok (.iload_n 1, 1) := by decide +kernel
theorem dX10_aboutReached_54 : decode cX10_aboutReached 54 = .ok (.iaload, 1) := by decide +kernel
theorem dX10_aboutReached_55 : decode cX10_aboutReached 55 = .ok (.invokestatic 128, 3) := by decide +kernel
theorem dX10_aboutReached_58 : decode cX10_aboutReached 58 = .ok (.ireturn, 1) := by decide +kernel
theorem dX10_aboutReached_59 : decode cX10_aboutReached 59 = .ok (.aload_n 0, 1) := by decide +kernel
theorem dX10_aboutReached_60 : decode cX10_aboutReached 60 = .ok (.getfield 26, 3) := by decide +kernel
theorem dX10_aboutReached_63 : decode cX10_aboutReached 63 = .ok (.getfield 133, 3) := by decide +kernel
theorem dX10_aboutReached_66 : decode cX10_aboutReached 66 = .ok (.iload_n 1, 1) := by decide +kernel
theorem dX10_aboutReached_67 : decode cX10_aboutReached 67 = .ok (.iaload, 1) := by decide +kernel
theorem dX10_aboutReached_68 : decode cX10_aboutReached 68 = .ok (.ireturn, 1) := by decide +kernel
theorem dX10_aboutReached_69 : decode cX10_aboutReached 69 = .ok (.aload_n 0, 1) := by decide +kernel
theorem dX10_aboutReached_70 : decode cX10_aboutReached 70 = .ok (.getfield 19, 3) := by decide +kernel
theorem dX10_aboutReached_73 : decode cX10_aboutReached 73 = .ok (.getfield 136, 3) := by decide +kernel
theorem dX10_aboutReached_76 : decode cX10_aboutReached 76 = .ok (.iload_n 1, 1) := by decide +kernel
theorem dX10_aboutReached_77 : decode cX10_aboutReached 77 = .ok (.iaload, 1) := by decide +kernel
theorem dX10_aboutReached_78 : decode cX10_aboutReached 78 = .ok (.invokestatic 128, 3) := by decide +kernel
theorem dX10_aboutReached_81 : decode cX10_aboutReached 81 = .ok (.ireturn, 1) := by decide +kernel
theorem dX10_aboutReached_82 : decode cX10_aboutReached 82 = .ok (.iconst (-1), 1) := by decide +kernel
theorem dX10_aboutReached_83 : decode cX10_aboutReached 83 = .ok (.ireturn, 1) := by decide +kernel
theorem dX10_predecessor_0 : decode cX10_predecessor 0 = .ok (.aload_n 0, 1) := by decide +kernel
theorem dX10_predecessor_1 : decode cX10_predecessor 1 = .ok (.invokevirtual 104, 3) := by decide +kernel
theorem dX10_predecessor_4 : decode cX10_predecessor 4 = .ok (.aload_n 0, 1) := by decide +kernel
theorem dX10_predecessor_5 : decode cX10_predecessor 5 = .ok (.getfield 19, 3) := by decide +kernel
theorem dX10_predecessor_8 : decode cX10_predecessor 8 = .ok (.iload_n 1, 1) := by decide +kernel
theorem dX10_predecessor_9 : decode cX10_predecessor 9 = .ok (.invokevirtual 107, 3) := by decide +kernel
theorem dX10_predecessor_12 : decode cX10_predecessor 12 = .ok (.ifCond .eq 19, 3) := by decide +kernel
theorem dX10_predecessor_15 : decode cX10_predecessor 15 = .ok (.aload_n 0, 1) := by decide +kernel
theorem dX10_predecessor_16 : decode cX10_predecessor 16 = .ok (.getfield 19, 3) := by decide +kernel
theorem dX10_predecessor_19 : decode cX10_predecessor 19 = .ok (.getfield 125, 3) := by decide +kernel
theorem dX10_predecessor_22 : decode cX10_predecessor 22 = .ok (.iload_n 1, 1) := by decide +kernel
theorem dX10_predecessor_23 : decode cX10_predecessor 23 = .ok (.iaload, 1) := by decide +kernel
theorem dX10_predecessor_24 : decode cX10_predecessor 24 = .ok (.iload_n 2, 1) := by decide +kernel
theorem dX10_predecessor_25 : decode cX10_predecessor 25 = .ok (.invokestatic 139, 3) := by decide +kernel
theorem dX10_predecessor_28 : decode cX10_predecessor 28 = .ok (.goto 4, 3) := by decide +kernel
theorem dX10_predecessor_31 : decode cX10_predecessor 31 = .ok (.iconst (-1), 1) := by decide +kernel
theorem dX10_predecessor_32 : decode cX10_predecessor 32 = .ok (.ireturn, 1) := by decide +kernel
theorem dX10_dominates_0 : decode cX10_dominates 0 = .ok (.aload_n 0, 1) := by decide +kernel
theorem dX10_dominates_1 : decode cX10_dominates 1 = .ok (.invokevirtual 104, 3) := by decide +kernel
theorem dX10_dominates_4 : decode cX10_dominates 4 = .ok (.aload_n 0, 1) := by decide +kernel
theorem dX10_dominates_5 : decode cX10_dominates 5 = .ok (.getfield 19, 3) := by decide +kernel
theorem dX10_dominates_8 : decode cX10_dominates 8 = .ok (.iload_n 1, 1) := by decide +kernel
theorem dX10_dominates_9 : decode cX10_dominates 9 = .ok (.invokevirtual 107, 3) := by decide +kernel
theorem dX10_dominates_12 : decode cX10_dominates 12 = .ok (.ifCond .eq 14, 3) := by decide +kernel
theorem dX10_dominates_15 : decode cX10_dominates 15 = .ok (.aload_n 0, 1) := by decide +kernel
theorem dX10_dominates_16 : decode cX10_dominates 16 = .ok (.getfield 19, 3) := by decide +kernel
theorem dX10_dominates_19 : decode cX10_dominates 19 = .ok (.iload_n 2, 1) := by decide +kernel
theorem dX10_dominates_20 : decode cX10_dominates 20 = .ok (.invokevirtual 107, 3) := by decide +kernel
theorem dX10_dominates_23 : decode cX10_dominates 23 = .ok (.ifCond .ne 5, 3) := by decide +kernel
theorem dX10_dominates_26 : decode cX10_dominates 26 = .ok (.iconst (-1), 1) := by decide +kernel
theorem dX10_dominates_27 : decode cX10_dominates 27 = .ok (.ireturn, 1) := by decide +kernel
theorem dX10_dominates_28 : decode cX10_dominates 28 = .ok (.aload_n 0, 1) := by decide +kernel
theorem dX10_dominates_29 : decode cX10_dominates 29 = .ok (.getfield 19, 3) := by decide +kernel
theorem dX10_dominates_32 : decode cX10_dominates 32 = .ok (.getfield 142, 3) := by decide +kernel
theorem dX10_dominates_35 : decode cX10_dominates 35 = .ok (.iload_n 1, 1) := by decide +kernel
theorem dX10_dominates_36 : decode cX10_dominates 36 = .ok (.iaload, 1) := by decide +kernel
theorem dX10_dominates_37 : decode cX10_dominates 37 = .ok (.iload_n 2, 1) := by decide +kernel
theorem dX10_dominates_38 : decode cX10_dominates 38 = .ok (.invokestatic 145, 3) := by decide +kernel
theorem dX10_dominates_41 : decode cX10_dominates 41 = .ok (.ifCond .eq 7, 3) := by decide +kernel
theorem dX10_dominates_44 : decode cX10_dominates 44 = .ok (.iconst 1, 1) := by decide +kernel
theorem dX10_dominates_45 : decode cX10_dominates 45 = .ok (.goto 4, 3) := by decide +kernel
theorem dX10_dominates_48 : decode cX10_dominates 48 = .ok (.iconst 0, 1) := by decide +kernel
theorem dX10_dominates_49 : decode cX10_dominates 49 = .ok (.ireturn, 1) := by decide +kernel
theorem dX10_meets_0 : decode cX10_meets 0 = .ok (.aload_n 0, 1) := by decide +kernel
theorem dX10_meets_1 : decode cX10_meets 1 = .ok (.invokevirtual 104, 3) := by decide +kernel
theorem dX10_meets_4 : decode cX10_meets 4 = .ok (.aload_n 0, 1) := by decide +kernel
theorem dX10_meets_5 : decode cX10_meets 5 = .ok (.getfield 19, 3) := by decide +kernel
theorem dX10_meets_8 : decode cX10_meets 8 = .ok (.iload_n 1, 1) := by decide +kernel
theorem dX10_meets_9 : decode cX10_meets 9 = .ok (.invokevirtual 107, 3) := by decide +kernel
theorem dX10_meets_12 : decode cX10_meets 12 = .ok (.ifCond .eq 14, 3) := by decide +kernel
theorem dX10_meets_15 : decode cX10_meets 15 = .ok (.aload_n 0, 1) := by decide +kernel
theorem dX10_meets_16 : decode cX10_meets 16 = .ok (.getfield 19, 3) := by decide +kernel
theorem dX10_meets_19 : decode cX10_meets 19 = .ok (.iload_n 2, 1) := by decide +kernel
theorem dX10_meets_20 : decode cX10_meets 20 = .ok (.invokevirtual 107, 3) := by decide +kernel
theorem dX10_meets_23 : decode cX10_meets 23 = .ok (.ifCond .ne 5, 3) := by decide +kernel
theorem dX10_meets_26 : decode cX10_meets 26 = .ok (.iconst (-1), 1) := by decide +kernel
theorem dX10_meets_27 : decode cX10_meets 27 = .ok (.ireturn, 1) := by decide +kernel
theorem dX10_meets_28 : decode cX10_meets 28 = .ok (.aload_n 0, 1) := by decide +kernel
theorem dX10_meets_29 : decode cX10_meets 29 = .ok (.getfield 19, 3) := by decide +kernel
theorem dX10_meets_32 : decode cX10_meets 32 = .ok (.getfield 136, 3) := by decide +kernel
theorem dX10_meets_35 : decode cX10_meets 35 = .ok (.iload_n 1, 1) := by decide +kernel
theorem dX10_meets_36 : decode cX10_meets 36 = .ok (.iaload, 1) := by decide +kernel
theorem dX10_meets_37 : decode cX10_meets 37 = .ok (.iload_n 2, 1) := by decide +kernel
theorem dX10_meets_38 : decode cX10_meets 38 = .ok (.invokestatic 145, 3) := by decide +kernel
theorem dX10_meets_41 : decode cX10_meets 41 = .ok (.ifCond .eq 7, 3) := by decide +kernel
theorem dX10_meets_44 : decode cX10_meets 44 = .ok (.iconst 1, 1) := by decide +kernel
theorem dX10_meets_45 : decode cX10_meets 45 = .ok (.goto 4, 3) := by decide +kernel
theorem dX10_meets_48 : decode cX10_meets 48 = .ok (.iconst 0, 1) := by decide +kernel
theorem dX10_meets_49 : decode cX10_meets 49 = .ok (.ireturn, 1) := by decide +kernel
theorem dX10_value_0 : decode cX10_value 0 = .ok (.aload_n 0, 1) := by decide +kernel
theorem dX10_value_1 : decode cX10_value 1 = .ok (.invokevirtual 104, 3) := by decide +kernel
theorem dX10_value_4 : decode cX10_value 4 = .ok (.aload_n 0, 1) := by decide +kernel
theorem dX10_value_5 : decode cX10_value 5 = .ok (.getfield 26, 3) := by decide +kernel
theorem dX10_value_8 : decode cX10_value 8 = .ok (.iload_n 1, 1) := by decide +kernel
theorem dX10_value_9 : decode cX10_value 9 = .ok (.invokevirtual 149, 3) := by decide +kernel
theorem dX10_value_12 : decode cX10_value 12 = .ok (.ifCond .ne 5, 3) := by decide +kernel
theorem dX10_value_15 : decode cX10_value 15 = .ok (.iconst (-1), 1) := by decide +kernel
theorem dX10_value_16 : decode cX10_value 16 = .ok (.ireturn, 1) := by decide +kernel
theorem dX10_value_17 : decode cX10_value 17 = .ok (.iload_n 2, 1) := by decide +kernel
theorem dX10_value_18 : decode cX10_value 18 = .ok (.tableswitch 119 0 6 #[42, 52, 62, 72, 82, 100, 109], 42) := by decide +kernel
theorem dX10_value_60 : decode cX10_value 60 = .ok (.aload_n 0, 1) := by decide +kernel
theorem dX10_value_61 : decode cX10_value 61 = .ok (.getfield 26, 3) := by decide +kernel
theorem dX10_value_64 : decode cX10_value 64 = .ok (.getfield 150, 3) := by decide +kernel
theorem dX10_value_67 : decode cX10_value 67 = .ok (.iload_n 1, 1) := by decide +kernel
theorem dX10_value_68 : decode cX10_value 68 = .ok (.iaload, 1) := by decide +kernel
theorem dX10_value_69 : decode cX10_value 69 = .ok (.ireturn, 1) := by decide +kernel
theorem dX10_value_70 : decode cX10_value 70 = .ok (.aload_n 0, 1) := by decide +kernel
theorem dX10_value_71 : decode cX10_value 71 = .ok (.getfield 26, 3) := by decide +kernel
theorem dX10_value_74 : decode cX10_value 74 = .ok (.getfield 153, 3) := by decide +kernel
theorem dX10_value_77 : decode cX10_value 77 = .ok (.iload_n 1, 1) := by decide +kernel
theorem dX10_value_78 : decode cX10_value 78 = .ok (.iaload, 1) := by decide +kernel
theorem dX10_value_79 : decode cX10_value 79 = .ok (.ireturn, 1) := by decide +kernel
theorem dX10_value_80 : decode cX10_value 80 = .ok (.aload_n 0, 1) := by decide +kernel
theorem dX10_value_81 : decode cX10_value 81 = .ok (.getfield 26, 3) := by decide +kernel
theorem dX10_value_84 : decode cX10_value 84 = .ok (.getfield 156, 3) := by decide +kernel
theorem dX10_value_87 : decode cX10_value 87 = .ok (.iload_n 1, 1) := by decide +kernel
theorem dX10_value_88 : decode cX10_value 88 = .ok (.iaload, 1) := by decide +kernel
theorem dX10_value_89 : decode cX10_value 89 = .ok (.ireturn, 1) := by decide +kernel
theorem dX10_value_90 : decode cX10_value 90 = .ok (.aload_n 0, 1) := by decide +kernel
theorem dX10_value_91 : decode cX10_value 91 = .ok (.getfield 33, 3) := by decide +kernel
theorem dX10_value_94 : decode cX10_value 94 = .ok (.getfield 159, 3) := by decide +kernel
theorem dX10_value_97 : decode cX10_value 97 = .ok (.iload_n 1, 1) := by decide +kernel
theorem dX10_value_98 : decode cX10_value 98 = .ok (.iaload, 1) := by decide +kernel
theorem dX10_value_99 : decode cX10_value 99 = .ok (.ireturn, 1) := by decide +kernel
theorem dX10_value_100 : decode cX10_value 100 = .ok (.aload_n 0, 1) := by decide +kernel
theorem dX10_value_101 : decode cX10_value 101 = .ok (.getfield 40, 3) := by decide +kernel
theorem dX10_value_104 : decode cX10_value 104 = .ok (.getfield 162, 3) := by decide +kernel
theorem dX10_value_107 : decode cX10_value 107 = .ok (.iload_n 1, 1) := by decide +kernel
theorem dX10_value_108 : decode cX10_value 108 = .ok (.baload, 1) := by decide +kernel
theorem dX10_value_109 : decode cX10_value 109 = .ok (.ifCond .eq 7, 3) := by decide +kernel
theorem dX10_value_112 : decode cX10_value 112 = .ok (.iconst 1, 1) := by decide +kernel
theorem dX10_value_113 : decode cX10_value 113 = .ok (.goto 4, 3) := by decide +kernel
theorem dX10_value_116 : decode cX10_value 116 = .ok (.iconst 0, 1) := by decide +kernel
theorem dX10_value_117 : decode cX10_value 117 = .ok (.ireturn, 1) := by decide +kernel
theorem dX10_value_118 : decode cX10_value 118 = .ok (.aload_n 0, 1) := by decide +kernel
theorem dX10_value_119 : decode cX10_value 119 = .ok (.getfield 26, 3) := by decide +kernel
theorem dX10_value_122 : decode cX10_value 122 = .ok (.iload_n 1, 1) := by decide +kernel
theorem dX10_value_123 : decode cX10_value 123 = .ok (.invokevirtual 166, 3) := by decide +kernel
theorem dX10_value_126 : decode cX10_value 126 = .ok (.ireturn, 1) := by decide +kernel
theorem dX10_value_127 : decode cX10_value 127 = .ok (.aload_n 0, 1) := by decide +kernel
theorem dX10_value_128 : decode cX10_value 128 = .ok (.getfield 26, 3) := by decide +kernel
theorem dX10_value_131 : decode cX10_value 131 = .ok (.getfield 169, 3) := by decide +kernel
theorem dX10_value_134 : decode cX10_value 134 = .ok (.iload_n 1, 1) := by decide +kernel
theorem dX10_value_135 : decode cX10_value 135 = .ok (.iaload, 1) := by decide +kernel
theorem dX10_value_136 : decode cX10_value 136 = .ok (.ireturn, 1) := by decide +kernel
theorem dX10_value_137 : decode cX10_value 137 = .ok (.iconst (-1), 1) := by decide +kernel
theorem dX10_value_138 : decode cX10_value 138 = .ok (.ireturn, 1) := by decide +kernel
theorem dX10_operand_0 : decode cX10_operand 0 = .ok (.aload_n 0, 1) := by decide +kernel
theorem dX10_operand_1 : decode cX10_operand 1 = .ok (.invokevirtual 104, 3) := by decide +kernel
theorem dX10_operand_4 : decode cX10_operand 4 = .ok (.aload_n 0, 1) := by decide +kernel
theorem dX10_operand_5 : decode cX10_operand 5 = .ok (.getfield 26, 3) := by decide +kernel
theorem dX10_operand_8 : decode cX10_operand 8 = .ok (.iload_n 1, 1) := by decide +kernel
theorem dX10_operand_9 : decode cX10_operand 9 = .ok (.iload_n 2, 1) := by decide +kernel
theorem dX10_operand_10 : decode cX10_operand 10 = .ok (.invokevirtual 172, 3) := by decide +kernel
theorem dX10_operand_13 : decode cX10_operand 13 = .ok (.ifCond .eq 28, 3) := by decide +kernel
theorem dX10_operand_16 : decode cX10_operand 16 = .ok (.aload_n 0, 1) := by decide +kernel
theorem dX10_operand_17 : decode cX10_operand 17 = .ok (.getfield 26, 3) := by decide +kernel
theorem dX10_operand_20 : decode cX10_operand 20 = .ok (.getfield 175, 3) := by decide +kernel
theorem dX10_operand_23 : decode cX10_operand 23 = .ok (.getfield 179, 3) := by decide +kernel
theorem dX10_operand_26 : decode cX10_operand 26 = .ok (.aload_n 0, 1) := by decide +kernel
theorem dX10_operand_27 : decode cX10_operand 27 = .ok (.getfield 26, 3) := by decide +kernel
theorem dX10_operand_30 : decode cX10_operand 30 = .ok (.getfield 184, 3) := by decide +kernel
theorem dX10_operand_33 : decode cX10_operand 33 = .ok (.iload_n 1, 1) := by decide +kernel
theorem dX10_operand_34 : decode cX10_operand 34 = .ok (.iaload, 1) := by decide +kernel
theorem dX10_operand_35 : decode cX10_operand 35 = .ok (.iload_n 2, 1) := by decide +kernel
theorem dX10_operand_36 : decode cX10_operand 36 = .ok (.iadd, 1) := by decide +kernel
theorem dX10_operand_37 : decode cX10_operand 37 = .ok (.iaload, 1) := by decide +kernel
theorem dX10_operand_38 : decode cX10_operand 38 = .ok (.goto 4, 3) := by decide +kernel
theorem dX10_operand_41 : decode cX10_operand 41 = .ok (.iconst (-1), 1) := by decide +kernel
theorem dX10_operand_42 : decode cX10_operand 42 = .ok (.ireturn, 1) := by decide +kernel
theorem dX10_led_0 : decode cX10_led 0 = .ok (.aload_n 0, 1) := by decide +kernel
theorem dX10_led_1 : decode cX10_led 1 = .ok (.invokevirtual 104, 3) := by decide +kernel
theorem dX10_led_4 : decode cX10_led 4 = .ok (.aload_n 0, 1) := by decide +kernel
theorem dX10_led_5 : decode cX10_led 5 = .ok (.getfield 26, 3) := by decide +kernel
theorem dX10_led_8 : decode cX10_led 8 = .ok (.iload_n 1, 1) := by decide +kernel
theorem dX10_led_9 : decode cX10_led 9 = .ok (.iload_n 2, 1) := by decide +kernel
theorem dX10_led_10 : decode cX10_led 10 = .ok (.invokevirtual 172, 3) := by decide +kernel
theorem dX10_led_13 : decode cX10_led 13 = .ok (.ifCond .eq 15, 3) := by decide +kernel
theorem dX10_led_16 : decode cX10_led 16 = .ok (.aload_n 0, 1) := by decide +kernel
theorem dX10_led_17 : decode cX10_led 17 = .ok (.getfield 40, 3) := by decide +kernel
theorem dX10_led_20 : decode cX10_led 20 = .ok (.getfield 162, 3) := by decide +kernel
theorem dX10_led_23 : decode cX10_led 23 = .ok (.iload_n 1, 1) := by decide +kernel
theorem dX10_led_24 : decode cX10_led 24 = .ok (.baload, 1) := by decide +kernel
theorem dX10_led_25 : decode cX10_led 25 = .ok (.ifCond .eq 5, 3) := by decide +kernel
theorem dX10_led_28 : decode cX10_led 28 = .ok (.iconst (-1), 1) := by decide +kernel
theorem dX10_led_29 : decode cX10_led 29 = .ok (.ireturn, 1) := by decide +kernel
theorem dX10_led_30 : decode cX10_led 30 = .ok (.aload_n 0, 1) := by decide +kernel
theorem dX10_led_31 : decode cX10_led 31 = .ok (.getfield 40, 3) := by decide +kernel
theorem dX10_led_34 : decode cX10_led 34 = .ok (.getfield 187, 3) := by decide +kernel
theorem dX10_led_37 : decode cX10_led 37 = .ok (.getfield 179, 3) := by decide +kernel
theorem dX10_led_40 : decode cX10_led 40 = .ok (.aload_n 0, 1) := by decide +kernel
theorem dX10_led_41 : decode cX10_led 41 = .ok (.getfield 26, 3) := by decide +kernel
theorem dX10_led_44 : decode cX10_led 44 = .ok (.getfield 184, 3) := by decide +kernel
theorem dX10_led_47 : decode cX10_led 47 = .ok (.iload_n 1, 1) := by decide +kernel
theorem dX10_led_48 : decode cX10_led 48 = .ok (.iaload, 1) := by decide +kernel
theorem dX10_led_49 : decode cX10_led 49 = .ok (.iload_n 2, 1) := by decide +kernel
theorem dX10_led_50 : decode cX10_led 50 = .ok (.iadd, 1) := by decide +kernel
theorem dX10_led_51 : decode cX10_led 51 = .ok (.iaload, 1) := by decide +kernel
theorem dX10_led_52 : decode cX10_led 52 = .ok (.ireturn, 1) := by decide +kernel
theorem dX10_classOf_0 : decode cX10_classOf 0 = .ok (.aload_n 0, 1) := by decide +kernel
theorem dX10_classOf_1 : decode cX10_classOf 1 = .ok (.invokevirtual 104, 3) := by decide +kernel
theorem dX10_classOf_4 : decode cX10_classOf 4 = .ok (.aload_n 0, 1) := by decide +kernel
theorem dX10_classOf_5 : decode cX10_classOf 5 = .ok (.getfield 26, 3) := by decide +kernel
theorem dX10_classOf_8 : decode cX10_classOf 8 = .ok (.iload_n 1, 1) := by decide +kernel
theorem dX10_classOf_9 : decode cX10_classOf 9 = .ok (.invokevirtual 149, 3) := by decide +kernel
theorem dX10_classOf_12 : decode cX10_classOf 12 = .ok (.ifCond .eq 15, 3) := by decide +kernel
theorem dX10_classOf_15 : decode cX10_classOf 15 = .ok (.aload_n 0, 1) := by decide +kernel
theorem dX10_classOf_16 : decode cX10_classOf 16 = .ok (.getfield 33, 3) := by decide +kernel
theorem dX10_classOf_19 : decode cX10_classOf 19 = .ok (.getfield 159, 3) := by decide +kernel
theorem dX10_classOf_22 : decode cX10_classOf 22 = .ok (.iload_n 1, 1) := by decide +kernel
theorem dX10_classOf_23 : decode cX10_classOf 23 = .ok (.iaload, 1) := by decide +kernel
theorem dX10_classOf_24 : decode cX10_classOf 24 = .ok (.goto 4, 3) := by decide +kernel
theorem dX10_classOf_27 : decode cX10_classOf 27 = .ok (.iconst (-1), 1) := by decide +kernel
theorem dX10_classOf_28 : decode cX10_classOf 28 = .ok (.ireturn, 1) := by decide +kernel
theorem dX10_read_0 : decode cX10_read 0 = .ok (.aload_n 0, 1) := by decide +kernel
theorem dX10_read_1 : decode cX10_read 1 = .ok (.invokevirtual 104, 3) := by decide +kernel
theorem dX10_read_4 : decode cX10_read 4 = .ok (.aload_n 0, 1) := by decide +kernel
theorem dX10_read_5 : decode cX10_read 5 = .ok (.getfield 19, 3) := by decide +kernel
theorem dX10_read_8 : decode cX10_read 8 = .ok (.iload_n 1, 1) := by decide +kernel
theorem dX10_read_9 : decode cX10_read 9 = .ok (.invokevirtual 107, 3) := by decide +kernel
theorem dX10_read_12 : decode cX10_read 12 = .ok (.ifCond .eq 16, 3) := by decide +kernel
theorem dX10_read_15 : decode cX10_read 15 = .ok (.aload_n 0, 1) := by decide +kernel
theorem dX10_read_16 : decode cX10_read 16 = .ok (.iload_n 2, 1) := by decide +kernel
theorem dX10_read_17 : decode cX10_read 17 = .ok (.invokevirtual 188, 3) := by decide +kernel
theorem dX10_read_20 : decode cX10_read 20 = .ok (.getfield 192, 3) := by decide +kernel
theorem dX10_read_23 : decode cX10_read 23 = .ok (.iload_n 1, 1) := by decide +kernel
theorem dX10_read_24 : decode cX10_read 24 = .ok (.iaload, 1) := by decide +kernel
theorem dX10_read_25 : decode cX10_read 25 = .ok (.goto 4, 3) := by decide +kernel
theorem dX10_read_28 : decode cX10_read 28 = .ok (.iconst (-1), 1) := by decide +kernel
theorem dX10_read_29 : decode cX10_read 29 = .ok (.ireturn, 1) := by decide +kernel
theorem dX10_emits_0 : decode cX10_emits 0 = .ok (.aload_n 0, 1) := by decide +kernel
theorem dX10_emits_1 : decode cX10_emits 1 = .ok (.invokevirtual 104, 3) := by decide +kernel
theorem dX10_emits_4 : decode cX10_emits 4 = .ok (.aload_n 0, 1) := by decide +kernel
theorem dX10_emits_5 : decode cX10_emits 5 = .ok (.getfield 19, 3) := by decide +kernel
theorem dX10_emits_8 : decode cX10_emits 8 = .ok (.iload_n 1, 1) := by decide +kernel
theorem dX10_emits_9 : decode cX10_emits 9 = .ok (.invokevirtual 107, 3) := by decide +kernel
theorem dX10_emits_12 : decode cX10_emits 12 = .ok (.ifCond .ne 5, 3) := by decide +kernel
theorem dX10_emits_15 : decode cX10_emits 15 = .ok (.iconst (-1), 1) := by decide +kernel
theorem dX10_emits_16 : decode cX10_emits 16 = .ok (.ireturn, 1) := by decide +kernel
theorem dX10_emits_17 : decode cX10_emits 17 = .ok (.aload_n 0, 1) := by decide +kernel
theorem dX10_emits_18 : decode cX10_emits 18 = .ok (.getfield 12, 3) := by decide +kernel
theorem dX10_emits_21 : decode cX10_emits 21 = .ok (.iload_n 1, 1) := by decide +kernel
theorem dX10_emits_22 : decode cX10_emits 22 = .ok (.iload_n 2, 1) := by decide +kernel
theorem dX10_emits_23 : decode cX10_emits 23 = .ok (.invokevirtual 195, 3) := by decide +kernel
theorem dX10_emits_26 : decode cX10_emits 26 = .ok (.istore 4, 2) := by decide +kernel
theorem dX10_emits_28 : decode cX10_emits 28 = .ok (.iload 4, 2) := by decide +kernel
theorem dX10_emits_30 : decode cX10_emits 30 = .ok (.iconst (-1), 1) := by decide +kernel
theorem dX10_emits_31 : decode cX10_emits 31 = .ok (.if_icmp .ne 7, 3) := by decide +kernel
theorem dX10_emits_34 : decode cX10_emits 34 = .ok (.iconst (-1), 1) := by decide +kernel
theorem dX10_emits_35 : decode cX10_emits 35 = .ok (.goto 14, 3) := by decide +kernel
theorem dX10_emits_38 : decode cX10_emits 38 = .ok (.aload_n 0, 1) := by decide +kernel
theorem dX10_emits_39 : decode cX10_emits 39 = .ok (.iload_n 3, 1) := by decide +kernel
theorem dX10_emits_40 : decode cX10_emits 40 = .ok (.invokevirtual 188, 3) := by decide +kernel
theorem dX10_emits_43 : decode cX10_emits 43 = .ok (.getfield 198, 3) := by decide +kernel
theorem dX10_emits_46 : decode cX10_emits 46 = .ok (.iload 4, 2) := by decide +kernel
theorem dX10_emits_48 : decode cX10_emits 48 = .ok (.iaload, 1) := by decide +kernel
theorem dX10_emits_49 : decode cX10_emits 49 = .ok (.ireturn, 1) := by decide +kernel
theorem dX10_readsOf_0 : decode cX10_readsOf 0 = .ok (.iload_n 1, 1) := by decide +kernel
theorem dX10_readsOf_1 : decode cX10_readsOf 1 = .ok (.ifCond .eq 13, 3) := by decide +kernel
theorem dX10_readsOf_4 : decode cX10_readsOf 4 = .ok (.aload_n 0, 1) := by decide +kernel
theorem dX10_readsOf_5 : decode cX10_readsOf 5 = .ok (.getfield 40, 3) := by decide +kernel
theorem dX10_readsOf_8 : decode cX10_readsOf 8 = .ok (.getfield 187, 3) := by decide +kernel
theorem dX10_readsOf_11 : decode cX10_readsOf 11 = .ok (.goto 10, 3) := by decide +kernel
theorem dX10_readsOf_14 : decode cX10_readsOf 14 = .ok (.aload_n 0, 1) := by decide +kernel
theorem dX10_readsOf_15 : decode cX10_readsOf 15 = .ok (.getfield 26, 3) := by decide +kernel
theorem dX10_readsOf_18 : decode cX10_readsOf 18 = .ok (.getfield 175, 3) := by decide +kernel
theorem dX10_readsOf_21 : decode cX10_readsOf 21 = .ok (.areturn, 1) := by decide +kernel
theorem dX10_run_0 : decode cX10_run 0 = .ok (.aload_n 0, 1) := by decide +kernel
theorem dX10_run_1 : decode cX10_run 1 = .ok (.getfield 12, 3) := by decide +kernel
theorem dX10_run_4 : decode cX10_run 4 = .ok (.getfield 75, 3) := by decide +kernel
theorem dX10_run_7 : decode cX10_run 7 = .ok (.ifCond .eq 12, 3) := by decide +kernel
theorem dX10_run_10 : decode cX10_run 10 = .ok (.iload_n 1, 1) := by decide +kernel
theorem dX10_run_11 : decode cX10_run 11 = .ok (.ifCond .lt 8, 3) := by decide +kernel
theorem dX10_run_14 : decode cX10_run 14 = .ok (.iload_n 1, 1) := by decide +kernel
theorem dX10_run_15 : decode cX10_run 15 = .ok (.iconst 2, 1) := by decide +kernel
theorem dX10_run_16 : decode cX10_run 16 = .ok (.if_icmp .le 5, 3) := by decide +kernel
theorem dX10_run_19 : decode cX10_run 19 = .ok (.iconst (-1), 1) := by decide +kernel
theorem dX10_run_20 : decode cX10_run 20 = .ok (.ireturn, 1) := by decide +kernel
theorem dX10_run_21 : decode cX10_run 21 = .ok (.aload_n 0, 1) := by decide +kernel
theorem dX10_run_22 : decode cX10_run 22 = .ok (.invokevirtual 104, 3) := by decide +kernel
theorem dX10_run_25 : decode cX10_run 25 = .ok (.aload_n 0, 1) := by decide +kernel
theorem dX10_run_26 : decode cX10_run 26 = .ok (.getfield 67, 3) := by decide +kernel
theorem dX10_run_29 : decode cX10_run 29 = .ok (.iload_n 2, 1) := by decide +kernel
theorem dX10_run_30 : decode cX10_run 30 = .ok (.iload_n 3, 1) := by decide +kernel
theorem dX10_run_31 : decode cX10_run 31 = .ok (.iload 4, 2) := by decide +kernel
theorem dX10_run_33 : decode cX10_run 33 = .ok (.iload 5, 2) := by decide +kernel
theorem dX10_run_35 : decode cX10_run 35 = .ok (.invokevirtual 201, 3) := by decide +kernel
theorem dX10_run_38 : decode cX10_run 38 = .ok (.aload_n 0, 1) := by decide +kernel
theorem dX10_run_39 : decode cX10_run 39 = .ok (.getfield 67, 3) := by decide +kernel
theorem dX10_run_42 : decode cX10_run 42 = .ok (.iload_n 1, 1) := by decide +kernel
theorem dX10_run_43 : decode cX10_run 43 = .ok (.ifCond .ne 10, 3) := by decide +kernel
theorem dX10_run_46 : decode cX10_run 46 = .ok (.aload_n 0, 1) := by decide +kernel
theorem dX10_run_47 : decode cX10_run 47 = .ok (.getfield 49, 3) := by decide +kernel
theorem dX10_run_50 : decode cX10_run 50 = .ok (.goto 19, 3) := by decide +kernel
theorem dX10_run_53 : decode cX10_run 53 = .ok (.iload_n 1, 1) := by decide +kernel
theorem dX10_run_54 : decode cX10_run 54 = .ok (.iconst 1, 1) := by decide +kernel
theorem dX10_run_55 : decode cX10_run 55 = .ok (.if_icmp .ne 10, 3) := by decide +kernel
theorem dX10_run_58 : decode cX10_run 58 = .ok (.aload_n 0, 1) := by decide +kernel
theorem dX10_run_59 : decode cX10_run 59 = .ok (.getfield 58, 3) := by decide +kernel
theorem dX10_run_62 : decode cX10_run 62 = .ok (.goto 7, 3) := by decide +kernel
theorem dX10_run_65 : decode cX10_run 65 = .ok (.aload_n 0, 1) := by decide +kernel
theorem dX10_run_66 : decode cX10_run 66 = .ok (.getfield 61, 3) := by decide +kernel
theorem dX10_run_69 : decode cX10_run 69 = .ok (.invokevirtual 205, 3) := by decide +kernel
theorem dX10_run_72 : decode cX10_run 72 = .ok (.ireturn, 1) := by decide +kernel
theorem dX10_fuel_0 : decode cX10_fuel 0 = .ok (.iload_n 1, 1) := by decide +kernel
theorem dX10_fuel_1 : decode cX10_fuel 1 = .ok (.iconst 1, 1) := by decide +kernel
theorem dX10_fuel_2 : decode cX10_fuel 2 = .ok (.if_icmp .lt 10, 3) := by decide +kernel
theorem dX10_fuel_5 : decode cX10_fuel 5 = .ok (.iload_n 1, 1) := by decide +kernel
theorem dX10_fuel_6 : decode cX10_fuel 6 = .ok (.sipush 5000, 3) := by decide +kernel
theorem dX10_fuel_9 : decode cX10_fuel 9 = .ok (.if_icmp .le 5, 3) := by decide +kernel
theorem dX10_fuel_12 : decode cX10_fuel 12 = .ok (.iconst (-1), 1) := by decide +kernel
theorem dX10_fuel_13 : decode cX10_fuel 13 = .ok (.ireturn, 1) := by decide +kernel
theorem dX10_fuel_14 : decode cX10_fuel 14 = .ok (.aload_n 0, 1) := by decide +kernel
theorem dX10_fuel_15 : decode cX10_fuel 15 = .ok (.getfield 67, 3) := by decide +kernel
theorem dX10_fuel_18 : decode cX10_fuel 18 = .ok (.getfield 209, 3) := by decide +kernel
theorem dX10_fuel_21 : decode cX10_fuel 21 = .ok (.istore_n 2, 1) := by decide +kernel
theorem dX10_fuel_22 : decode cX10_fuel 22 = .ok (.aload_n 0, 1) := by decide +kernel
theorem dX10_fuel_23 : decode cX10_fuel 23 = .ok (.getfield 67, 3) := by decide +kernel
theorem dX10_fuel_26 : decode cX10_fuel 26 = .ok (.iload_n 1, 1) := by decide +kernel
theorem dX10_fuel_27 : decode cX10_fuel 27 = .ok (.putfield 209, 3) := by decide +kernel
theorem dX10_fuel_30 : decode cX10_fuel 30 = .ok (.iload_n 2, 1) := by decide +kernel
theorem dX10_fuel_31 : decode cX10_fuel 31 = .ok (.ireturn, 1) := by decide +kernel
theorem dX10_ran_0 : decode cX10_ran 0 = .ok (.iload_n 1, 1) := by decide +kernel
theorem dX10_ran_1 : decode cX10_ran 1 = .ok (.tableswitch 63 0 3 #[31, 39, 47, 55], 31) := by decide +kernel
theorem dX10_ran_32 : decode cX10_ran 32 = .ok (.aload_n 0, 1) := by decide +kernel
theorem dX10_ran_33 : decode cX10_ran 33 = .ok (.getfield 67, 3) := by decide +kernel
theorem dX10_ran_36 : decode cX10_ran 36 = .ok (.getfield 212, 3) := by decide +kernel
theorem dX10_ran_39 : decode cX10_ran 39 = .ok (.ireturn, 1) := by decide +kernel
theorem dX10_ran_40 : decode cX10_ran 40 = .ok (.aload_n 0, 1) := by decide +kernel
theorem dX10_ran_41 : decode cX10_ran 41 = .ok (.getfield 67, 3) := by decide +kernel
theorem dX10_ran_44 : decode cX10_ran 44 = .ok (.getfield 215, 3) := by decide +kernel
theorem dX10_ran_47 : decode cX10_ran 47 = .ok (.ireturn, 1) := by decide +kernel
theorem dX10_ran_48 : decode cX10_ran 48 = .ok (.aload_n 0, 1) := by decide +kernel
theorem dX10_ran_49 : decode cX10_ran 49 = .ok (.getfield 67, 3) := by decide +kernel
theorem dX10_ran_52 : decode cX10_ran 52 = .ok (.getfield 218, 3) := by decide +kernel
theorem dX10_ran_55 : decode cX10_ran 55 = .ok (.ireturn, 1) := by decide +kernel
theorem dX10_ran_56 : decode cX10_ran 56 = .ok (.aload_n 0, 1) := by decide +kernel
theorem dX10_ran_57 : decode cX10_ran 57 = .ok (.getfield 67, 3) := by decide +kernel
theorem dX10_ran_60 : decode cX10_ran 60 = .ok (.getfield 221, 3) := by decide +kernel
theorem dX10_ran_63 : decode cX10_ran 63 = .ok (.ireturn, 1) := by decide +kernel
theorem dX10_ran_64 : decode cX10_ran 64 = .ok (.iconst 0, 1) := by decide +kernel
theorem dX10_ran_65 : decode cX10_ran 65 = .ok (.ireturn, 1) := by decide +kernel
theorem dX10_emitted_0 : decode cX10_emitted 0 = .ok (.iload_n 1, 1) := by decide +kernel
theorem dX10_emitted_1 : decode cX10_emitted 1 = .ok (.ifCond .lt 32, 3) := by decide +kernel
theorem dX10_emitted_4 : decode cX10_emitted 4 = .ok (.iload_n 1, 1) := by decide +kernel
theorem dX10_emitted_5 : decode cX10_emitted 5 = .ok (.bipush 60, 2) := by decide +kernel
theorem dX10_emitted_7 : decode cX10_emitted 7 = .ok (.if_icmp .ge 26, 3) := by decide +kernel
theorem dX10_emitted_10 : decode cX10_emitted 10 = .ok (.iload_n 1, 1) := by decide +kernel
theorem dX10_emitted_11 : decode cX10_emitted 11 = .ok (.aload_n 0, 1) := by decide +kernel
theorem dX10_emitted_12 : decode cX10_emitted 12 = .ok (.getfield 67, 3) := by decide +kernel
theorem dX10_emitted_15 : decode cX10_emitted 15 = .ok (.getfield 218, 3) := by decide +kernel
theorem dX10_emitted_18 : decode cX10_emitted 18 = .ok (.if_icmp .ge 15, 3) := by decide +kernel
theorem dX10_emitted_21 : decode cX10_emitted 21 = .ok (.aload_n 0, 1) := by decide +kernel
theorem dX10_emitted_22 : decode cX10_emitted 22 = .ok (.getfield 67, 3) := by decide +kernel
theorem dX10_emitted_25 : decode cX10_emitted 25 = .ok (.getfield 224, 3) := by decide +kernel
theorem dX10_emitted_28 : decode cX10_emitted 28 = .ok (.iload_n 1, 1) := by decide +kernel
theorem dX10_emitted_29 : decode cX10_emitted 29 = .ok (.iaload, 1) := by decide +kernel
theorem dX10_emitted_30 : decode cX10_emitted 30 = .ok (.goto 4, 3) := by decide +kernel
theorem dX10_emitted_33 : decode cX10_emitted 33 = .ok (.iconst 0, 1) := by decide +kernel
theorem dX10_emitted_34 : decode cX10_emitted 34 = .ok (.ireturn, 1) := by decide +kernel
theorem dX10_count_0 : decode cX10_count 0 = .ok (.aload_n 0, 1) := by decide +kernel
theorem dX10_count_1 : decode cX10_count 1 = .ok (.invokevirtual 104, 3) := by decide +kernel
theorem dX10_count_4 : decode cX10_count 4 = .ok (.iload_n 1, 1) := by decide +kernel
theorem dX10_count_5 : decode cX10_count 5 = .ok (.tableswitch 102 0 6 #[43, 51, 59, 70, 78, 86, 94], 43) := by decide +kernel
theorem dX10_count_48 : decode cX10_count 48 = .ok (.aload_n 0, 1) := by decide +kernel
theorem dX10_count_49 : decode cX10_count 49 = .ok (.getfield 12, 3) := by decide +kernel
theorem dX10_count_52 : decode cX10_count 52 = .ok (.getfield 75, 3) := by decide +kernel
theorem dX10_count_55 : decode cX10_count 55 = .ok (.ireturn, 1) := by decide +kernel
theorem dX10_count_56 : decode cX10_count 56 = .ok (.aload_n 0, 1) := by decide +kernel
theorem dX10_count_57 : decode cX10_count 57 = .ok (.getfield 12, 3) := by decide +kernel
theorem dX10_count_60 : decode cX10_count 60 = .ok (.invokevirtual 83, 3) := by decide +kernel
theorem dX10_count_63 : decode cX10_count 63 = .ok (.ireturn, 1) := by decide +kernel
theorem dX10_count_64 : decode cX10_count 64 = .ok (.aload_n 0, 1) := by decide +kernel
theorem dX10_count_65 : decode cX10_count 65 = .ok (.getfield 19, 3) := by decide +kernel
theorem dX10_count_68 : decode cX10_count 68 = .ok (.getfield 227, 3) := by decide +kernel
theorem dX10_count_71 : decode cX10_count 71 = .ok (.invokestatic 128, 3) := by decide +kernel
theorem dX10_count_74 : decode cX10_count 74 = .ok (.ireturn, 1) := by decide +kernel
theorem dX10_count_75 : decode cX10_count 75 = .ok (.aload_n 0, 1) := by decide +kernel
theorem dX10_count_76 : decode cX10_count 76 = .ok (.getfield 26, 3) := by decide +kernel
theorem dX10_count_79 : decode cX10_count 79 = .ok (.getfield 230, 3) := by decide +kernel
theorem dX10_count_82 : decode cX10_count 82 = .ok (.ireturn, 1) := by decide +kernel
theorem dX10_count_83 : decode cX10_count 83 = .ok (.aload_n 0, 1) := by decide +kernel
theorem dX10_count_84 : decode cX10_count 84 = .ok (.getfield 33, 3) := by decide +kernel
theorem dX10_count_87 : decode cX10_count 87 = .ok (.getfield 233, 3) := by decide +kernel
theorem dX10_count_90 : decode cX10_count 90 = .ok (.ireturn, 1) := by decide +kernel
theorem dX10_count_91 : decode cX10_count 91 = .ok (.aload_n 0, 1) := by decide +kernel
theorem dX10_count_92 : decode cX10_count 92 = .ok (.getfield 40, 3) := by decide +kernel
theorem dX10_count_95 : decode cX10_count 95 = .ok (.getfield 234, 3) := by decide +kernel
theorem dX10_count_98 : decode cX10_count 98 = .ok (.ireturn, 1) := by decide +kernel
theorem dX10_count_99 : decode cX10_count 99 = .ok (.aload_n 0, 1) := by decide +kernel
theorem dX10_count_100 : decode cX10_count 100 = .ok (.getfield 26, 3) := by decide +kernel
theorem dX10_count_103 : decode cX10_count 103 = .ok (.invokevirtual 237, 3) := by decide +kernel
theorem dX10_count_106 : decode cX10_count 106 = .ok (.ireturn, 1) := by decide +kernel
theorem dX10_count_107 : decode cX10_count 107 = .ok (.iconst (-1), 1) := by decide +kernel
theorem dX10_count_108 : decode cX10_count 108 = .ok (.ireturn, 1) := by decide +kernel
theorem dX10_refresh_0 : decode cX10_refresh 0 = .ok (.aload_n 0, 1) := by decide +kernel
theorem dX10_refresh_1 : decode cX10_refresh 1 = .ok (.getfield 71, 3) := by decide +kernel
theorem dX10_refresh_4 : decode cX10_refresh 4 = .ok (.ifCond .ne 4, 3) := by decide +kernel
theorem dX10_refresh_7 : decode cX10_refresh 7 = .ok (.return_, 1) := by decide +kernel
theorem dX10_refresh_8 : decode cX10_refresh 8 = .ok (.aload_n 0, 1) := by decide +kernel
theorem dX10_refresh_9 : decode cX10_refresh 9 = .ok (.getfield 19, 3) := by decide +kernel
theorem dX10_refresh_12 : decode cX10_refresh 12 = .ok (.aload_n 0, 1) := by decide +kernel
theorem dX10_refresh_13 : decode cX10_refresh 13 = .ok (.getfield 12, 3) := by decide +kernel
theorem dX10_refresh_16 : decode cX10_refresh 16 = .ok (.invokevirtual 240, 3) := by decide +kernel
theorem dX10_refresh_19 : decode cX10_refresh 19 = .ok (.aload_n 0, 1) := by decide +kernel
theorem dX10_refresh_20 : decode cX10_refresh 20 = .ok (.getfield 26, 3) := by decide +kernel
theorem dX10_refresh_23 : decode cX10_refresh 23 = .ok (.aload_n 0, 1) := by decide +kernel
theorem dX10_refresh_24 : decode cX10_refresh 24 = .ok (.getfield 12, 3) := by decide +kernel
theorem dX10_refresh_27 : decode cX10_refresh 27 = .ok (.aload_n 0, 1) := by decide +kernel
theorem dX10_refresh_28 : decode cX10_refresh 28 = .ok (.getfield 19, 3) := by decide +kernel
theorem dX10_refresh_31 : decode cX10_refresh 31 = .ok (.invokevirtual 243, 3) := by decide +kernel
theorem dX10_refresh_34 : decode cX10_refresh 34 = .ok (.aload_n 0, 1) := by decide +kernel
theorem dX10_refresh_35 : decode cX10_refresh 35 = .ok (.getfield 33, 3) := by decide +kernel
theorem dX10_refresh_38 : decode cX10_refresh 38 = .ok (.aload_n 0, 1) := by decide +kernel
theorem dX10_refresh_39 : decode cX10_refresh 39 = .ok (.getfield 26, 3) := by decide +kernel
theorem dX10_refresh_42 : decode cX10_refresh 42 = .ok (.invokevirtual 247, 3) := by decide +kernel
theorem dX10_refresh_45 : decode cX10_refresh 45 = .ok (.aload_n 0, 1) := by decide +kernel
theorem dX10_refresh_46 : decode cX10_refresh 46 = .ok (.getfield 40, 3) := by decide +kernel
theorem dX10_refresh_49 : decode cX10_refresh 49 = .ok (.aload_n 0, 1) := by decide +kernel
theorem dX10_refresh_50 : decode cX10_refresh 50 = .ok (.getfield 12, 3) := by decide +kernel
theorem dX10_refresh_53 : decode cX10_refresh 53 = .ok (.aload_n 0, 1) := by decide +kernel
theorem dX10_refresh_54 : decode cX10_refresh 54 = .ok (.getfield 19, 3) := by decide +kernel
theorem dX10_refresh_57 : decode cX10_refresh 57 = .ok (.aload_n 0, 1) := by decide +kernel
theorem dX10_refresh_58 : decode cX10_refresh 58 = .ok (.getfield 26, 3) := by decide +kernel
theorem dX10_refresh_61 : decode cX10_refresh 61 = .ok (.aload_n 0, 1) := by decide +kernel
theorem dX10_refresh_62 : decode cX10_refresh 62 = .ok (.getfield 33, 3) := by decide +kernel
theorem dX10_refresh_65 : decode cX10_refresh 65 = .ok (.invokevirtual 251, 3) := by decide +kernel
theorem dX10_refresh_68 : decode cX10_refresh 68 = .ok (.aload_n 0, 1) := by decide +kernel
theorem dX10_refresh_69 : decode cX10_refresh 69 = .ok (.iconst 0, 1) := by decide +kernel
theorem dX10_refresh_70 : decode cX10_refresh 70 = .ok (.putfield 71, 3) := by decide +kernel
theorem dX10_refresh_73 : decode cX10_refresh 73 = .ok (.return_, 1) := by decide +kernel
theorem dJ6_bitCount_0f7a4_0 : decode cJ6_bitCount_0f7a4 0 = .ok (.iload_n 0, 1) := by decide +kernel
theorem dJ6_bitCount_0f7a4_1 : decode cJ6_bitCount_0f7a4 1 = .ok (.iload_n 0, 1) := by decide +kernel
theorem dJ6_bitCount_0f7a4_2 : decode cJ6_bitCount_0f7a4 2 = .ok (.iconst 1, 1) := by decide +kernel
theorem dJ6_bitCount_0f7a4_3 : decode cJ6_bitCount_0f7a4 3 = .ok (.iushr, 1) := by decide +kernel
theorem dJ6_bitCount_0f7a4_4 : decode cJ6_bitCount_0f7a4 4 = .ok (.ldc_w 265, 3) := by decide +kernel
theorem dJ6_bitCount_0f7a4_7 : decode cJ6_bitCount_0f7a4 7 = .ok (.iand, 1) := by decide +kernel
theorem dJ6_bitCount_0f7a4_8 : decode cJ6_bitCount_0f7a4 8 = .ok (.isub, 1) := by decide +kernel
theorem dJ6_bitCount_0f7a4_9 : decode cJ6_bitCount_0f7a4 9 = .ok (.istore_n 0, 1) := by decide +kernel
theorem dJ6_bitCount_0f7a4_10 : decode cJ6_bitCount_0f7a4 10 = .ok (.iload_n 0, 1) := by decide +kernel
theorem dJ6_bitCount_0f7a4_11 : decode cJ6_bitCount_0f7a4 11 = .ok (.ldc_w 266, 3) := by decide +kernel
theorem dJ6_bitCount_0f7a4_14 : decode cJ6_bitCount_0f7a4 14 = .ok (.iand, 1) := by decide +kernel
theorem dJ6_bitCount_0f7a4_15 : decode cJ6_bitCount_0f7a4 15 = .ok (.iload_n 0, 1) := by decide +kernel
theorem dJ6_bitCount_0f7a4_16 : decode cJ6_bitCount_0f7a4 16 = .ok (.iconst 2, 1) := by decide +kernel
theorem dJ6_bitCount_0f7a4_17 : decode cJ6_bitCount_0f7a4 17 = .ok (.iushr, 1) := by decide +kernel
theorem dJ6_bitCount_0f7a4_18 : decode cJ6_bitCount_0f7a4 18 = .ok (.ldc_w 266, 3) := by decide +kernel
theorem dJ6_bitCount_0f7a4_21 : decode cJ6_bitCount_0f7a4 21 = .ok (.iand, 1) := by decide +kernel
theorem dJ6_bitCount_0f7a4_22 : decode cJ6_bitCount_0f7a4 22 = .ok (.iadd, 1) := by decide +kernel
theorem dJ6_bitCount_0f7a4_23 : decode cJ6_bitCount_0f7a4 23 = .ok (.istore_n 0, 1) := by decide +kernel
theorem dJ6_bitCount_0f7a4_24 : decode cJ6_bitCount_0f7a4 24 = .ok (.iload_n 0, 1) := by decide +kernel
theorem dJ6_bitCount_0f7a4_25 : decode cJ6_bitCount_0f7a4 25 = .ok (.iload_n 0, 1) := by decide +kernel
theorem dJ6_bitCount_0f7a4_26 : decode cJ6_bitCount_0f7a4 26 = .ok (.iconst 4, 1) := by decide +kernel
theorem dJ6_bitCount_0f7a4_27 : decode cJ6_bitCount_0f7a4 27 = .ok (.iushr, 1) := by decide +kernel
theorem dJ6_bitCount_0f7a4_28 : decode cJ6_bitCount_0f7a4 28 = .ok (.iadd, 1) := by decide +kernel
theorem dJ6_bitCount_0f7a4_29 : decode cJ6_bitCount_0f7a4 29 = .ok (.ldc_w 267, 3) := by decide +kernel
theorem dJ6_bitCount_0f7a4_32 : decode cJ6_bitCount_0f7a4 32 = .ok (.iand, 1) := by decide +kernel
theorem dJ6_bitCount_0f7a4_33 : decode cJ6_bitCount_0f7a4 33 = .ok (.istore_n 0, 1) := by decide +kernel
theorem dJ6_bitCount_0f7a4_34 : decode cJ6_bitCount_0f7a4 34 = .ok (.iload_n 0, 1) := by decide +kernel
theorem dJ6_bitCount_0f7a4_35 : decode cJ6_bitCount_0f7a4 35 = .ok (.iload_n 0, 1) := by decide +kernel
theorem dJ6_bitCount_0f7a4_36 : decode cJ6_bitCount_0f7a4 36 = .ok (.bipush 8, 2) := by decide +kernel
theorem dJ6_bitCount_0f7a4_38 : decode cJ6_bitCount_0f7a4 38 = .ok (.iushr, 1) := by decide +kernel
theorem dJ6_bitCount_0f7a4_39 : decode cJ6_bitCount_0f7a4 39 = .ok (.iadd, 1) := by decide +kernel
theorem dJ6_bitCount_0f7a4_40 : decode cJ6_bitCount_0f7a4 40 = .ok (.istore_n 0, 1) := by decide +kernel
theorem dJ6_bitCount_0f7a4_41 : decode cJ6_bitCount_0f7a4 41 = .ok (.iload_n 0, 1) := by decide +kernel
theorem dJ6_bitCount_0f7a4_42 : decode cJ6_bitCount_0f7a4 42 = .ok (.iload_n 0, 1) := by decide +kernel
theorem dJ6_bitCount_0f7a4_43 : decode cJ6_bitCount_0f7a4 43 = .ok (.bipush 16, 2) := by decide +kernel
theorem dJ6_bitCount_0f7a4_45 : decode cJ6_bitCount_0f7a4 45 = .ok (.iushr, 1) := by decide +kernel
theorem dJ6_bitCount_0f7a4_46 : decode cJ6_bitCount_0f7a4 46 = .ok (.iadd, 1) := by decide +kernel
theorem dJ6_bitCount_0f7a4_47 : decode cJ6_bitCount_0f7a4 47 = .ok (.istore_n 0, 1) := by decide +kernel
theorem dJ6_bitCount_0f7a4_48 : decode cJ6_bitCount_0f7a4 48 = .ok (.iload_n 0, 1) := by decide +kernel
theorem dJ6_bitCount_0f7a4_49 : decode cJ6_bitCount_0f7a4 49 = .ok (.bipush 63, 2) := by decide +kernel
theorem dJ6_bitCount_0f7a4_51 : decode cJ6_bitCount_0f7a4 51 = .ok (.iand, 1) := by decide +kernel
theorem dJ6_bitCount_0f7a4_52 : decode cJ6_bitCount_0f7a4 52 = .ok (.ireturn, 1) := by decide +kernel
theorem dJ7_fill_53178_0 : decode cJ7_fill_53178 0 = .ok (.iconst 0, 1) := by decide +kernel
theorem dJ7_fill_53178_1 : decode cJ7_fill_53178 1 = .ok (.istore_n 2, 1) := by decide +kernel
theorem dJ7_fill_53178_2 : decode cJ7_fill_53178 2 = .ok (.aload_n 0, 1) := by decide +kernel
theorem dJ7_fill_53178_3 : decode cJ7_fill_53178 3 = .ok (.arraylength, 1) := by decide +kernel
theorem dJ7_fill_53178_4 : decode cJ7_fill_53178 4 = .ok (.istore_n 3, 1) := by decide +kernel
theorem dJ7_fill_53178_5 : decode cJ7_fill_53178 5 = .ok (.iload_n 2, 1) := by decide +kernel
theorem dJ7_fill_53178_6 : decode cJ7_fill_53178 6 = .ok (.iload_n 3, 1) := by decide +kernel
theorem dJ7_fill_53178_7 : decode cJ7_fill_53178 7 = .ok (.if_icmp .ge 13, 3) := by decide +kernel
theorem dJ7_fill_53178_10 : decode cJ7_fill_53178 10 = .ok (.aload_n 0, 1) := by decide +kernel
theorem dJ7_fill_53178_11 : decode cJ7_fill_53178 11 = .ok (.iload_n 2, 1) := by decide +kernel
theorem dJ7_fill_53178_12 : decode cJ7_fill_53178 12 = .ok (.iload_n 1, 1) := by decide +kernel
theorem dJ7_fill_53178_13 : decode cJ7_fill_53178 13 = .ok (.iastore, 1) := by decide +kernel
theorem dJ7_fill_53178_14 : decode cJ7_fill_53178 14 = .ok (.iinc 2 1, 3) := by decide +kernel
theorem dJ7_fill_53178_17 : decode cJ7_fill_53178 17 = .ok (.goto (-12), 3) := by decide +kernel
theorem dJ7_fill_53178_20 : decode cJ7_fill_53178 20 = .ok (.return_, 1) := by decide +kernel
