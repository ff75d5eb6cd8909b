theorem dX0_init_0 : decode cX0_init 0 = .ok (.aload_n 0, 1) := by decide +kernel
theorem dX0_init_1 : decode cX0_init 1 = .ok (.invokespecial 3, 3) := by decide +kernel
theorem dX0_init_4 : decode cX0_init 4 = .ok (.aload_n 0, 1) := by decide +kernel
theorem dX0_init_5 : decode cX0_init 5 = .ok (.sipush 261, 3) := by decide +kernel
theorem dX0_init_8 : decode cX0_init 8 = .ok (.newarray .int, 2) := by decide +kernel
theorem dX0_init_10 : decode cX0_init 10 = .ok (.putfield 9, 3) := by decide +kernel
theorem dX0_init_13 : decode cX0_init 13 = .ok (.aload_n 0, 1) := by decide +kernel
theorem dX0_init_14 : decode cX0_init 14 = .ok (.sipush 261, 3) := by decide +kernel
theorem dX0_init_17 : decode cX0_init 17 = .ok (.newarray .int, 2) := by decide +kernel
theorem dX0_init_19 : decode cX0_init 19 = .ok (.putfield 15, 3) := by decide +kernel
theorem dX0_init_22 : decode cX0_init 22 = .ok (.return_, 1) := by decide +kernel
theorem dX0_part_0 : decode cX0_part 0 = .ok (.iconst 0, 1) := by decide +kernel
theorem dX0_part_1 : decode cX0_part 1 = .ok (.istore_n 2, 1) := by decide +kernel
theorem dX0_part_2 : decode cX0_part 2 = .ok (.iload_n 2, 1) := by decide +kernel
theorem dX0_part_3 : decode cX0_part 3 = .ok (.aload_n 1, 1) := by decide +kernel
theorem dX0_part_4 : decode cX0_part 4 = .ok (.getfield 18, 3) := by decide +kernel
theorem dX0_part_7 : decode cX0_part 7 = .ok (.if_icmp .ge 21, 3) := by decide +kernel
theorem dX0_part_10 : decode cX0_part 10 = .ok (.aload_n 0, 1) := by decide +kernel
theorem dX0_part_11 : decode cX0_part 11 = .ok (.getfield 9, 3) := by decide +kernel
theorem dX0_part_14 : decode cX0_part 14 = .ok (.iload_n 2, 1) := by decide +kernel
theorem dX0_part_15 : decode cX0_part 15 = .ok (.aload_n 0, 1) := by decide +kernel
theorem dX0_part_16 : decode cX0_part 16 = .ok (.aload_n 1, 1) := by decide +kernel
theorem dX0_part_17 : decode cX0_part 17 = .ok (.iload_n 2, 1) := by decide +kernel
theorem dX0_part_18 : decode cX0_part 18 = .ok (.invokevirtual 24, 3) := by decide +kernel
theorem dX0_part_21 : decode cX0_part 21 = .ok (.iastore, 1) := by decide +kernel
theorem dX0_part_22 : decode cX0_part 22 = .ok (.iinc 2 1, 3) := by decide +kernel
theorem dX0_part_25 : decode cX0_part 25 = .ok (.goto (-23), 3) := by decide +kernel
theorem dX0_part_28 : decode cX0_part 28 = .ok (.iconst 1, 1) := by decide +kernel
theorem dX0_part_29 : decode cX0_part 29 = .ok (.istore_n 2, 1) := by decide +kernel
theorem dX0_part_30 : decode cX0_part 30 = .ok (.iconst 0, 1) := by decide +kernel
theorem dX0_part_31 : decode cX0_part 31 = .ok (.istore_n 3, 1) := by decide +kernel
theorem dX0_part_32 : decode cX0_part 32 = .ok (.iload_n 3, 1) := by decide +kernel
theorem dX0_part_33 : decode cX0_part 33 = .ok (.sipush 261, 3) := by decide +kernel
theorem dX0_part_36 : decode cX0_part 36 = .ok (.if_icmp .gt 19, 3) := by decide +kernel
theorem dX0_part_39 : decode cX0_part 39 = .ok (.iload_n 2, 1) := by decide +kernel
theorem dX0_part_40 : decode cX0_part 40 = .ok (.ifCond .eq 15, 3) := by decide +kernel
theorem dX0_part_43 : decode cX0_part 43 = .ok (.aload_n 0, 1) := by decide +kernel
theorem dX0_part_44 : decode cX0_part 44 = .ok (.aload_n 1, 1) := by decide +kernel
theorem dX0_part_45 : decode cX0_part 45 = .ok (.invokevirtual 28, 3) := by decide +kernel
theorem dX0_part_48 : decode cX0_part 48 = .ok (.istore_n 2, 1) := by decide +kernel
theorem dX0_part_49 : decode cX0_part 49 = .ok (.iinc 3 1, 3) := by decide +kernel
theorem dX0_part_52 : decode cX0_part 52 = .ok (.goto (-20), 3) := by decide +kernel
theorem dX0_part_55 : decode cX0_part 55 = .ok (.aload_n 0, 1) := by decide +kernel
theorem dX0_part_56 : decode cX0_part 56 = .ok (.iconst 0, 1) := by decide +kernel
theorem dX0_part_57 : decode cX0_part 57 = .ok (.putfield 32, 3) := by decide +kernel
theorem dX0_part_60 : decode cX0_part 60 = .ok (.iconst 0, 1) := by decide +kernel
theorem dX0_part_61 : decode cX0_part 61 = .ok (.istore_n 3, 1) := by decide +kernel
theorem dX0_part_62 : decode cX0_part 62 = .ok (.iload_n 3, 1) := by decide +kernel
theorem dX0_part_63 : decode cX0_part 63 = .ok (.aload_n 1, 1) := by decide +kernel
theorem dX0_part_64 : decode cX0_part 64 = .ok (.getfield 18, 3) := by decide +kernel
theorem dX0_part_67 : decode cX0_part 67 = .ok (.if_icmp .ge 33, 3) := by decide +kernel
theorem dX0_part_70 : decode cX0_part 70 = .ok (.aload_n 0, 1) := by decide +kernel
theorem dX0_part_71 : decode cX0_part 71 = .ok (.dup, 1) := by decide +kernel
theorem dX0_part_72 : decode cX0_part 72 = .ok (.getfield 32, 3) := by decide +kernel
theorem dX0_part_75 : decode cX0_part 75 = .ok (.aload_n 0, 1) := by decide +kernel
theorem dX0_part_76 : decode cX0_part 76 = .ok (.getfield 9, 3) := by decide +kernel
theorem dX0_part_79 : decode cX0_part 79 = .ok (.iload_n 3, 1) := by decide +kernel
theorem dX0_part_80 : decode cX0_part 80 = .ok (.iaload, 1) := by decide +kernel
theorem dX0_part_81 : decode cX0_part 81 = .ok (.iload_n 3, 1) := by decide +kernel
theorem dX0_part_82 : decode cX0_part 82 = .ok (.if_icmp .ne 7, 3) := by decide +kernel
theorem dX0_part_85 : decode cX0_part 85 = .ok (.iconst 1, 1) := by decide +kernel
theorem dX0_part_86 : decode cX0_part 86 = .ok (.goto 4, 3) := by decide +kernel
theorem dX0_part_89 : decode cX0_part 89 = .ok (.iconst 0, 1) := by decide +kernel
theorem dX0_part_90 : decode cX0_part 90 = .ok (.iadd, 1) := by decide +kernel
theorem dX0_part_91 : decode cX0_part 91 = .ok (.putfield 32, 3) := by decide +kernel
theorem dX0_part_94 : decode cX0_part 94 = .ok (.iinc 3 1, 3) := by decide +kernel
theorem dX0_part_97 : decode cX0_part 97 = .ok (.goto (-35), 3) := by decide +kernel
theorem dX0_part_100 : decode cX0_part 100 = .ok (.return_, 1) := by decide +kernel
theorem dX0_leastAlike_0 : decode cX0_leastAlike 0 = .ok (.iconst 0, 1) := by decide +kernel
theorem dX0_leastAlike_1 : decode cX0_leastAlike 1 = .ok (.istore_n 3, 1) := by decide +kernel
theorem dX0_leastAlike_2 : decode cX0_leastAlike 2 = .ok (.iload_n 3, 1) := by decide +kernel
theorem dX0_leastAlike_3 : decode cX0_leastAlike 3 = .ok (.iload_n 2, 1) := by decide +kernel
theorem dX0_leastAlike_4 : decode cX0_leastAlike 4 = .ok (.if_icmp .ge 30, 3) := by decide +kernel
theorem dX0_leastAlike_7 : decode cX0_leastAlike 7 = .ok (.aload_n 0, 1) := by decide +kernel
theorem dX0_leastAlike_8 : decode cX0_leastAlike 8 = .ok (.getfield 9, 3) := by decide +kernel
theorem dX0_leastAlike_11 : decode cX0_leastAlike 11 = .ok (.iload_n 3, 1) := by decide +kernel
theorem dX0_leastAlike_12 : decode cX0_leastAlike 12 = .ok (.iaload, 1) := by decide +kernel
theorem dX0_leastAlike_13 : decode cX0_leastAlike 13 = .ok (.iload_n 3, 1) := by decide +kernel
theorem dX0_leastAlike_14 : decode cX0_leastAlike 14 = .ok (.if_icmp .ne 14, 3) := by decide +kernel
theorem dX0_leastAlike_17 : decode cX0_leastAlike 17 = .ok (.aload_n 1, 1) := by decide +kernel
theorem dX0_leastAlike_18 : decode cX0_leastAlike 18 = .ok (.iload_n 3, 1) := by decide +kernel
theorem dX0_leastAlike_19 : decode cX0_leastAlike 19 = .ok (.iload_n 2, 1) := by decide +kernel
theorem dX0_leastAlike_20 : decode cX0_leastAlike 20 = .ok (.invokestatic 33, 3) := by decide +kernel
theorem dX0_leastAlike_23 : decode cX0_leastAlike 23 = .ok (.ifCond .eq 5, 3) := by decide +kernel
theorem dX0_leastAlike_26 : decode cX0_leastAlike 26 = .ok (.iload_n 3, 1) := by decide +kernel
theorem dX0_leastAlike_27 : decode cX0_leastAlike 27 = .ok (.ireturn, 1) := by decide +kernel
theorem dX0_leastAlike_28 : decode cX0_leastAlike 28 = .ok (.iinc 3 1, 3) := by decide +kernel
theorem dX0_leastAlike_31 : decode cX0_leastAlike 31 = .ok (.goto (-29), 3) := by decide +kernel
theorem dX0_leastAlike_34 : decode cX0_leastAlike 34 = .ok (.iload_n 2, 1) := by decide +kernel
theorem dX0_leastAlike_35 : decode cX0_leastAlike 35 = .ok (.ireturn, 1) := by decide +kernel
theorem dX0_alike_0 : decode cX0_alike 0 = .ok (.aload_n 0, 1) := by decide +kernel
theorem dX0_alike_1 : decode cX0_alike 1 = .ok (.getfield 37, 3) := by decide +kernel
theorem dX0_alike_4 : decode cX0_alike 4 = .ok (.iload_n 1, 1) := by decide +kernel
theorem dX0_alike_5 : decode cX0_alike 5 = .ok (.iaload, 1) := by decide +kernel
theorem dX0_alike_6 : decode cX0_alike 6 = .ok (.aload_n 0, 1) := by decide +kernel
theorem dX0_alike_7 : decode cX0_alike 7 = .ok (.getfield 37, 3) := by decide +kernel
theorem dX0_alike_10 : decode cX0_alike 10 = .ok (.iload_n 2, 1) := by decide +kernel
theorem dX0_alike_11 : decode cX0_alike 11 = .ok (.iaload, 1) := by decide +kernel
theorem dX0_alike_12 : decode cX0_alike 12 = .ok (.if_icmp .ne 48, 3) := by decide +kernel
theorem dX0_alike_15 : decode cX0_alike 15 = .ok (.aload_n 0, 1) := by decide +kernel
theorem dX0_alike_16 : decode cX0_alike 16 = .ok (.getfield 40, 3) := by decide +kernel
theorem dX0_alike_19 : decode cX0_alike 19 = .ok (.iload_n 1, 1) := by decide +kernel
theorem dX0_alike_20 : decode cX0_alike 20 = .ok (.iaload, 1) := by decide +kernel
theorem dX0_alike_21 : decode cX0_alike 21 = .ok (.aload_n 0, 1) := by decide +kernel
theorem dX0_alike_22 : decode cX0_alike 22 = .ok (.getfield 40, 3) := by decide +kernel
theorem dX0_alike_25 : decode cX0_alike 25 = .ok (.iload_n 2, 1) := by decide +kernel
theorem dX0_alike_26 : decode cX0_alike 26 = .ok (.iaload, 1) := by decide +kernel
theorem dX0_alike_27 : decode cX0_alike 27 = .ok (.if_icmp .ne 33, 3) := by decide +kernel
theorem dX0_alike_30 : decode cX0_alike 30 = .ok (.aload_n 0, 1) := by decide +kernel
theorem dX0_alike_31 : decode cX0_alike 31 = .ok (.getfield 37, 3) := by decide +kernel
theorem dX0_alike_34 : decode cX0_alike 34 = .ok (.iload_n 1, 1) := by decide +kernel
theorem dX0_alike_35 : decode cX0_alike 35 = .ok (.iaload, 1) := by decide +kernel
theorem dX0_alike_36 : decode cX0_alike 36 = .ok (.bipush 15, 2) := by decide +kernel
theorem dX0_alike_38 : decode cX0_alike 38 = .ok (.if_icmp .ne 18, 3) := by decide +kernel
theorem dX0_alike_41 : decode cX0_alike 41 = .ok (.aload_n 0, 1) := by decide +kernel
theorem dX0_alike_42 : decode cX0_alike 42 = .ok (.getfield 43, 3) := by decide +kernel
theorem dX0_alike_45 : decode cX0_alike 45 = .ok (.iload_n 1, 1) := by decide +kernel
theorem dX0_alike_46 : decode cX0_alike 46 = .ok (.iaload, 1) := by decide +kernel
theorem dX0_alike_47 : decode cX0_alike 47 = .ok (.aload_n 0, 1) := by decide +kernel
theorem dX0_alike_48 : decode cX0_alike 48 = .ok (.getfield 43, 3) := by decide +kernel
theorem dX0_alike_51 : decode cX0_alike 51 = .ok (.iload_n 2, 1) := by decide +kernel
theorem dX0_alike_52 : decode cX0_alike 52 = .ok (.iaload, 1) := by decide +kernel
theorem dX0_alike_53 : decode cX0_alike 53 = .ok (.if_icmp .ne 7, 3) := by decide +kernel
theorem dX0_alike_56 : decode cX0_alike 56 = .ok (.iconst 1, 1) := by decide +kernel
theorem dX0_alike_57 : decode cX0_alike 57 = .ok (.goto 4, 3) := by decide +kernel
theorem dX0_alike_60 : decode cX0_alike 60 = .ok (.iconst 0, 1) := by decide +kernel
theorem dX0_alike_61 : decode cX0_alike 61 = .ok (.ireturn, 1) := by decide +kernel
theorem dX0_partFiner_0 : decode cX0_partFiner 0 = .ok (.iconst 0, 1) := by decide +kernel
theorem dX0_partFiner_1 : decode cX0_partFiner 1 = .ok (.istore_n 2, 1) := by decide +kernel
theorem dX0_partFiner_2 : decode cX0_partFiner 2 = .ok (.iconst 0, 1) := by decide +kernel
theorem dX0_partFiner_3 : decode cX0_partFiner 3 = .ok (.istore_n 3, 1) := by decide +kernel
theorem dX0_partFiner_4 : decode cX0_partFiner 4 = .ok (.iload_n 3, 1) := by decide +kernel
theorem dX0_partFiner_5 : decode cX0_partFiner 5 = .ok (.aload_n 1, 1) := by decide +kernel
theorem dX0_partFiner_6 : decode cX0_partFiner 6 = .ok (.getfield 18, 3) := by decide +kernel
theorem dX0_partFiner_9 : decode cX0_partFiner 9 = .ok (.if_icmp .ge 46, 3) := by decide +kernel
theorem dX0_partFiner_12 : decode cX0_partFiner 12 = .ok (.aload_n 0, 1) := by decide +kernel
theorem dX0_partFiner_13 : decode cX0_partFiner 13 = .ok (.getfield 15, 3) := by decide +kernel
theorem dX0_partFiner_16 : decode cX0_partFiner 16 = .ok (.iload_n 3, 1) := by decide +kernel
theorem dX0_partFiner_17 : decode cX0_partFiner 17 = .ok (.aload_n 0, 1) := by decide +kernel
theorem dX0_partFiner_18 : decode cX0_partFiner 18 = .ok (.aload_n 1, 1) := by decide +kernel
theorem dX0_partFiner_19 : decode cX0_partFiner 19 = .ok (.iload_n 3, 1) := by decide +kernel
theorem dX0_partFiner_20 : decode cX0_partFiner 20 = .ok (.invokevirtual 46, 3) := by decide +kernel
theorem dX0_partFiner_23 : decode cX0_partFiner 23 = .ok (.iastore, 1) := by decide +kernel
theorem dX0_partFiner_24 : decode cX0_partFiner 24 = .ok (.iload_n 2, 1) := by decide +kernel
theorem dX0_partFiner_25 : decode cX0_partFiner 25 = .ok (.ifCond .ne 18, 3) := by decide +kernel
theorem dX0_partFiner_28 : decode cX0_partFiner 28 = .ok (.aload_n 0, 1) := by decide +kernel
theorem dX0_partFiner_29 : decode cX0_partFiner 29 = .ok (.getfield 15, 3) := by decide +kernel
theorem dX0_partFiner_32 : decode cX0_partFiner 32 = .ok (.iload_n 3, 1) := by decide +kernel
theorem dX0_partFiner_33 : decode cX0_partFiner 33 = .ok (.iaload, 1) := by decide +kernel
theorem dX0_partFiner_34 : decode cX0_partFiner 34 = .ok (.aload_n 0, 1) := by decide +kernel
theorem dX0_partFiner_35 : decode cX0_partFiner 35 = .ok (.getfield 9, 3) := by decide +kernel
theorem dX0_partFiner_38 : decode cX0_partFiner 38 = .ok (.iload_n 3, 1) := by decide +kernel
theorem dX0_partFiner_39 : decode cX0_partFiner 39 = .ok (.iaload, 1) := by decide +kernel
theorem dX0_partFiner_40 : decode cX0_partFiner 40 = .ok (.if_icmp .eq 7, 3) := by decide +kernel
theorem dX0_partFiner_43 : decode cX0_partFiner 43 = .ok (.iconst 1, 1) := by decide +kernel
theorem dX0_partFiner_44 : decode cX0_partFiner 44 = .ok (.goto 4, 3) := by decide +kernel
theorem dX0_partFiner_47 : decode cX0_partFiner 47 = .ok (.iconst 0, 1) := by decide +kernel
theorem dX0_partFiner_48 : decode cX0_partFiner 48 = .ok (.istore_n 2, 1) := by decide +kernel
theorem dX0_partFiner_49 : decode cX0_partFiner 49 = .ok (.iinc 3 1, 3) := by decide +kernel
theorem dX0_partFiner_52 : decode cX0_partFiner 52 = .ok (.goto (-48), 3) := by decide +kernel
theorem dX0_partFiner_55 : decode cX0_partFiner 55 = .ok (.aload_n 0, 1) := by decide +kernel
theorem dX0_partFiner_56 : decode cX0_partFiner 56 = .ok (.getfield 15, 3) := by decide +kernel
theorem dX0_partFiner_59 : decode cX0_partFiner 59 = .ok (.iconst 0, 1) := by decide +kernel
theorem dX0_partFiner_60 : decode cX0_partFiner 60 = .ok (.aload_n 0, 1) := by decide +kernel
theorem dX0_partFiner_61 : decode cX0_partFiner 61 = .ok (.getfield 9, 3) := by decide +kernel
theorem dX0_partFiner_64 : decode cX0_partFiner 64 = .ok (.iconst 0, 1) := by decide +kernel
theorem dX0_partFiner_65 : decode cX0_partFiner 65 = .ok (.aload_n 1, 1) := by decide +kernel
theorem dX0_partFiner_66 : decode cX0_partFiner 66 = .ok (.getfield 18, 3) := by decide +kernel
theorem dX0_partFiner_69 : decode cX0_partFiner 69 = .ok (.invokestatic 49, 3) := by decide +kernel
theorem dX0_partFiner_72 : decode cX0_partFiner 72 = .ok (.iload_n 2, 1) := by decide +kernel
theorem dX0_partFiner_73 : decode cX0_partFiner 73 = .ok (.ireturn, 1) := by decide +kernel
theorem dX0_leastTogether_0 : decode cX0_leastTogether 0 = .ok (.aload_n 0, 1) := by decide +kernel
theorem dX0_leastTogether_1 : decode cX0_leastTogether 1 = .ok (.getfield 9, 3) := by decide +kernel
theorem dX0_leastTogether_4 : decode cX0_leastTogether 4 = .ok (.iload_n 2, 1) := by decide +kernel
theorem dX0_leastTogether_5 : decode cX0_leastTogether 5 = .ok (.iaload, 1) := by decide +kernel
theorem dX0_leastTogether_6 : decode cX0_leastTogether 6 = .ok (.istore_n 3, 1) := by decide +kernel
theorem dX0_leastTogether_7 : decode cX0_leastTogether 7 = .ok (.iload_n 3, 1) := by decide +kernel
theorem dX0_leastTogether_8 : decode cX0_leastTogether 8 = .ok (.iload_n 2, 1) := by decide +kernel
theorem dX0_leastTogether_9 : decode cX0_leastTogether 9 = .ok (.if_icmp .ge 46, 3) := by decide +kernel
theorem dX0_leastTogether_12 : decode cX0_leastTogether 12 = .ok (.aload_n 0, 1) := by decide +kernel
theorem dX0_leastTogether_13 : decode cX0_leastTogether 13 = .ok (.getfield 15, 3) := by decide +kernel
theorem dX0_leastTogether_16 : decode cX0_leastTogether 16 = .ok (.iload_n 3, 1) := by decide +kernel
theorem dX0_leastTogether_17 : decode cX0_leastTogether 17 = .ok (.iaload, 1) := by decide +kernel
theorem dX0_leastTogether_18 : decode cX0_leastTogether 18 = .ok (.iload_n 3, 1) := by decide +kernel
theorem dX0_leastTogether_19 : decode cX0_leastTogether 19 = .ok (.if_icmp .ne 30, 3) := by decide +kernel
theorem dX0_leastTogether_22 : decode cX0_leastTogether 22 = .ok (.aload_n 0, 1) := by decide +kernel
theorem dX0_leastTogether_23 : decode cX0_leastTogether 23 = .ok (.getfield 9, 3) := by decide +kernel
theorem dX0_leastTogether_26 : decode cX0_leastTogether 26 = .ok (.iload_n 3, 1) := by decide +kernel
theorem dX0_leastTogether_27 : decode cX0_leastTogether 27 = .ok (.iaload, 1) := by decide +kernel
theorem dX0_leastTogether_28 : decode cX0_leastTogether 28 = .ok (.aload_n 0, 1) := by decide +kernel
theorem dX0_leastTogether_29 : decode cX0_leastTogether 29 = .ok (.getfield 9, 3) := by decide +kernel
theorem dX0_leastTogether_32 : decode cX0_leastTogether 32 = .ok (.iload_n 2, 1) := by decide +kernel
theorem dX0_leastTogether_33 : decode cX0_leastTogether 33 = .ok (.iaload, 1) := by decide +kernel
theorem dX0_leastTogether_34 : decode cX0_leastTogether 34 = .ok (.if_icmp .ne 15, 3) := by decide +kernel
theorem dX0_leastTogether_37 : decode cX0_leastTogether 37 = .ok (.aload_n 0, 1) := by decide +kernel
theorem dX0_leastTogether_38 : decode cX0_leastTogether 38 = .ok (.aload_n 1, 1) := by decide +kernel
theorem dX0_leastTogether_39 : decode cX0_leastTogether 39 = .ok (.iload_n 3, 1) := by decide +kernel
theorem dX0_leastTogether_40 : decode cX0_leastTogether 40 = .ok (.iload_n 2, 1) := by decide +kernel
theorem dX0_leastTogether_41 : decode cX0_leastTogether 41 = .ok (.invokevirtual 55, 3) := by decide +kernel
theorem dX0_leastTogether_44 : decode cX0_leastTogether 44 = .ok (.ifCond .eq 5, 3) := by decide +kernel
theorem dX0_leastTogether_47 : decode cX0_leastTogether 47 = .ok (.iload_n 3, 1) := by decide +kernel
theorem dX0_leastTogether_48 : decode cX0_leastTogether 48 = .ok (.ireturn, 1) := by decide +kernel
theorem dX0_leastTogether_49 : decode cX0_leastTogether 49 = .ok (.iinc 3 1, 3) := by decide +kernel
theorem dX0_leastTogether_52 : decode cX0_leastTogether 52 = .ok (.goto (-45), 3) := by decide +kernel
theorem dX0_leastTogether_55 : decode cX0_leastTogether 55 = .ok (.iload_n 2, 1) := by decide +kernel
theorem dX0_leastTogether_56 : decode cX0_leastTogether 56 = .ok (.ireturn, 1) := by decide +kernel
theorem dX0_operandsAgree_0 : decode cX0_operandsAgree 0 = .ok (.aload_n 1, 1) := by decide +kernel
theorem dX0_operandsAgree_1 : decode cX0_operandsAgree 1 = .ok (.getfield 58, 3) := by decide +kernel
theorem dX0_operandsAgree_4 : decode cX0_operandsAgree 4 = .ok (.iload_n 2, 1) := by decide +kernel
theorem dX0_operandsAgree_5 : decode cX0_operandsAgree 5 = .ok (.iaload, 1) := by decide +kernel
theorem dX0_operandsAgree_6 : decode cX0_operandsAgree 6 = .ok (.istore 4, 2) := by decide +kernel
theorem dX0_operandsAgree_8 : decode cX0_operandsAgree 8 = .ok (.aload_n 1, 1) := by decide +kernel
theorem dX0_operandsAgree_9 : decode cX0_operandsAgree 9 = .ok (.getfield 58, 3) := by decide +kernel
theorem dX0_operandsAgree_12 : decode cX0_operandsAgree 12 = .ok (.iload_n 3, 1) := by decide +kernel
theorem dX0_operandsAgree_13 : decode cX0_operandsAgree 13 = .ok (.iaload, 1) := by decide +kernel
theorem dX0_operandsAgree_14 : decode cX0_operandsAgree 14 = .ok (.istore 5, 2) := by decide +kernel
theorem dX0_operandsAgree_16 : decode cX0_operandsAgree 16 = .ok (.aload_n 1, 1) := by decide +kernel
theorem dX0_operandsAgree_17 : decode cX0_operandsAgree 17 = .ok (.iload_n 2, 1) := by decide +kernel
theorem dX0_operandsAgree_18 : decode cX0_operandsAgree 18 = .ok (.invokevirtual 61, 3) := by decide +kernel
theorem dX0_operandsAgree_21 : decode cX0_operandsAgree 21 = .ok (.istore 6, 2) := by decide +kernel
theorem dX0_operandsAgree_23 : decode cX0_operandsAgree 23 = .ok (.iconst 1, 1) := by decide +kernel
theorem dX0_operandsAgree_24 : decode cX0_operandsAgree 24 = .ok (.istore 7, 2) := by decide +kernel
theorem dX0_operandsAgree_26 : decode cX0_operandsAgree 26 = .ok (.iconst 0, 1) := by decide +kernel
theorem dX0_operandsAgree_27 : decode cX0_operandsAgree 27 = .ok (.istore 8, 2) := by decide +kernel
theorem dX0_operandsAgree_29 : decode cX0_operandsAgree 29 = .ok (.iload 8, 2) := by decide +kernel
theorem dX0_operandsAgree_31 : decode cX0_operandsAgree 31 = .ok (.iload 6, 2) := by decide +kernel
theorem dX0_operandsAgree_33 : decode cX0_operandsAgree 33 = .ok (.if_icmp .ge 31, 3) := by decide +kernel
theorem dX0_operandsAgree_36 : decode cX0_operandsAgree 36 = .ok (.iload 7, 2) := by decide +kernel
theorem dX0_operandsAgree_38 : decode cX0_operandsAgree 38 = .ok (.ifCond .eq 26, 3) := by decide +kernel
theorem dX0_operandsAgree_41 : decode cX0_operandsAgree 41 = .ok (.aload_n 0, 1) := by decide +kernel
theorem dX0_operandsAgree_42 : decode cX0_operandsAgree 42 = .ok (.aload_n 1, 1) := by decide +kernel
theorem dX0_operandsAgree_43 : decode cX0_operandsAgree 43 = .ok (.iload 4, 2) := by decide +kernel
theorem dX0_operandsAgree_45 : decode cX0_operandsAgree 45 = .ok (.iload 8, 2) := by decide +kernel
theorem dX0_operandsAgree_47 : decode cX0_operandsAgree 47 = .ok (.iadd, 1) := by decide +kernel
theorem dX0_operandsAgree_48 : decode cX0_operandsAgree 48 = .ok (.iload 5, 2) := by decide +kernel
theorem dX0_operandsAgree_50 : decode cX0_operandsAgree 50 = .ok (.iload 8, 2) := by decide +kernel
theorem dX0_operandsAgree_52 : decode cX0_operandsAgree 52 = .ok (.iadd, 1) := by decide +kernel
theorem dX0_operandsAgree_53 : decode cX0_operandsAgree 53 = .ok (.invokevirtual 65, 3) := by decide +kernel
theorem dX0_operandsAgree_56 : decode cX0_operandsAgree 56 = .ok (.istore 7, 2) := by decide +kernel
theorem dX0_operandsAgree_58 : decode cX0_operandsAgree 58 = .ok (.iinc 8 1, 3) := by decide +kernel
theorem dX0_operandsAgree_61 : decode cX0_operandsAgree 61 = .ok (.goto (-32), 3) := by decide +kernel
theorem dX0_operandsAgree_64 : decode cX0_operandsAgree 64 = .ok (.iload 7, 2) := by decide +kernel
theorem dX0_operandsAgree_66 : decode cX0_operandsAgree 66 = .ok (.ifCond .ne 43, 3) := by decide +kernel
theorem dX0_operandsAgree_69 : decode cX0_operandsAgree 69 = .ok (.aload_n 1, 1) := by decide +kernel
theorem dX0_operandsAgree_70 : decode cX0_operandsAgree 70 = .ok (.getfield 37, 3) := by decide +kernel
theorem dX0_operandsAgree_73 : decode cX0_operandsAgree 73 = .ok (.iload_n 2, 1) := by decide +kernel
theorem dX0_operandsAgree_74 : decode cX0_operandsAgree 74 = .ok (.iaload, 1) := by decide +kernel
theorem dX0_operandsAgree_75 : decode cX0_operandsAgree 75 = .ok (.invokestatic 68, 3) := by decide +kernel
theorem dX0_operandsAgree_78 : decode cX0_operandsAgree 78 = .ok (.ifCond .eq 35, 3) := by decide +kernel
theorem dX0_operandsAgree_81 : decode cX0_operandsAgree 81 = .ok (.aload_n 0, 1) := by decide +kernel
theorem dX0_operandsAgree_82 : decode cX0_operandsAgree 82 = .ok (.aload_n 1, 1) := by decide +kernel
theorem dX0_operandsAgree_83 : decode cX0_operandsAgree 83 = .ok (.iload 4, 2) := by decide +kernel
theorem dX0_operandsAgree_85 : decode cX0_operandsAgree 85 = .ok (.iload 5, 2) := by decide +kernel
theorem dX0_operandsAgree_87 : decode cX0_operandsAgree 87 = .ok (.iconst 1, 1) := by decide +kernel
theorem dX0_operandsAgree_88 : decode cX0_operandsAgree 88 = .ok (.iadd, 1) := by decide +kernel
theorem dX0_operandsAgree_89 : decode cX0_operandsAgree 89 = .ok (.invokevirtual 65, 3) := by decide +kernel
theorem dX0_operandsAgree_92 : decode cX0_operandsAgree 92 = .ok (.ifCond .eq 21, 3) := by decide +kernel
theorem dX0_operandsAgree_95 : decode cX0_operandsAgree 95 = .ok (.aload_n 0, 1) := by decide +kernel
theorem dX0_operandsAgree_96 : decode cX0_operandsAgree 96 = .ok (.aload_n 1, 1) := by decide +kernel
theorem dX0_operandsAgree_97 : decode cX0_operandsAgree 97 = .ok (.iload 4, 2) := by decide +kernel
theorem dX0_operandsAgree_99 : decode cX0_operandsAgree 99 = .ok (.iconst 1, 1) := by decide +kernel
theorem dX0_operandsAgree_100 : decode cX0_operandsAgree 100 = .ok (.iadd, 1) := by decide +kernel
theorem dX0_operandsAgree_101 : decode cX0_operandsAgree 101 = .ok (.iload 5, 2) := by decide +kernel
theorem dX0_operandsAgree_103 : decode cX0_operandsAgree 103 = .ok (.invokevirtual 65, 3) := by decide +kernel
theorem dX0_operandsAgree_106 : decode cX0_operandsAgree 106 = .ok (.ifCond .eq 7, 3) := by decide +kernel
theorem dX0_operandsAgree_109 : decode cX0_operandsAgree 109 = .ok (.iconst 1, 1) := by decide +kernel
theorem dX0_operandsAgree_110 : decode cX0_operandsAgree 110 = .ok (.goto 4, 3) := by decide +kernel
theorem dX0_operandsAgree_113 : decode cX0_operandsAgree 113 = .ok (.iconst 0, 1) := by decide +kernel
theorem dX0_operandsAgree_114 : decode cX0_operandsAgree 114 = .ok (.ireturn, 1) := by decide +kernel
theorem dX0_together_0 : decode cX0_together 0 = .ok (.aload_n 0, 1) := by decide +kernel
theorem dX0_together_1 : decode cX0_together 1 = .ok (.getfield 9, 3) := by decide +kernel
theorem dX0_together_4 : decode cX0_together 4 = .ok (.aload_n 1, 1) := by decide +kernel
theorem dX0_together_5 : decode cX0_together 5 = .ok (.getfield 72, 3) := by decide +kernel
theorem dX0_together_8 : decode cX0_together 8 = .ok (.getfield 76, 3) := by decide +kernel
theorem dX0_together_11 : decode cX0_together 11 = .ok (.iload_n 2, 1) := by decide +kernel
theorem dX0_together_12 : decode cX0_together 12 = .ok (.iaload, 1) := by decide +kernel
theorem dX0_together_13 : decode cX0_together 13 = .ok (.iaload, 1) := by decide +kernel
theorem dX0_together_14 : decode cX0_together 14 = .ok (.aload_n 0, 1) := by decide +kernel
theorem dX0_together_15 : decode cX0_together 15 = .ok (.getfield 9, 3) := by decide +kernel
theorem dX0_together_18 : decode cX0_together 18 = .ok (.aload_n 1, 1) := by decide +kernel
theorem dX0_together_19 : decode cX0_together 19 = .ok (.getfield 72, 3) := by decide +kernel
theorem dX0_together_22 : decode cX0_together 22 = .ok (.getfield 76, 3) := by decide +kernel
theorem dX0_together_25 : decode cX0_together 25 = .ok (.iload_n 3, 1) := by decide +kernel
theorem dX0_together_26 : decode cX0_together 26 = .ok (.iaload, 1) := by decide +kernel
theorem dX0_together_27 : decode cX0_together 27 = .ok (.iaload, 1) := by decide +kernel
theorem dX0_together_28 : decode cX0_together 28 = .ok (.if_icmp .ne 7, 3) := by decide +kernel
theorem dX0_together_31 : decode cX0_together 31 = .ok (.iconst 1, 1) := by decide +kernel
theorem dX0_together_32 : decode cX0_together 32 = .ok (.goto 4, 3) := by decide +kernel
theorem dX0_together_35 : decode cX0_together 35 = .ok (.iconst 0, 1) := by decide +kernel
theorem dX0_together_36 : decode cX0_together 36 = .ok (.ireturn, 1) := by decide +kernel
theorem dX0_isEven_0 : decode cX0_isEven 0 = .ok (.iload_n 0, 1) := by decide +kernel
theorem dX0_isEven_1 : decode cX0_isEven 1 = .ok (.iconst 3, 1) := by decide +kernel
theorem dX0_isEven_2 : decode cX0_isEven 2 = .ok (.if_icmp .eq 32, 3) := by decide +kernel
theorem dX0_isEven_5 : decode cX0_isEven 5 = .ok (.iload_n 0, 1) := by decide +kernel
theorem dX0_isEven_6 : decode cX0_isEven 6 = .ok (.iconst 5, 1) := by decide +kernel
theorem dX0_isEven_7 : decode cX0_isEven 7 = .ok (.if_icmp .eq 27, 3) := by decide +kernel
theorem dX0_isEven_10 : decode cX0_isEven 10 = .ok (.iload_n 0, 1) := by decide +kernel
theorem dX0_isEven_11 : decode cX0_isEven 11 = .ok (.bipush 6, 2) := by decide +kernel
theorem dX0_isEven_13 : decode cX0_isEven 13 = .ok (.if_icmp .eq 21, 3) := by decide +kernel
theorem dX0_isEven_16 : decode cX0_isEven 16 = .ok (.iload_n 0, 1) := by decide +kernel
theorem dX0_isEven_17 : decode cX0_isEven 17 = .ok (.bipush 7, 2) := by decide +kernel
theorem dX0_isEven_19 : decode cX0_isEven 19 = .ok (.if_icmp .eq 15, 3) := by decide +kernel
theorem dX0_isEven_22 : decode cX0_isEven 22 = .ok (.iload_n 0, 1) := by decide +kernel
theorem dX0_isEven_23 : decode cX0_isEven 23 = .ok (.bipush 8, 2) := by decide +kernel
theorem dX0_isEven_25 : decode cX0_isEven 25 = .ok (.if_icmp .eq 9, 3) := by decide +kernel
theorem dX0_isEven_28 : decode cX0_isEven 28 = .ok (.iload_n 0, 1) := by decide +kernel
theorem dX0_isEven_29 : decode cX0_isEven 29 = .ok (.bipush 9, 2) := by decide +kernel
theorem dX0_isEven_31 : decode cX0_isEven 31 = .ok (.if_icmp .ne 7, 3) := by decide +kernel
theorem dX0_isEven_34 : decode cX0_isEven 34 = .ok (.iconst 1, 1) := by decide +kernel
theorem dX0_isEven_35 : decode cX0_isEven 35 = .ok (.goto 4, 3) := by decide +kernel
theorem dX0_isEven_38 : decode cX0_isEven 38 = .ok (.iconst 0, 1) := by decide +kernel
theorem dX0_isEven_39 : decode cX0_isEven 39 = .ok (.ireturn, 1) := by decide +kernel
theorem dX1_init_0 : decode cX1_init 0 = .ok (.aload_n 0, 1) := by decide +kernel
theorem dX1_init_1 : decode cX1_init 1 = .ok (.invokespecial 1, 3) := by decide +kernel
theorem dX1_init_4 : decode cX1_init 4 = .ok (.aload_n 0, 1) := by decide +kernel
theorem dX1_init_5 : decode cX1_init 5 = .ok (.iload_n 1, 1) := by decide +kernel
theorem dX1_init_6 : decode cX1_init 6 = .ok (.newarray .int, 2) := by decide +kernel
theorem dX1_init_8 : decode cX1_init 8 = .ok (.putfield 7, 3) := by decide +kernel
theorem dX1_init_11 : decode cX1_init 11 = .ok (.return_, 1) := by decide +kernel
theorem dX2_init_0 : decode cX2_init 0 = .ok (.aload_n 0, 1) := by decide +kernel
theorem dX2_init_1 : decode cX2_init 1 = .ok (.invokespecial 3, 3) := by decide +kernel
theorem dX2_init_4 : decode cX2_init 4 = .ok (.aload_n 0, 1) := by decide +kernel
theorem dX2_init_5 : decode cX2_init 5 = .ok (.bipush 16, 2) := by decide +kernel
theorem dX2_init_7 : decode cX2_init 7 = .ok (.newarray .int, 2) := by decide +kernel
theorem dX2_init_9 : decode cX2_init 9 = .ok (.putfield 9, 3) := by decide +kernel
theorem dX2_init_12 : decode cX2_init 12 = .ok (.aload_n 0, 1) := by decide +kernel
theorem dX2_init_13 : decode cX2_init 13 = .ok (.bipush 16, 2) := by decide +kernel
theorem dX2_init_15 : decode cX2_init 15 = .ok (.newarray .int, 2) := by decide +kernel
theorem dX2_init_17 : decode cX2_init 17 = .ok (.putfield 15, 3) := by decide +kernel
theorem dX2_init_20 : decode cX2_init 20 = .ok (.aload_n 0, 1) := by decide +kernel
theorem dX2_init_21 : decode cX2_init 21 = .ok (.bipush 16, 2) := by decide +kernel
theorem dX2_init_23 : decode cX2_init 23 = .ok (.newarray .int, 2) := by decide +kernel
theorem dX2_init_25 : decode cX2_init 25 = .ok (.putfield 18, 3) := by decide +kernel
theorem dX2_init_28 : decode cX2_init 28 = .ok (.aload_n 0, 1) := by decide +kernel
theorem dX2_init_29 : decode cX2_init 29 = .ok (.bipush 16, 2) := by decide +kernel
theorem dX2_init_31 : decode cX2_init 31 = .ok (.newarray .int, 2) := by decide +kernel
theorem dX2_init_33 : decode cX2_init 33 = .ok (.putfield 21, 3) := by decide +kernel
theorem dX2_init_36 : decode cX2_init 36 = .ok (.aload_n 0, 1) := by decide +kernel
theorem dX2_init_37 : decode cX2_init 37 = .ok (.bipush 16, 2) := by decide +kernel
theorem dX2_init_39 : decode cX2_init 39 = .ok (.newarray .int, 2) := by decide +kernel
theorem dX2_init_41 : decode cX2_init 41 = .ok (.putfield 24, 3) := by decide +kernel
theorem dX2_init_44 : decode cX2_init 44 = .ok (.aload_n 0, 1) := by decide +kernel
theorem dX2_init_45 : decode cX2_init 45 = .ok (.bipush 16, 2) := by decide +kernel
theorem dX2_init_47 : decode cX2_init 47 = .ok (.newarray .int, 2) := by decide +kernel
theorem dX2_init_49 : decode cX2_init 49 = .ok (.putfield 27, 3) := by decide +kernel
theorem dX2_init_52 : decode cX2_init 52 = .ok (.return_, 1) := by decide +kernel
theorem dX2_isIn_0 : decode cX2_isIn 0 = .ok (.iload_n 0, 1) := by decide +kernel
theorem dX2_isIn_1 : decode cX2_isIn 1 = .ok (.iload_n 1, 1) := by decide +kernel
theorem dX2_isIn_2 : decode cX2_isIn 2 = .ok (.ishr, 1) := by decide +kernel
theorem dX2_isIn_3 : decode cX2_isIn 3 = .ok (.iconst 1, 1) := by decide +kernel
theorem dX2_isIn_4 : decode cX2_isIn 4 = .ok (.iand, 1) := by decide +kernel
theorem dX2_isIn_5 : decode cX2_isIn 5 = .ok (.ifCond .eq 7, 3) := by decide +kernel
theorem dX2_isIn_8 : decode cX2_isIn 8 = .ok (.iconst 1, 1) := by decide +kernel
theorem dX2_isIn_9 : decode cX2_isIn 9 = .ok (.goto 4, 3) := by decide +kernel
theorem dX2_isIn_12 : decode cX2_isIn 12 = .ok (.iconst 0, 1) := by decide +kernel
theorem dX2_isIn_13 : decode cX2_isIn 13 = .ok (.ireturn, 1) := by decide +kernel
theorem dX2_nthOf_0 : decode cX2_nthOf 0 = .ok (.iconst 0, 1) := by decide +kernel
theorem dX2_nthOf_1 : decode cX2_nthOf 1 = .ok (.istore_n 2, 1) := by decide +kernel
theorem dX2_nthOf_2 : decode cX2_nthOf 2 = .ok (.iconst 0, 1) := by decide +kernel
theorem dX2_nthOf_3 : decode cX2_nthOf 3 = .ok (.istore_n 3, 1) := by decide +kernel
theorem dX2_nthOf_4 : decode cX2_nthOf 4 = .ok (.iload_n 3, 1) := by decide +kernel
theorem dX2_nthOf_5 : decode cX2_nthOf 5 = .ok (.bipush 16, 2) := by decide +kernel
theorem dX2_nthOf_7 : decode cX2_nthOf 7 = .ok (.if_icmp .ge 27, 3) := by decide +kernel
theorem dX2_nthOf_10 : decode cX2_nthOf 10 = .ok (.iload_n 0, 1) := by decide +kernel
theorem dX2_nthOf_11 : decode cX2_nthOf 11 = .ok (.iload_n 3, 1) := by decide +kernel
theorem dX2_nthOf_12 : decode cX2_nthOf 12 = .ok (.invokestatic 30, 3) := by decide +kernel
theorem dX2_nthOf_15 : decode cX2_nthOf 15 = .ok (.ifCond .eq 13, 3) := by decide +kernel
theorem dX2_nthOf_18 : decode cX2_nthOf 18 = .ok (.iload_n 2, 1) := by decide +kernel
theorem dX2_nthOf_19 : decode cX2_nthOf 19 = .ok (.iload_n 1, 1) := by decide +kernel
theorem dX2_nthOf_20 : decode cX2_nthOf 20 = .ok (.if_icmp .ne 5, 3) := by decide +kernel
theorem dX2_nthOf_23 : decode cX2_nthOf 23 = .ok (.iload_n 3, 1) := by decide +kernel
theorem dX2_nthOf_24 : decode cX2_nthOf 24 = .ok (.ireturn, 1) := by decide +kernel
theorem dX2_nthOf_25 : decode cX2_nthOf 25 = .ok (.iinc 2 1, 3) := by decide +kernel
theorem dX2_nthOf_28 : decode cX2_nthOf 28 = .ok (.iinc 3 1, 3) := by decide +kernel
theorem dX2_nthOf_31 : decode cX2_nthOf 31 = .ok (.goto (-27), 3) := by decide +kernel
theorem dX2_nthOf_34 : decode cX2_nthOf 34 = .ok (.iconst (-1), 1) := by decide +kernel
theorem dX2_nthOf_35 : decode cX2_nthOf 35 = .ok (.ireturn, 1) := by decide +kernel
theorem dX2_placeIn_0 : decode cX2_placeIn 0 = .ok (.iload_n 0, 1) := by decide +kernel
theorem dX2_placeIn_1 : decode cX2_placeIn 1 = .ok (.iconst 1, 1) := by decide +kernel
theorem dX2_placeIn_2 : decode cX2_placeIn 2 = .ok (.iload_n 1, 1) := by decide +kernel
theorem dX2_placeIn_3 : decode cX2_placeIn 3 = .ok (.ishl, 1) := by decide +kernel
theorem dX2_placeIn_4 : decode cX2_placeIn 4 = .ok (.iconst 1, 1) := by decide +kernel
theorem dX2_placeIn_5 : decode cX2_placeIn 5 = .ok (.isub, 1) := by decide +kernel
theorem dX2_placeIn_6 : decode cX2_placeIn 6 = .ok (.iand, 1) := by decide +kernel
theorem dX2_placeIn_7 : decode cX2_placeIn 7 = .ok (.invokestatic 34, 3) := by decide +kernel
theorem dX2_placeIn_10 : decode cX2_placeIn 10 = .ok (.ireturn, 1) := by decide +kernel
theorem dX2_union_0 : decode cX2_union 0 = .ok (.iconst 0, 1) := by decide +kernel
theorem dX2_union_1 : decode cX2_union 1 = .ok (.istore_n 2, 1) := by decide +kernel
theorem dX2_union_2 : decode cX2_union 2 = .ok (.iconst 0, 1) := by decide +kernel
theorem dX2_union_3 : decode cX2_union 3 = .ok (.istore_n 3, 1) := by decide +kernel
theorem dX2_union_4 : decode cX2_union 4 = .ok (.iload_n 3, 1) := by decide +kernel
theorem dX2_union_5 : decode cX2_union 5 = .ok (.bipush 16, 2) := by decide +kernel
theorem dX2_union_7 : decode cX2_union 7 = .ok (.if_icmp .ge 23, 3) := by decide +kernel
theorem dX2_union_10 : decode cX2_union 10 = .ok (.iload_n 0, 1) := by decide +kernel
theorem dX2_union_11 : decode cX2_union 11 = .ok (.iload_n 3, 1) := by decide +kernel
theorem dX2_union_12 : decode cX2_union 12 = .ok (.invokestatic 30, 3) := by decide +kernel
theorem dX2_union_15 : decode cX2_union 15 = .ok (.ifCond .eq 9, 3) := by decide +kernel
theorem dX2_union_18 : decode cX2_union 18 = .ok (.iload_n 2, 1) := by decide +kernel
theorem dX2_union_19 : decode cX2_union 19 = .ok (.aload_n 1, 1) := by decide +kernel
theorem dX2_union_20 : decode cX2_union 20 = .ok (.iload_n 3, 1) := by decide +kernel
theorem dX2_union_21 : decode cX2_union 21 = .ok (.iaload, 1) := by decide +kernel
theorem dX2_union_22 : decode cX2_union 22 = .ok (.ior, 1) := by decide +kernel
theorem dX2_union_23 : decode cX2_union 23 = .ok (.istore_n 2, 1) := by decide +kernel
theorem dX2_union_24 : decode cX2_union 24 = .ok (.iinc 3 1, 3) := by decide +kernel
theorem dX2_union_27 : decode cX2_union 27 = .ok (.goto (-23), 3) := by decide +kernel
theorem dX2_union_30 : decode cX2_union 30 = .ok (.iload_n 2, 1) := by decide +kernel
theorem dX2_union_31 : decode cX2_union 31 = .ok (.ireturn, 1) := by decide +kernel
theorem dX2_closure_0 : decode cX2_closure 0 = .ok (.iload_n 0, 1) := by decide +kernel
theorem dX2_closure_1 : decode cX2_closure 1 = .ok (.iload_n 2, 1) := by decide +kernel
theorem dX2_closure_2 : decode cX2_closure 2 = .ok (.iconst (-1), 1) := by decide +kernel
theorem dX2_closure_3 : decode cX2_closure 3 = .ok (.ixor, 1) := by decide +kernel
theorem dX2_closure_4 : decode cX2_closure 4 = .ok (.iand, 1) := by decide +kernel
theorem dX2_closure_5 : decode cX2_closure 5 = .ok (.istore_n 3, 1) := by decide +kernel
theorem dX2_closure_6 : decode cX2_closure 6 = .ok (.iconst 0, 1) := by decide +kernel
theorem dX2_closure_7 : decode cX2_closure 7 = .ok (.istore 4, 2) := by decide +kernel
theorem dX2_closure_9 : decode cX2_closure 9 = .ok (.iconst 0, 1) := by decide +kernel
theorem dX2_closure_10 : decode cX2_closure 10 = .ok (.istore 5, 2) := by decide +kernel
theorem dX2_closure_12 : decode cX2_closure 12 = .ok (.iload 5, 2) := by decide +kernel
theorem dX2_closure_14 : decode cX2_closure 14 = .ok (.bipush 16, 2) := by decide +kernel
theorem dX2_closure_16 : decode cX2_closure 16 = .ok (.if_icmp .ge 30, 3) := by decide +kernel
theorem dX2_closure_19 : decode cX2_closure 19 = .ok (.iload_n 3, 1) := by decide +kernel
theorem dX2_closure_20 : decode cX2_closure 20 = .ok (.iload 4, 2) := by decide +kernel
theorem dX2_closure_22 : decode cX2_closure 22 = .ok (.if_icmp .eq 24, 3) := by decide +kernel
theorem dX2_closure_25 : decode cX2_closure 25 = .ok (.iload_n 3, 1) := by decide +kernel
theorem dX2_closure_26 : decode cX2_closure 26 = .ok (.istore 4, 2) := by decide +kernel
theorem dX2_closure_28 : decode cX2_closure 28 = .ok (.iload_n 3, 1) := by decide +kernel
theorem dX2_closure_29 : decode cX2_closure 29 = .ok (.iload_n 3, 1) := by decide +kernel
theorem dX2_closure_30 : decode cX2_closure 30 = .ok (.aload_n 1, 1) := by decide +kernel
theorem dX2_closure_31 : decode cX2_closure 31 = .ok (.invokestatic 40, 3) := by decide +kernel
theorem dX2_closure_34 : decode cX2_closure 34 = .ok (.iload_n 2, 1) := by decide +kernel
theorem dX2_closure_35 : decode cX2_closure 35 = .ok (.iconst (-1), 1) := by decide +kernel
theorem dX2_closure_36 : decode cX2_closure 36 = .ok (.ixor, 1) := by decide +kernel
theorem dX2_closure_37 : decode cX2_closure 37 = .ok (.iand, 1) := by decide +kernel
theorem dX2_closure_38 : decode cX2_closure 38 = .ok (.ior, 1) := by decide +kernel
theorem dX2_closure_39 : decode cX2_closure 39 = .ok (.istore_n 3, 1) := by decide +kernel
theorem dX2_closure_40 : decode cX2_closure 40 = .ok (.iinc 5 1, 3) := by decide +kernel
theorem dX2_closure_43 : decode cX2_closure 43 = .ok (.goto (-31), 3) := by decide +kernel
theorem dX2_closure_46 : decode cX2_closure 46 = .ok (.iload_n 3, 1) := by decide +kernel
theorem dX2_closure_47 : decode cX2_closure 47 = .ok (.ireturn, 1) := by decide +kernel
theorem dX2_turnAround_0 : decode cX2_turnAround 0 = .ok (.iconst 0, 1) := by decide +kernel
theorem dX2_turnAround_1 : decode cX2_turnAround 1 = .ok (.istore_n 2, 1) := by decide +kernel
theorem dX2_turnAround_2 : decode cX2_turnAround 2 = .ok (.iload_n 2, 1) := by decide +kernel
theorem dX2_turnAround_3 : decode cX2_turnAround 3 = .ok (.bipush 16, 2) := by decide +kernel
theorem dX2_turnAround_5 : decode cX2_turnAround 5 = .ok (.if_icmp .ge 46, 3) := by decide +kernel
theorem dX2_turnAround_8 : decode cX2_turnAround 8 = .ok (.aload_n 1, 1) := by decide +kernel
theorem dX2_turnAround_9 : decode cX2_turnAround 9 = .ok (.iload_n 2, 1) := by decide +kernel
theorem dX2_turnAround_10 : decode cX2_turnAround 10 = .ok (.iconst 0, 1) := by decide +kernel
theorem dX2_turnAround_11 : decode cX2_turnAround 11 = .ok (.iastore, 1) := by decide +kernel
theorem dX2_turnAround_12 : decode cX2_turnAround 12 = .ok (.iconst 0, 1) := by decide +kernel
theorem dX2_turnAround_13 : decode cX2_turnAround 13 = .ok (.istore_n 3, 1) := by decide +kernel
theorem dX2_turnAround_14 : decode cX2_turnAround 14 = .ok (.iload_n 3, 1) := by decide +kernel
theorem dX2_turnAround_15 : decode cX2_turnAround 15 = .ok (.bipush 16, 2) := by decide +kernel
theorem dX2_turnAround_17 : decode cX2_turnAround 17 = .ok (.if_icmp .ge 28, 3) := by decide +kernel
theorem dX2_turnAround_20 : decode cX2_turnAround 20 = .ok (.aload_n 0, 1) := by decide +kernel
theorem dX2_turnAround_21 : decode cX2_turnAround 21 = .ok (.iload_n 3, 1) := by decide +kernel
theorem dX2_turnAround_22 : decode cX2_turnAround 22 = .ok (.iaload, 1) := by decide +kernel
theorem dX2_turnAround_23 : decode cX2_turnAround 23 = .ok (.iload_n 2, 1) := by decide +kernel
theorem dX2_turnAround_24 : decode cX2_turnAround 24 = .ok (.invokestatic 30, 3) := by decide +kernel
theorem dX2_turnAround_27 : decode cX2_turnAround 27 = .ok (.ifCond .eq 12, 3) := by decide +kernel
theorem dX2_turnAround_30 : decode cX2_turnAround 30 = .ok (.aload_n 1, 1) := by decide +kernel
theorem dX2_turnAround_31 : decode cX2_turnAround 31 = .ok (.iload_n 2, 1) := by decide +kernel
theorem dX2_turnAround_32 : decode cX2_turnAround 32 = .ok (.dup2, 1) := by decide +kernel
theorem dX2_turnAround_33 : decode cX2_turnAround 33 = .ok (.iaload, 1) := by decide +kernel
theorem dX2_turnAround_34 : decode cX2_turnAround 34 = .ok (.iconst 1, 1) := by decide +kernel
theorem dX2_turnAround_35 : decode cX2_turnAround 35 = .ok (.iload_n 3, 1) := by decide +kernel
theorem dX2_turnAround_36 : decode cX2_turnAround 36 = .ok (.ishl, 1) := by decide +kernel
theorem dX2_turnAround_37 : decode cX2_turnAround 37 = .ok (.ior, 1) := by decide +kernel
theorem dX2_turnAround_38 : decode cX2_turnAround 38 = .ok (.iastore, 1) := by decide +kernel
theorem dX2_turnAround_39 : decode cX2_turnAround 39 = .ok (.iinc 3 1, 3) := by decide +kernel
theorem dX2_turnAround_42 : decode cX2_turnAround 42 = .ok (.goto (-28), 3) := by decide +kernel
theorem dX2_turnAround_45 : decode cX2_turnAround 45 = .ok (.iinc 2 1, 3) := by decide +kernel
theorem dX2_turnAround_48 : decode cX2_turnAround 48 = .ok (.goto (-46), 3) := by decide +kernel
theorem dX2_turnAround_51 : decode cX2_turnAround 51 = .ok (.return_, 1) := by decide +kernel
theorem dX2_reaches_0 : decode cX2_reaches 0 = .ok (.iload_n 1, 1) := by decide +kernel
theorem dX2_reaches_1 : decode cX2_reaches 1 = .ok (.ifCond .lt 24, 3) := by decide +kernel
theorem dX2_reaches_4 : decode cX2_reaches 4 = .ok (.iload_n 1, 1) := by decide +kernel
theorem dX2_reaches_5 : decode cX2_reaches 5 = .ok (.bipush 16, 2) := by decide +kernel
theorem dX2_reaches_7 : decode cX2_reaches 7 = .ok (.if_icmp .ge 18, 3) := by decide +kernel
theorem dX2_reaches_10 : decode cX2_reaches 10 = .ok (.aload_n 0, 1) := by decide +kernel
theorem dX2_reaches_11 : decode cX2_reaches 11 = .ok (.getfield 44, 3) := by decide +kernel
theorem dX2_reaches_14 : decode cX2_reaches 14 = .ok (.iload_n 1, 1) := by decide +kernel
theorem dX2_reaches_15 : decode cX2_reaches 15 = .ok (.invokestatic 30, 3) := by decide +kernel
theorem dX2_reaches_18 : decode cX2_reaches 18 = .ok (.ifCond .eq 7, 3) := by decide +kernel
theorem dX2_reaches_21 : decode cX2_reaches 21 = .ok (.iconst 1, 1) := by decide +kernel
theorem dX2_reaches_22 : decode cX2_reaches 22 = .ok (.goto 4, 3) := by decide +kernel
theorem dX2_reaches_25 : decode cX2_reaches 25 = .ok (.iconst 0, 1) := by decide +kernel
theorem dX2_reaches_26 : decode cX2_reaches 26 = .ok (.ireturn, 1) := by decide +kernel
theorem dX2_draw_0 : decode cX2_draw 0 = .ok (.iconst 0, 1) := by decide +kernel
theorem dX2_draw_1 : decode cX2_draw 1 = .ok (.istore_n 2, 1) := by decide +kernel
theorem dX2_draw_2 : decode cX2_draw 2 = .ok (.iload_n 2, 1) := by decide +kernel
theorem dX2_draw_3 : decode cX2_draw 3 = .ok (.bipush 16, 2) := by decide +kernel
theorem dX2_draw_5 : decode cX2_draw 5 = .ok (.if_icmp .ge 32, 3) := by decide +kernel
theorem dX2_draw_8 : decode cX2_draw 8 = .ok (.aload_n 0, 1) := by decide +kernel
theorem dX2_draw_9 : decode cX2_draw 9 = .ok (.getfield 9, 3) := by decide +kernel
theorem dX2_draw_12 : decode cX2_draw 12 = .ok (.iload_n 2, 1) := by decide +kernel
theorem dX2_draw_13 : decode cX2_draw 13 = .ok (.aload_n 1, 1) := by decide +kernel
theorem dX2_draw_14 : decode cX2_draw 14 = .ok (.iload_n 2, 1) := by decide +kernel
theorem dX2_draw_15 : decode cX2_draw 15 = .ok (.invokevirtual 48, 3) := by decide +kernel
theorem dX2_draw_18 : decode cX2_draw 18 = .ok (.ifCond .eq 11, 3) := by decide +kernel
theorem dX2_draw_21 : decode cX2_draw 21 = .ok (.aload_n 1, 1) := by decide +kernel
theorem dX2_draw_22 : decode cX2_draw 22 = .ok (.iload_n 2, 1) := by decide +kernel
theorem dX2_draw_23 : decode cX2_draw 23 = .ok (.invokevirtual 54, 3) := by decide +kernel
theorem dX2_draw_26 : decode cX2_draw 26 = .ok (.goto 4, 3) := by decide +kernel
theorem dX2_draw_29 : decode cX2_draw 29 = .ok (.iconst 0, 1) := by decide +kernel
theorem dX2_draw_30 : decode cX2_draw 30 = .ok (.iastore, 1) := by decide +kernel
theorem dX2_draw_31 : decode cX2_draw 31 = .ok (.iinc 2 1, 3) := by decide +kernel
theorem dX2_draw_34 : decode cX2_draw 34 = .ok (.goto (-32), 3) := by decide +kernel
theorem dX2_draw_37 : decode cX2_draw 37 = .ok (.aload_n 0, 1) := by decide +kernel
theorem dX2_draw_38 : decode cX2_draw 38 = .ok (.aload_n 1, 1) := by decide +kernel
theorem dX2_draw_39 : decode cX2_draw 39 = .ok (.iconst 0, 1) := by decide +kernel
theorem dX2_draw_40 : decode cX2_draw 40 = .ok (.invokevirtual 48, 3) := by decide +kernel
theorem dX2_draw_43 : decode cX2_draw 43 = .ok (.ifCond .eq 15, 3) := by decide +kernel
theorem dX2_draw_46 : decode cX2_draw 46 = .ok (.iconst 1, 1) := by decide +kernel
theorem dX2_draw_47 : decode cX2_draw 47 = .ok (.aload_n 0, 1) := by decide +kernel
theorem dX2_draw_48 : decode cX2_draw 48 = .ok (.getfield 9, 3) := by decide +kernel
theorem dX2_draw_51 : decode cX2_draw 51 = .ok (.iconst 0, 1) := by decide +kernel
theorem dX2_draw_52 : decode cX2_draw 52 = .ok (.invokestatic 57, 3) := by decide +kernel
theorem dX2_draw_55 : decode cX2_draw 55 = .ok (.goto 4, 3) := by decide +kernel
theorem dX2_draw_58 : decode cX2_draw 58 = .ok (.iconst 0, 1) := by decide +kernel
theorem dX2_draw_59 : decode cX2_draw 59 = .ok (.putfield 44, 3) := by decide +kernel
theorem dX2_draw_62 : decode cX2_draw 62 = .ok (.iconst 0, 1) := by decide +kernel
theorem dX2_draw_63 : decode cX2_draw 63 = .ok (.istore_n 2, 1) := by decide +kernel
theorem dX2_draw_64 : decode cX2_draw 64 = .ok (.iload_n 2, 1) := by decide +kernel
theorem dX2_draw_65 : decode cX2_draw 65 = .ok (.bipush 16, 2) := by decide +kernel
theorem dX2_draw_67 : decode cX2_draw 67 = .ok (.if_icmp .ge 27, 3) := by decide +kernel
theorem dX2_draw_70 : decode cX2_draw 70 = .ok (.aload_n 0, 1) := by decide +kernel
theorem dX2_draw_71 : decode cX2_draw 71 = .ok (.getfield 44, 3) := by decide +kernel
theorem dX2_draw_74 : decode cX2_draw 74 = .ok (.iload_n 2, 1) := by decide +kernel
theorem dX2_draw_75 : decode cX2_draw 75 = .ok (.invokestatic 30, 3) := by decide +kernel
theorem dX2_draw_78 : decode cX2_draw 78 = .ok (.ifCond .ne 10, 3) := by decide +kernel
theorem dX2_draw_81 : decode cX2_draw 81 = .ok (.aload_n 0, 1) := by decide +kernel
theorem dX2_draw_82 : decode cX2_draw 82 = .ok (.getfield 9, 3) := by decide +kernel
theorem dX2_draw_85 : decode cX2_draw 85 = .ok (.iload_n 2, 1) := by decide +kernel
theorem dX2_draw_86 : decode cX2_draw 86 = .ok (.iconst 0, 1) := by decide +kernel
theorem dX2_draw_87 : decode cX2_draw 87 = .ok (.iastore, 1) := by decide +kernel
theorem dX2_draw_88 : decode cX2_draw 88 = .ok (.iinc 2 1, 3) := by decide +kernel
theorem dX2_draw_91 : decode cX2_draw 91 = .ok (.goto (-27), 3) := by decide +kernel
theorem dX2_draw_94 : decode cX2_draw 94 = .ok (.aload_n 0, 1) := by decide +kernel
theorem dX2_draw_95 : decode cX2_draw 95 = .ok (.getfield 9, 3) := by decide +kernel
theorem dX2_draw_98 : decode cX2_draw 98 = .ok (.aload_n 0, 1) := by decide +kernel
theorem dX2_draw_99 : decode cX2_draw 99 = .ok (.getfield 15, 3) := by decide +kernel
theorem dX2_draw_102 : decode cX2_draw 102 = .ok (.invokestatic 61, 3) := by decide +kernel
theorem dX2_draw_105 : decode cX2_draw 105 = .ok (.iconst 0, 1) := by decide +kernel
theorem dX2_draw_106 : decode cX2_draw 106 = .ok (.istore_n 2, 1) := by decide +kernel
theorem dX2_draw_107 : decode cX2_draw 107 = .ok (.iload_n 2, 1) := by decide +kernel
theorem dX2_draw_108 : decode cX2_draw 108 = .ok (.bipush 16, 2) := by decide +kernel
theorem dX2_draw_110 : decode cX2_draw 110 = .ok (.if_icmp .ge 38, 3) := by decide +kernel
theorem dX2_draw_113 : decode cX2_draw 113 = .ok (.aload_n 0, 1) := by decide +kernel
theorem dX2_draw_114 : decode cX2_draw 114 = .ok (.getfield 18, 3) := by decide +kernel
theorem dX2_draw_117 : decode cX2_draw 117 = .ok (.iload_n 2, 1) := by decide +kernel
theorem dX2_draw_118 : decode cX2_draw 118 = .ok (.aload_n 0, 1) := by decide +kernel
theorem dX2_draw_119 : decode cX2_draw 119 = .ok (.getfield 44, 3) := by decide +kernel
theorem dX2_draw_122 : decode cX2_draw 122 = .ok (.aload_n 0, 1) := by decide +kernel
theorem dX2_draw_123 : decode cX2_draw 123 = .ok (.getfield 44, 3) := by decide +kernel
theorem dX2_draw_126 : decode cX2_draw 126 = .ok (.iconst 1, 1) := by decide +kernel
theorem dX2_draw_127 : decode cX2_draw 127 = .ok (.iand, 1) := by decide +kernel
theorem dX2_draw_128 : decode cX2_draw 128 = .ok (.aload_n 0, 1) := by decide +kernel
theorem dX2_draw_129 : decode cX2_draw 129 = .ok (.getfield 9, 3) := by decide +kernel
theorem dX2_draw_132 : decode cX2_draw 132 = .ok (.iconst 1, 1) := by decide +kernel
theorem dX2_draw_133 : decode cX2_draw 133 = .ok (.iload_n 2, 1) := by decide +kernel
theorem dX2_draw_134 : decode cX2_draw 134 = .ok (.ishl, 1) := by decide +kernel
theorem dX2_draw_135 : decode cX2_draw 135 = .ok (.invokestatic 57, 3) := by decide +kernel
theorem dX2_draw_138 : decode cX2_draw 138 = .ok (.iconst (-1), 1) := by decide +kernel
theorem dX2_draw_139 : decode cX2_draw 139 = .ok (.ixor, 1) := by decide +kernel
theorem dX2_draw_140 : decode cX2_draw 140 = .ok (.iand, 1) := by decide +kernel
theorem dX2_draw_141 : decode cX2_draw 141 = .ok (.iastore, 1) := by decide +kernel
theorem dX2_draw_142 : decode cX2_draw 142 = .ok (.iinc 2 1, 3) := by decide +kernel
theorem dX2_draw_145 : decode cX2_draw 145 = .ok (.goto (-38), 3) := by decide +kernel
theorem dX2_draw_148 : decode cX2_draw 148 = .ok (.aload_n 0, 1) := by decide +kernel
theorem dX2_draw_149 : decode cX2_draw 149 = .ok (.getfield 18, 3) := by decide +kernel
theorem dX2_draw_152 : decode cX2_draw 152 = .ok (.aload_n 0, 1) := by decide +kernel
theorem dX2_draw_153 : decode cX2_draw 153 = .ok (.getfield 21, 3) := by decide +kernel
theorem dX2_draw_156 : decode cX2_draw 156 = .ok (.invokestatic 61, 3) := by decide +kernel
theorem dX2_draw_159 : decode cX2_draw 159 = .ok (.iconst 0, 1) := by decide +kernel
theorem dX2_draw_160 : decode cX2_draw 160 = .ok (.istore_n 2, 1) := by decide +kernel
theorem dX2_draw_161 : decode cX2_draw 161 = .ok (.iload_n 2, 1) := by decide +kernel
theorem dX2_draw_162 : decode cX2_draw 162 = .ok (.bipush 16, 2) := by decide +kernel
theorem dX2_draw_164 : decode cX2_draw 164 = .ok (.if_icmp .ge 31, 3) := by decide +kernel
theorem dX2_draw_167 : decode cX2_draw 167 = .ok (.aload_n 0, 1) := by decide +kernel
theorem dX2_draw_168 : decode cX2_draw 168 = .ok (.getfield 24, 3) := by decide +kernel
theorem dX2_draw_171 : decode cX2_draw 171 = .ok (.iload_n 2, 1) := by decide +kernel
theorem dX2_draw_172 : decode cX2_draw 172 = .ok (.aload_n 0, 1) := by decide +kernel
theorem dX2_draw_173 : decode cX2_draw 173 = .ok (.iload_n 2, 1) := by decide +kernel
theorem dX2_draw_174 : decode cX2_draw 174 = .ok (.invokevirtual 65, 3) := by decide +kernel
theorem dX2_draw_177 : decode cX2_draw 177 = .ok (.iastore, 1) := by decide +kernel
theorem dX2_draw_178 : decode cX2_draw 178 = .ok (.aload_n 0, 1) := by decide +kernel
theorem dX2_draw_179 : decode cX2_draw 179 = .ok (.getfield 27, 3) := by decide +kernel
theorem dX2_draw_182 : decode cX2_draw 182 = .ok (.iload_n 2, 1) := by decide +kernel
theorem dX2_draw_183 : decode cX2_draw 183 = .ok (.aload_n 0, 1) := by decide +kernel
theorem dX2_draw_184 : decode cX2_draw 184 = .ok (.iload_n 2, 1) := by decide +kernel
theorem dX2_draw_185 : decode cX2_draw 185 = .ok (.invokevirtual 68, 3) := by decide +kernel
theorem dX2_draw_188 : decode cX2_draw 188 = .ok (.iastore, 1) := by decide +kernel
theorem dX2_draw_189 : decode cX2_draw 189 = .ok (.iinc 2 1, 3) := by decide +kernel
theorem dX2_draw_192 : decode cX2_draw 192 = .ok (.goto (-31), 3) := by decide +kernel
theorem dX2_draw_195 : decode cX2_draw 195 = .ok (.return_, 1) := by decide +kernel
theorem dX2_parentOf_0 : decode cX2_parentOf 0 = .ok (.aload_n 0, 1) := by decide +kernel
theorem dX2_parentOf_1 : decode cX2_parentOf 1 = .ok (.getfield 21, 3) := by decide +kernel
theorem dX2_parentOf_4 : decode cX2_parentOf 4 = .ok (.iload_n 1, 1) := by decide +kernel
theorem dX2_parentOf_5 : decode cX2_parentOf 5 = .ok (.iaload, 1) := by decide +kernel
theorem dX2_parentOf_6 : decode cX2_parentOf 6 = .ok (.iconst 1, 1) := by decide +kernel
theorem dX2_parentOf_7 : decode cX2_parentOf 7 = .ok (.iload_n 1, 1) := by decide +kernel
theorem dX2_parentOf_8 : decode cX2_parentOf 8 = .ok (.ishl, 1) := by decide +kernel
theorem dX2_parentOf_9 : decode cX2_parentOf 9 = .ok (.iconst (-1), 1) := by decide +kernel
theorem dX2_parentOf_10 : decode cX2_parentOf 10 = .ok (.ixor, 1) := by decide +kernel
theorem dX2_parentOf_11 : decode cX2_parentOf 11 = .ok (.iand, 1) := by decide +kernel
theorem dX2_parentOf_12 : decode cX2_parentOf 12 = .ok (.istore_n 2, 1) := by decide +kernel
theorem dX2_parentOf_13 : decode cX2_parentOf 13 = .ok (.iconst 0, 1) := by decide +kernel
theorem dX2_parentOf_14 : decode cX2_parentOf 14 = .ok (.istore_n 3, 1) := by decide +kernel
theorem dX2_parentOf_15 : decode cX2_parentOf 15 = .ok (.iload_n 3, 1) := by decide +kernel
theorem dX2_parentOf_16 : decode cX2_parentOf 16 = .ok (.bipush 16, 2) := by decide +kernel
theorem dX2_parentOf_18 : decode cX2_parentOf 18 = .ok (.if_icmp .ge 29, 3) := by decide +kernel
theorem dX2_parentOf_21 : decode cX2_parentOf 21 = .ok (.iload_n 2, 1) := by decide +kernel
theorem dX2_parentOf_22 : decode cX2_parentOf 22 = .ok (.iload_n 3, 1) := by decide +kernel
theorem dX2_parentOf_23 : decode cX2_parentOf 23 = .ok (.invokestatic 30, 3) := by decide +kernel
theorem dX2_parentOf_26 : decode cX2_parentOf 26 = .ok (.ifCond .eq 15, 3) := by decide +kernel
theorem dX2_parentOf_29 : decode cX2_parentOf 29 = .ok (.aload_n 0, 1) := by decide +kernel
theorem dX2_parentOf_30 : decode cX2_parentOf 30 = .ok (.getfield 21, 3) := by decide +kernel
theorem dX2_parentOf_33 : decode cX2_parentOf 33 = .ok (.iload_n 3, 1) := by decide +kernel
theorem dX2_parentOf_34 : decode cX2_parentOf 34 = .ok (.iaload, 1) := by decide +kernel
theorem dX2_parentOf_35 : decode cX2_parentOf 35 = .ok (.iload_n 2, 1) := by decide +kernel
theorem dX2_parentOf_36 : decode cX2_parentOf 36 = .ok (.if_icmp .ne 5, 3) := by decide +kernel
theorem dX2_parentOf_39 : decode cX2_parentOf 39 = .ok (.iload_n 3, 1) := by decide +kernel
theorem dX2_parentOf_40 : decode cX2_parentOf 40 = .ok (.ireturn, 1) := by decide +kernel
theorem dX2_parentOf_41 : decode cX2_parentOf 41 = .ok (.iinc 3 1, 3) := by decide +kernel
theorem dX2_parentOf_44 : decode cX2_parentOf 44 = .ok (.goto (-29), 3) := by decide +kernel
theorem dX2_parentOf_47 : decode cX2_parentOf 47 = .ok (.iconst (-1), 1) := by decide +kernel
theorem dX2_parentOf_48 : decode cX2_parentOf 48 = .ok (.ireturn, 1) := by decide +kernel
theorem dX2_frontierOf_0 : decode cX2_frontierOf 0 = .ok (.iconst 0, 1) := by decide +kernel
theorem dX2_frontierOf_1 : decode cX2_frontierOf 1 = .ok (.istore_n 2, 1) := by decide +kernel
theorem dX2_frontierOf_2 : decode cX2_frontierOf 2 = .ok (.iconst 0, 1) := by decide +kernel
theorem dX2_frontierOf_3 : decode cX2_frontierOf 3 = .ok (.istore_n 3, 1) := by decide +kernel
theorem dX2_frontierOf_4 : decode cX2_frontierOf 4 = .ok (.iload_n 3, 1) := by decide +kernel
theorem dX2_frontierOf_5 : decode cX2_frontierOf 5 = .ok (.bipush 16, 2) := by decide +kernel
theorem dX2_frontierOf_7 : decode cX2_frontierOf 7 = .ok (.if_icmp .ge 61, 3) := by decide +kernel
theorem dX2_frontierOf_10 : decode cX2_frontierOf 10 = .ok (.iload_n 1, 1) := by decide +kernel
theorem dX2_frontierOf_11 : decode cX2_frontierOf 11 = .ok (.iload_n 3, 1) := by decide +kernel
theorem dX2_frontierOf_12 : decode cX2_frontierOf 12 = .ok (.if_icmp .eq 20, 3) := by decide +kernel
theorem dX2_frontierOf_15 : decode cX2_frontierOf 15 = .ok (.aload_n 0, 1) := by decide +kernel
theorem dX2_frontierOf_16 : decode cX2_frontierOf 16 = .ok (.getfield 18, 3) := by decide +kernel
theorem dX2_frontierOf_19 : decode cX2_frontierOf 19 = .ok (.iload_n 1, 1) := by decide +kernel
theorem dX2_frontierOf_20 : decode cX2_frontierOf 20 = .ok (.iaload, 1) := by decide +kernel
theorem dX2_frontierOf_21 : decode cX2_frontierOf 21 = .ok (.iload_n 3, 1) := by decide +kernel
theorem dX2_frontierOf_22 : decode cX2_frontierOf 22 = .ok (.invokestatic 30, 3) := by decide +kernel
theorem dX2_frontierOf_25 : decode cX2_frontierOf 25 = .ok (.ifCond .eq 7, 3) := by decide +kernel
theorem dX2_frontierOf_28 : decode cX2_frontierOf 28 = .ok (.iconst 1, 1) := by decide +kernel
theorem dX2_frontierOf_29 : decode cX2_frontierOf 29 = .ok (.goto 4, 3) := by decide +kernel
theorem dX2_frontierOf_32 : decode cX2_frontierOf 32 = .ok (.iconst 0, 1) := by decide +kernel
theorem dX2_frontierOf_33 : decode cX2_frontierOf 33 = .ok (.istore 4, 2) := by decide +kernel
theorem dX2_frontierOf_35 : decode cX2_frontierOf 35 = .ok (.aload_n 0, 1) := by decide +kernel
theorem dX2_frontierOf_36 : decode cX2_frontierOf 36 = .ok (.getfield 18, 3) := by decide +kernel
theorem dX2_frontierOf_39 : decode cX2_frontierOf 39 = .ok (.iload_n 1, 1) := by decide +kernel
theorem dX2_frontierOf_40 : decode cX2_frontierOf 40 = .ok (.iaload, 1) := by decide +kernel
theorem dX2_frontierOf_41 : decode cX2_frontierOf 41 = .ok (.aload_n 0, 1) := by decide +kernel
theorem dX2_frontierOf_42 : decode cX2_frontierOf 42 = .ok (.getfield 15, 3) := by decide +kernel
theorem dX2_frontierOf_45 : decode cX2_frontierOf 45 = .ok (.iload_n 3, 1) := by decide +kernel
theorem dX2_frontierOf_46 : decode cX2_frontierOf 46 = .ok (.iaload, 1) := by decide +kernel
theorem dX2_frontierOf_47 : decode cX2_frontierOf 47 = .ok (.iand, 1) := by decide +kernel
theorem dX2_frontierOf_48 : decode cX2_frontierOf 48 = .ok (.ifCond .eq 14, 3) := by decide +kernel
theorem dX2_frontierOf_51 : decode cX2_frontierOf 51 = .ok (.iload 4, 2) := by decide +kernel
theorem dX2_frontierOf_53 : decode cX2_frontierOf 53 = .ok (.ifCond .ne 9, 3) := by decide +kernel
theorem dX2_frontierOf_56 : decode cX2_frontierOf 56 = .ok (.iload_n 2, 1) := by decide +kernel
theorem dX2_frontierOf_57 : decode cX2_frontierOf 57 = .ok (.iconst 1, 1) := by decide +kernel
theorem dX2_frontierOf_58 : decode cX2_frontierOf 58 = .ok (.iload_n 3, 1) := by decide +kernel
theorem dX2_frontierOf_59 : decode cX2_frontierOf 59 = .ok (.ishl, 1) := by decide +kernel
theorem dX2_frontierOf_60 : decode cX2_frontierOf 60 = .ok (.ior, 1) := by decide +kernel
theorem dX2_frontierOf_61 : decode cX2_frontierOf 61 = .ok (.istore_n 2, 1) := by decide +kernel
theorem dX2_frontierOf_62 : decode cX2_frontierOf 62 = .ok (.iinc 3 1, 3) := by decide +kernel
theorem dX2_frontierOf_65 : decode cX2_frontierOf 65 = .ok (.goto (-61), 3) := by decide +kernel
theorem dX2_frontierOf_68 : decode cX2_frontierOf 68 = .ok (.iload_n 2, 1) := by decide +kernel
theorem dX2_frontierOf_69 : decode cX2_frontierOf 69 = .ok (.ireturn, 1) := by decide +kernel
theorem dX3_init_0 : decode cX3_init 0 = .ok (.aload_n 0, 1) := by decide +kernel
theorem dX3_init_1 : decode cX3_init 1 = .ok (.invokespecial 3, 3) := by decide +kernel
theorem dX3_init_4 : decode cX3_init 4 = .ok (.aload_n 0, 1) := by decide +kernel
theorem dX3_init_5 : decode cX3_init 5 = .ok (.sipush 261, 3) := by decide +kernel
theorem dX3_init_8 : decode cX3_init 8 = .ok (.newarray .boolean, 2) := by decide +kernel
theorem dX3_init_10 : decode cX3_init 10 = .ok (.putfield 9, 3) := by decide +kernel
theorem dX3_init_13 : decode cX3_init 13 = .ok (.aload_n 0, 1) := by decide +kernel
theorem dX3_init_14 : decode cX3_init 14 = .ok (.new 15, 3) := by decide +kernel
theorem dX3_init_17 : decode cX3_init 17 = .ok (.dup, 1) := by decide +kernel
theorem dX3_init_18 : decode cX3_init 18 = .ok (.invokespecial 17, 3) := by decide +kernel
theorem dX3_init_21 : decode cX3_init 21 = .ok (.putfield 18, 3) := by decide +kernel
theorem dX3_init_24 : decode cX3_init 24 = .ok (.return_, 1) := by decide +kernel
theorem dX3_lead_0 : decode cX3_lead 0 = .ok (.aload_n 0, 1) := by decide +kernel
theorem dX3_lead_1 : decode cX3_lead 1 = .ok (.iconst 0, 1) := by decide +kernel
theorem dX3_lead_2 : decode cX3_lead 2 = .ok (.putfield 22, 3) := by decide +kernel
theorem dX3_lead_5 : decode cX3_lead 5 = .ok (.iconst 0, 1) := by decide +kernel
theorem dX3_lead_6 : decode cX3_lead 6 = .ok (.istore 5, 2) := by decide +kernel
theorem dX3_lead_8 : decode cX3_lead 8 = .ok (.iload 5, 2) := by decide +kernel
theorem dX3_lead_10 : decode cX3_lead 10 = .ok (.aload_n 3, 1) := by decide +kernel
theorem dX3_lead_11 : decode cX3_lead 11 = .ok (.getfield 26, 3) := by decide +kernel
theorem dX3_lead_14 : decode cX3_lead 14 = .ok (.if_icmp .ge 49, 3) := by decide +kernel
theorem dX3_lead_17 : decode cX3_lead 17 = .ok (.aload_n 0, 1) := by decide +kernel
theorem dX3_lead_18 : decode cX3_lead 18 = .ok (.getfield 9, 3) := by decide +kernel
theorem dX3_lead_21 : decode cX3_lead 21 = .ok (.iload 5, 2) := by decide +kernel
theorem dX3_lead_23 : decode cX3_lead 23 = .ok (.aload_n 2, 1) := by decide +kernel
theorem dX3_lead_24 : decode cX3_lead 24 = .ok (.aload_n 3, 1) := by decide +kernel
theorem dX3_lead_25 : decode cX3_lead 25 = .ok (.aload 4, 2) := by decide +kernel
theorem dX3_lead_27 : decode cX3_lead 27 = .ok (.iload 5, 2) := by decide +kernel
theorem dX3_lead_29 : decode cX3_lead 29 = .ok (.invokestatic 31, 3) := by decide +kernel
theorem dX3_lead_32 : decode cX3_lead 32 = .ok (.bastore, 1) := by decide +kernel
theorem dX3_lead_33 : decode cX3_lead 33 = .ok (.aload_n 0, 1) := by decide +kernel
theorem dX3_lead_34 : decode cX3_lead 34 = .ok (.dup, 1) := by decide +kernel
theorem dX3_lead_35 : decode cX3_lead 35 = .ok (.getfield 22, 3) := by decide +kernel
theorem dX3_lead_38 : decode cX3_lead 38 = .ok (.aload_n 0, 1) := by decide +kernel
theorem dX3_lead_39 : decode cX3_lead 39 = .ok (.getfield 9, 3) := by decide +kernel
theorem dX3_lead_42 : decode cX3_lead 42 = .ok (.iload 5, 2) := by decide +kernel
theorem dX3_lead_44 : decode cX3_lead 44 = .ok (.baload, 1) := by decide +kernel
theorem dX3_lead_45 : decode cX3_lead 45 = .ok (.ifCond .eq 7, 3) := by decide +kernel
theorem dX3_lead_48 : decode cX3_lead 48 = .ok (.iconst 1, 1) := by decide +kernel
theorem dX3_lead_49 : decode cX3_lead 49 = .ok (.goto 4, 3) := by decide +kernel
theorem dX3_lead_52 : decode cX3_lead 52 = .ok (.iconst 0, 1) := by decide +kernel
theorem dX3_lead_53 : decode cX3_lead 53 = .ok (.iadd, 1) := by decide +kernel
theorem dX3_lead_54 : decode cX3_lead 54 = .ok (.putfield 22, 3) := by decide +kernel
theorem dX3_lead_57 : decode cX3_lead 57 = .ok (.iinc 5 1, 3) := by decide +kernel
theorem dX3_lead_60 : decode cX3_lead 60 = .ok (.goto (-52), 3) := by decide +kernel
theorem dX3_lead_63 : decode cX3_lead 63 = .ok (.iconst 0, 1) := by decide +kernel
theorem dX3_lead_64 : decode cX3_lead 64 = .ok (.istore 5, 2) := by decide +kernel
theorem dX3_lead_66 : decode cX3_lead 66 = .ok (.iload 5, 2) := by decide +kernel
theorem dX3_lead_68 : decode cX3_lead 68 = .ok (.aload_n 3, 1) := by decide +kernel
theorem dX3_lead_69 : decode cX3_lead 69 = .ok (.getfield 26, 3) := by decide +kernel
theorem dX3_lead_72 : decode cX3_lead 72 = .ok (.if_icmp .ge 29, 3) := by decide +kernel
theorem dX3_lead_75 : decode cX3_lead 75 = .ok (.aload_n 0, 1) := by decide +kernel
theorem dX3_lead_76 : decode cX3_lead 76 = .ok (.getfield 9, 3) := by decide +kernel
theorem dX3_lead_79 : decode cX3_lead 79 = .ok (.iload 5, 2) := by decide +kernel
theorem dX3_lead_81 : decode cX3_lead 81 = .ok (.baload, 1) := by decide +kernel
theorem dX3_lead_82 : decode cX3_lead 82 = .ok (.ifCond .ne 13, 3) := by decide +kernel
theorem dX3_lead_85 : decode cX3_lead 85 = .ok (.aload_n 0, 1) := by decide +kernel
theorem dX3_lead_86 : decode cX3_lead 86 = .ok (.aload_n 2, 1) := by decide +kernel
theorem dX3_lead_87 : decode cX3_lead 87 = .ok (.aload_n 3, 1) := by decide +kernel
theorem dX3_lead_88 : decode cX3_lead 88 = .ok (.aload 4, 2) := by decide +kernel
theorem dX3_lead_90 : decode cX3_lead 90 = .ok (.iload 5, 2) := by decide +kernel
theorem dX3_lead_92 : decode cX3_lead 92 = .ok (.invokevirtual 35, 3) := by decide +kernel
theorem dX3_lead_95 : decode cX3_lead 95 = .ok (.iinc 5 1, 3) := by decide +kernel
theorem dX3_lead_98 : decode cX3_lead 98 = .ok (.goto (-32), 3) := by decide +kernel
theorem dX3_lead_101 : decode cX3_lead 101 = .ok (.iconst 0, 1) := by decide +kernel
theorem dX3_lead_102 : decode cX3_lead 102 = .ok (.istore 5, 2) := by decide +kernel
theorem dX3_lead_104 : decode cX3_lead 104 = .ok (.iload 5, 2) := by decide +kernel
theorem dX3_lead_106 : decode cX3_lead 106 = .ok (.bipush 16, 2) := by decide +kernel
theorem dX3_lead_108 : decode cX3_lead 108 = .ok (.if_icmp .ge 73, 3) := by decide +kernel
theorem dX3_lead_111 : decode cX3_lead 111 = .ok (.aload_n 2, 1) := by decide +kernel
theorem dX3_lead_112 : decode cX3_lead 112 = .ok (.iload 5, 2) := by decide +kernel
theorem dX3_lead_114 : decode cX3_lead 114 = .ok (.invokevirtual 39, 3) := by decide +kernel
theorem dX3_lead_117 : decode cX3_lead 117 = .ok (.ifCond .eq 58, 3) := by decide +kernel
theorem dX3_lead_120 : decode cX3_lead 120 = .ok (.aload_n 0, 1) := by decide +kernel
theorem dX3_lead_121 : decode cX3_lead 121 = .ok (.aload_n 1, 1) := by decide +kernel
theorem dX3_lead_122 : decode cX3_lead 122 = .ok (.aload_n 2, 1) := by decide +kernel
theorem dX3_lead_123 : decode cX3_lead 123 = .ok (.aload_n 3, 1) := by decide +kernel
theorem dX3_lead_124 : decode cX3_lead 124 = .ok (.aload 4, 2) := by decide +kernel
theorem dX3_lead_126 : decode cX3_lead 126 = .ok (.iload 5, 2) := by decide +kernel
theorem dX3_lead_128 : decode cX3_lead 128 = .ok (.invokevirtual 45, 3) := by decide +kernel
theorem dX3_lead_131 : decode cX3_lead 131 = .ok (.aload_n 3, 1) := by decide +kernel
theorem dX3_lead_132 : decode cX3_lead 132 = .ok (.getfield 49, 3) := by decide +kernel
theorem dX3_lead_135 : decode cX3_lead 135 = .ok (.getfield 50, 3) := by decide +kernel
theorem dX3_lead_138 : decode cX3_lead 138 = .ok (.iload 5, 2) := by decide +kernel
theorem dX3_lead_140 : decode cX3_lead 140 = .ok (.iaload, 1) := by decide +kernel
theorem dX3_lead_141 : decode cX3_lead 141 = .ok (.istore 6, 2) := by decide +kernel
theorem dX3_lead_143 : decode cX3_lead 143 = .ok (.aload_n 0, 1) := by decide +kernel
theorem dX3_lead_144 : decode cX3_lead 144 = .ok (.getfield 18, 3) := by decide +kernel
theorem dX3_lead_147 : decode cX3_lead 147 = .ok (.getfield 50, 3) := by decide +kernel
theorem dX3_lead_150 : decode cX3_lead 150 = .ok (.iload 5, 2) := by decide +kernel
theorem dX3_lead_152 : decode cX3_lead 152 = .ok (.iload 6, 2) := by decide +kernel
theorem dX3_lead_154 : decode cX3_lead 154 = .ok (.iconst (-1), 1) := by decide +kernel
theorem dX3_lead_155 : decode cX3_lead 155 = .ok (.if_icmp .ne 7, 3) := by decide +kernel
theorem dX3_lead_158 : decode cX3_lead 158 = .ok (.iconst (-1), 1) := by decide +kernel
theorem dX3_lead_159 : decode cX3_lead 159 = .ok (.goto 15, 3) := by decide +kernel
theorem dX3_lead_162 : decode cX3_lead 162 = .ok (.aload_n 0, 1) := by decide +kernel
theorem dX3_lead_163 : decode cX3_lead 163 = .ok (.aload_n 2, 1) := by decide +kernel
theorem dX3_lead_164 : decode cX3_lead 164 = .ok (.aload_n 3, 1) := by decide +kernel
theorem dX3_lead_165 : decode cX3_lead 165 = .ok (.aload 4, 2) := by decide +kernel
theorem dX3_lead_167 : decode cX3_lead 167 = .ok (.iload 6, 2) := by decide +kernel
theorem dX3_lead_169 : decode cX3_lead 169 = .ok (.iload 5, 2) := by decide +kernel
theorem dX3_lead_171 : decode cX3_lead 171 = .ok (.invokevirtual 54, 3) := by decide +kernel
theorem dX3_lead_174 : decode cX3_lead 174 = .ok (.iastore, 1) := by decide +kernel
theorem dX3_lead_175 : decode cX3_lead 175 = .ok (.iinc 5 1, 3) := by decide +kernel
theorem dX3_lead_178 : decode cX3_lead 178 = .ok (.goto (-74), 3) := by decide +kernel
theorem dX3_lead_181 : decode cX3_lead 181 = .ok (.return_, 1) := by decide +kernel
theorem dX3_isLed_0 : decode cX3_isLed 0 = .ok (.aload_n 2, 1) := by decide +kernel
theorem dX3_isLed_1 : decode cX3_isLed 1 = .ok (.getfield 58, 3) := by decide +kernel
theorem dX3_isLed_4 : decode cX3_isLed 4 = .ok (.iload_n 3, 1) := by decide +kernel
theorem dX3_isLed_5 : decode cX3_isLed 5 = .ok (.iaload, 1) := by decide +kernel
theorem dX3_isLed_6 : decode cX3_isLed 6 = .ok (.istore 4, 2) := by decide +kernel
theorem dX3_isLed_8 : decode cX3_isLed 8 = .ok (.aload_n 1, 1) := by decide +kernel
theorem dX3_isLed_9 : decode cX3_isLed 9 = .ok (.getfield 63, 3) := by decide +kernel
theorem dX3_isLed_12 : decode cX3_isLed 12 = .ok (.iload_n 3, 1) := by decide +kernel
theorem dX3_isLed_13 : decode cX3_isLed 13 = .ok (.iaload, 1) := by decide +kernel
theorem dX3_isLed_14 : decode cX3_isLed 14 = .ok (.istore 5, 2) := by decide +kernel
theorem dX3_isLed_16 : decode cX3_isLed 16 = .ok (.iload 4, 2) := by decide +kernel
theorem dX3_isLed_18 : decode cX3_isLed 18 = .ok (.istore 6, 2) := by decide +kernel
theorem dX3_isLed_20 : decode cX3_isLed 20 = .ok (.iload 6, 2) := by decide +kernel
theorem dX3_isLed_22 : decode cX3_isLed 22 = .ok (.aload_n 1, 1) := by decide +kernel
theorem dX3_isLed_23 : decode cX3_isLed 23 = .ok (.getfield 26, 3) := by decide +kernel
theorem dX3_isLed_26 : decode cX3_isLed 26 = .ok (.if_icmp .ge 64, 3) := by decide +kernel
theorem dX3_isLed_29 : decode cX3_isLed 29 = .ok (.aload_n 2, 1) := by decide +kernel
theorem dX3_isLed_30 : decode cX3_isLed 30 = .ok (.getfield 58, 3) := by decide +kernel
theorem dX3_isLed_33 : decode cX3_isLed 33 = .ok (.iload 6, 2) := by decide +kernel
theorem dX3_isLed_35 : decode cX3_isLed 35 = .ok (.iaload, 1) := by decide +kernel
theorem dX3_isLed_36 : decode cX3_isLed 36 = .ok (.iload 4, 2) := by decide +kernel
theorem dX3_isLed_38 : decode cX3_isLed 38 = .ok (.if_icmp .ne 46, 3) := by decide +kernel
theorem dX3_isLed_41 : decode cX3_isLed 41 = .ok (.aload_n 1, 1) := by decide +kernel
theorem dX3_isLed_42 : decode cX3_isLed 42 = .ok (.getfield 63, 3) := by decide +kernel
theorem dX3_isLed_45 : decode cX3_isLed 45 = .ok (.iload 6, 2) := by decide +kernel
theorem dX3_isLed_47 : decode cX3_isLed 47 = .ok (.iaload, 1) := by decide +kernel
theorem dX3_isLed_48 : decode cX3_isLed 48 = .ok (.iload 5, 2) := by decide +kernel
theorem dX3_isLed_50 : decode cX3_isLed 50 = .ok (.if_icmp .ne 12, 3) := by decide +kernel
theorem dX3_isLed_53 : decode cX3_isLed 53 = .ok (.iload 6, 2) := by decide +kernel
theorem dX3_isLed_55 : decode cX3_isLed 55 = .ok (.iload_n 3, 1) := by decide +kernel
theorem dX3_isLed_56 : decode cX3_isLed 56 = .ok (.if_icmp .ge 28, 3) := by decide +kernel
theorem dX3_isLed_59 : decode cX3_isLed 59 = .ok (.goto 23, 3) := by decide +kernel
theorem dX3_isLed_62 : decode cX3_isLed 62 = .ok (.aload_n 0, 1) := by decide +kernel
theorem dX3_isLed_63 : decode cX3_isLed 63 = .ok (.getfield 66, 3) := by decide +kernel
theorem dX3_isLed_66 : decode cX3_isLed 66 = .ok (.aload_n 1, 1) := by decide +kernel
theorem dX3_isLed_67 : decode cX3_isLed 67 = .ok (.getfield 63, 3) := by decide +kernel
theorem dX3_isLed_70 : decode cX3_isLed 70 = .ok (.iload 6, 2) := by decide +kernel
theorem dX3_isLed_72 : decode cX3_isLed 72 = .ok (.iaload, 1) := by decide +kernel
theorem dX3_isLed_73 : decode cX3_isLed 73 = .ok (.iaload, 1) := by decide +kernel
theorem dX3_isLed_74 : decode cX3_isLed 74 = .ok (.iload 5, 2) := by decide +kernel
theorem dX3_isLed_76 : decode cX3_isLed 76 = .ok (.invokestatic 69, 3) := by decide +kernel
theorem dX3_isLed_79 : decode cX3_isLed 79 = .ok (.ifCond .eq 5, 3) := by decide +kernel
theorem dX3_isLed_82 : decode cX3_isLed 82 = .ok (.iconst 1, 1) := by decide +kernel
theorem dX3_isLed_83 : decode cX3_isLed 83 = .ok (.ireturn, 1) := by decide +kernel
theorem dX3_isLed_84 : decode cX3_isLed 84 = .ok (.iinc 6 1, 3) := by decide +kernel
theorem dX3_isLed_87 : decode cX3_isLed 87 = .ok (.goto (-67), 3) := by decide +kernel
theorem dX3_isLed_90 : decode cX3_isLed 90 = .ok (.iconst 0, 1) := by decide +kernel
theorem dX3_isLed_91 : decode cX3_isLed 91 = .ok (.ireturn, 1) := by decide +kernel
theorem dX3_leader_0 : decode cX3_leader 0 = .ok (.aload_n 3, 1) := by decide +kernel
theorem dX3_leader_1 : decode cX3_leader 1 = .ok (.getfield 58, 3) := by decide +kernel
theorem dX3_leader_4 : decode cX3_leader 4 = .ok (.iload 4, 2) := by decide +kernel
theorem dX3_leader_6 : decode cX3_leader 6 = .ok (.iaload, 1) := by decide +kernel
theorem dX3_leader_7 : decode cX3_leader 7 = .ok (.istore 6, 2) := by decide +kernel
theorem dX3_leader_9 : decode cX3_leader 9 = .ok (.iload 6, 2) := by decide +kernel
theorem dX3_leader_11 : decode cX3_leader 11 = .ok (.istore 7, 2) := by decide +kernel
theorem dX3_leader_13 : decode cX3_leader 13 = .ok (.iload 7, 2) := by decide +kernel
theorem dX3_leader_15 : decode cX3_leader 15 = .ok (.aload_n 2, 1) := by decide +kernel
theorem dX3_leader_16 : decode cX3_leader 16 = .ok (.getfield 26, 3) := by decide +kernel
theorem dX3_leader_19 : decode cX3_leader 19 = .ok (.if_icmp .ge 54, 3) := by decide +kernel
theorem dX3_leader_22 : decode cX3_leader 22 = .ok (.aload_n 3, 1) := by decide +kernel
theorem dX3_leader_23 : decode cX3_leader 23 = .ok (.getfield 58, 3) := by decide +kernel
theorem dX3_leader_26 : decode cX3_leader 26 = .ok (.iload 7, 2) := by decide +kernel
theorem dX3_leader_28 : decode cX3_leader 28 = .ok (.iaload, 1) := by decide +kernel
theorem dX3_leader_29 : decode cX3_leader 29 = .ok (.iload 6, 2) := by decide +kernel
theorem dX3_leader_31 : decode cX3_leader 31 = .ok (.if_icmp .ne 36, 3) := by decide +kernel
theorem dX3_leader_34 : decode cX3_leader 34 = .ok (.aload_n 0, 1) := by decide +kernel
theorem dX3_leader_35 : decode cX3_leader 35 = .ok (.getfield 9, 3) := by decide +kernel
theorem dX3_leader_38 : decode cX3_leader 38 = .ok (.iload 7, 2) := by decide +kernel
theorem dX3_leader_40 : decode cX3_leader 40 = .ok (.baload, 1) := by decide +kernel
theorem dX3_leader_41 : decode cX3_leader 41 = .ok (.ifCond .ne 26, 3) := by decide +kernel
theorem dX3_leader_44 : decode cX3_leader 44 = .ok (.aload_n 1, 1) := by decide +kernel
theorem dX3_leader_45 : decode cX3_leader 45 = .ok (.getfield 66, 3) := by decide +kernel
theorem dX3_leader_48 : decode cX3_leader 48 = .ok (.aload_n 2, 1) := by decide +kernel
theorem dX3_leader_49 : decode cX3_leader 49 = .ok (.getfield 63, 3) := by decide +kernel
theorem dX3_leader_52 : decode cX3_leader 52 = .ok (.iload 7, 2) := by decide +kernel
theorem dX3_leader_54 : decode cX3_leader 54 = .ok (.iaload, 1) := by decide +kernel
theorem dX3_leader_55 : decode cX3_leader 55 = .ok (.iaload, 1) := by decide +kernel
theorem dX3_leader_56 : decode cX3_leader 56 = .ok (.iload 5, 2) := by decide +kernel
theorem dX3_leader_58 : decode cX3_leader 58 = .ok (.invokestatic 69, 3) := by decide +kernel
theorem dX3_leader_61 : decode cX3_leader 61 = .ok (.ifCond .eq 6, 3) := by decide +kernel
theorem dX3_leader_64 : decode cX3_leader 64 = .ok (.iload 7, 2) := by decide +kernel
theorem dX3_leader_66 : decode cX3_leader 66 = .ok (.ireturn, 1) := by decide +kernel
theorem dX3_leader_67 : decode cX3_leader 67 = .ok (.iinc 7 1, 3) := by decide +kernel
theorem dX3_leader_70 : decode cX3_leader 70 = .ok (.goto (-57), 3) := by decide +kernel
theorem dX3_leader_73 : decode cX3_leader 73 = .ok (.iload 4, 2) := by decide +kernel
theorem dX3_leader_75 : decode cX3_leader 75 = .ok (.ireturn, 1) := by decide +kernel
theorem dX3_leadOperands_0 : decode cX3_leadOperands 0 = .ok (.aload_n 2, 1) := by decide +kernel
theorem dX3_leadOperands_1 : decode cX3_leadOperands 1 = .ok (.getfield 63, 3) := by decide +kernel
theorem dX3_leadOperands_4 : decode cX3_leadOperands 4 = .ok (.iload 4, 2) := by decide +kernel
theorem dX3_leadOperands_6 : decode cX3_leadOperands 6 = .ok (.iaload, 1) := by decide +kernel
theorem dX3_leadOperands_7 : decode cX3_leadOperands 7 = .ok (.istore 5, 2) := by decide +kernel
theorem dX3_leadOperands_9 : decode cX3_leadOperands 9 = .ok (.aload_n 2, 1) := by decide +kernel
theorem dX3_leadOperands_10 : decode cX3_leadOperands 10 = .ok (.getfield 73, 3) := by decide +kernel
theorem dX3_leadOperands_13 : decode cX3_leadOperands 13 = .ok (.iload 4, 2) := by decide +kernel
theorem dX3_leadOperands_15 : decode cX3_leadOperands 15 = .ok (.iaload, 1) := by decide +kernel
theorem dX3_leadOperands_16 : decode cX3_leadOperands 16 = .ok (.istore 6, 2) := by decide +kernel
theorem dX3_leadOperands_18 : decode cX3_leadOperands 18 = .ok (.iconst 0, 1) := by decide +kernel
theorem dX3_leadOperands_19 : decode cX3_leadOperands 19 = .ok (.istore 7, 2) := by decide +kernel
theorem dX3_leadOperands_21 : decode cX3_leadOperands 21 = .ok (.iload 7, 2) := by decide +kernel
theorem dX3_leadOperands_23 : decode cX3_leadOperands 23 = .ok (.aload_n 2, 1) := by decide +kernel
theorem dX3_leadOperands_24 : decode cX3_leadOperands 24 = .ok (.iload 4, 2) := by decide +kernel
theorem dX3_leadOperands_26 : decode cX3_leadOperands 26 = .ok (.invokevirtual 76, 3) := by decide +kernel
theorem dX3_leadOperands_29 : decode cX3_leadOperands 29 = .ok (.if_icmp .ge 92, 3) := by decide +kernel
theorem dX3_leadOperands_32 : decode cX3_leadOperands 32 = .ok (.iload 5, 2) := by decide +kernel
theorem dX3_leadOperands_34 : decode cX3_leadOperands 34 = .ok (.istore 8, 2) := by decide +kernel
theorem dX3_leadOperands_36 : decode cX3_leadOperands 36 = .ok (.aload_n 2, 1) := by decide +kernel
theorem dX3_leadOperands_37 : decode cX3_leadOperands 37 = .ok (.getfield 80, 3) := by decide +kernel
theorem dX3_leadOperands_40 : decode cX3_leadOperands 40 = .ok (.iload 4, 2) := by decide +kernel
theorem dX3_leadOperands_42 : decode cX3_leadOperands 42 = .ok (.iaload, 1) := by decide +kernel
theorem dX3_leadOperands_43 : decode cX3_leadOperands 43 = .ok (.bipush 15, 2) := by decide +kernel
theorem dX3_leadOperands_45 : decode cX3_leadOperands 45 = .ok (.if_icmp .ne 31, 3) := by decide +kernel
theorem dX3_leadOperands_48 : decode cX3_leadOperands 48 = .ok (.aload_n 1, 1) := by decide +kernel
theorem dX3_leadOperands_49 : decode cX3_leadOperands 49 = .ok (.getfield 83, 3) := by decide +kernel
theorem dX3_leadOperands_52 : decode cX3_leadOperands 52 = .ok (.iload 5, 2) := by decide +kernel
theorem dX3_leadOperands_54 : decode cX3_leadOperands 54 = .ok (.iaload, 1) := by decide +kernel
theorem dX3_leadOperands_55 : decode cX3_leadOperands 55 = .ok (.iload 7, 2) := by decide +kernel
theorem dX3_leadOperands_57 : decode cX3_leadOperands 57 = .ok (.invokestatic 86, 3) := by decide +kernel
theorem dX3_leadOperands_60 : decode cX3_leadOperands 60 = .ok (.istore 9, 2) := by decide +kernel
theorem dX3_leadOperands_62 : decode cX3_leadOperands 62 = .ok (.iload 9, 2) := by decide +kernel
theorem dX3_leadOperands_64 : decode cX3_leadOperands 64 = .ok (.iconst (-1), 1) := by decide +kernel
theorem dX3_leadOperands_65 : decode cX3_leadOperands 65 = .ok (.if_icmp .ne 7, 3) := by decide +kernel
theorem dX3_leadOperands_68 : decode cX3_leadOperands 68 = .ok (.iconst 0, 1) := by decide +kernel
theorem dX3_leadOperands_69 : decode cX3_leadOperands 69 = .ok (.goto 5, 3) := by decide +kernel
theorem dX3_leadOperands_72 : decode cX3_leadOperands 72 = .ok (.iload 9, 2) := by decide +kernel
theorem dX3_leadOperands_74 : decode cX3_leadOperands 74 = .ok (.istore 8, 2) := by decide +kernel
theorem dX3_leadOperands_76 : decode cX3_leadOperands 76 = .ok (.aload_n 2, 1) := by decide +kernel
theorem dX3_leadOperands_77 : decode cX3_leadOperands 77 = .ok (.getfield 49, 3) := by decide +kernel
theorem dX3_leadOperands_80 : decode cX3_leadOperands 80 = .ok (.getfield 90, 3) := by decide +kernel
theorem dX3_leadOperands_83 : decode cX3_leadOperands 83 = .ok (.iload 6, 2) := by decide +kernel
theorem dX3_leadOperands_85 : decode cX3_leadOperands 85 = .ok (.iload 7, 2) := by decide +kernel
theorem dX3_leadOperands_87 : decode cX3_leadOperands 87 = .ok (.iadd, 1) := by decide +kernel
theorem dX3_leadOperands_88 : decode cX3_leadOperands 88 = .ok (.iaload, 1) := by decide +kernel
theorem dX3_leadOperands_89 : decode cX3_leadOperands 89 = .ok (.istore 9, 2) := by decide +kernel
theorem dX3_leadOperands_91 : decode cX3_leadOperands 91 = .ok (.aload_n 0, 1) := by decide +kernel
theorem dX3_leadOperands_92 : decode cX3_leadOperands 92 = .ok (.getfield 18, 3) := by decide +kernel
theorem dX3_leadOperands_95 : decode cX3_leadOperands 95 = .ok (.getfield 90, 3) := by decide +kernel
theorem dX3_leadOperands_98 : decode cX3_leadOperands 98 = .ok (.iload 6, 2) := by decide +kernel
theorem dX3_leadOperands_100 : decode cX3_leadOperands 100 = .ok (.iload 7, 2) := by decide +kernel
theorem dX3_leadOperands_102 : decode cX3_leadOperands 102 = .ok (.iadd, 1) := by decide +kernel
theorem dX3_leadOperands_103 : decode cX3_leadOperands 103 = .ok (.aload_n 0, 1) := by decide +kernel
theorem dX3_leadOperands_104 : decode cX3_leadOperands 104 = .ok (.aload_n 1, 1) := by decide +kernel
theorem dX3_leadOperands_105 : decode cX3_leadOperands 105 = .ok (.aload_n 2, 1) := by decide +kernel
theorem dX3_leadOperands_106 : decode cX3_leadOperands 106 = .ok (.aload_n 3, 1) := by decide +kernel
theorem dX3_leadOperands_107 : decode cX3_leadOperands 107 = .ok (.iload 9, 2) := by decide +kernel
theorem dX3_leadOperands_109 : decode cX3_leadOperands 109 = .ok (.iload 8, 2) := by decide +kernel
theorem dX3_leadOperands_111 : decode cX3_leadOperands 111 = .ok (.invokevirtual 54, 3) := by decide +kernel
theorem dX3_leadOperands_114 : decode cX3_leadOperands 114 = .ok (.iastore, 1) := by decide +kernel
theorem dX3_leadOperands_115 : decode cX3_leadOperands 115 = .ok (.iinc 7 1, 3) := by decide +kernel
theorem dX3_leadOperands_118 : decode cX3_leadOperands 118 = .ok (.goto (-97), 3) := by decide +kernel
theorem dX3_leadOperands_121 : decode cX3_leadOperands 121 = .ok (.return_, 1) := by decide +kernel
theorem dX3_leadEmits_0 : decode cX3_leadEmits 0 = .ok (.aload_n 1, 1) := by decide +kernel
theorem dX3_leadEmits_1 : decode cX3_leadEmits 1 = .ok (.getfield 93, 3) := by decide +kernel
theorem dX3_leadEmits_4 : decode cX3_leadEmits 4 = .ok (.iload 5, 2) := by decide +kernel
theorem dX3_leadEmits_6 : decode cX3_leadEmits 6 = .ok (.iaload, 1) := by decide +kernel
theorem dX3_leadEmits_7 : decode cX3_leadEmits 7 = .ok (.istore 6, 2) := by decide +kernel
theorem dX3_leadEmits_9 : decode cX3_leadEmits 9 = .ok (.iload 6, 2) := by decide +kernel
theorem dX3_leadEmits_11 : decode cX3_leadEmits 11 = .ok (.aload_n 1, 1) := by decide +kernel
theorem dX3_leadEmits_12 : decode cX3_leadEmits 12 = .ok (.getfield 93, 3) := by decide +kernel
theorem dX3_leadEmits_15 : decode cX3_leadEmits 15 = .ok (.iload 5, 2) := by decide +kernel
theorem dX3_leadEmits_17 : decode cX3_leadEmits 17 = .ok (.iconst 1, 1) := by decide +kernel
theorem dX3_leadEmits_18 : decode cX3_leadEmits 18 = .ok (.iadd, 1) := by decide +kernel
theorem dX3_leadEmits_19 : decode cX3_leadEmits 19 = .ok (.iaload, 1) := by decide +kernel
theorem dX3_leadEmits_20 : decode cX3_leadEmits 20 = .ok (.if_icmp .ge 51, 3) := by decide +kernel
theorem dX3_leadEmits_23 : decode cX3_leadEmits 23 = .ok (.aload_n 1, 1) := by decide +kernel
theorem dX3_leadEmits_24 : decode cX3_leadEmits 24 = .ok (.getfield 98, 3) := by decide +kernel
theorem dX3_leadEmits_27 : decode cX3_leadEmits 27 = .ok (.iload 6, 2) := by decide +kernel
theorem dX3_leadEmits_29 : decode cX3_leadEmits 29 = .ok (.iaload, 1) := by decide +kernel
theorem dX3_leadEmits_30 : decode cX3_leadEmits 30 = .ok (.bipush 14, 2) := by decide +kernel
theorem dX3_leadEmits_32 : decode cX3_leadEmits 32 = .ok (.if_icmp .ne 33, 3) := by decide +kernel
theorem dX3_leadEmits_35 : decode cX3_leadEmits 35 = .ok (.aload_n 0, 1) := by decide +kernel
theorem dX3_leadEmits_36 : decode cX3_leadEmits 36 = .ok (.getfield 18, 3) := by decide +kernel
theorem dX3_leadEmits_39 : decode cX3_leadEmits 39 = .ok (.getfield 99, 3) := by decide +kernel
theorem dX3_leadEmits_42 : decode cX3_leadEmits 42 = .ok (.iload 6, 2) := by decide +kernel
theorem dX3_leadEmits_44 : decode cX3_leadEmits 44 = .ok (.aload_n 0, 1) := by decide +kernel
theorem dX3_leadEmits_45 : decode cX3_leadEmits 45 = .ok (.aload_n 2, 1) := by decide +kernel
theorem dX3_leadEmits_46 : decode cX3_leadEmits 46 = .ok (.aload_n 3, 1) := by decide +kernel
theorem dX3_leadEmits_47 : decode cX3_leadEmits 47 = .ok (.aload 4, 2) := by decide +kernel
theorem dX3_leadEmits_49 : decode cX3_leadEmits 49 = .ok (.aload_n 3, 1) := by decide +kernel
theorem dX3_leadEmits_50 : decode cX3_leadEmits 50 = .ok (.getfield 49, 3) := by decide +kernel
theorem dX3_leadEmits_53 : decode cX3_leadEmits 53 = .ok (.getfield 99, 3) := by decide +kernel
theorem dX3_leadEmits_56 : decode cX3_leadEmits 56 = .ok (.iload 6, 2) := by decide +kernel
theorem dX3_leadEmits_58 : decode cX3_leadEmits 58 = .ok (.iaload, 1) := by decide +kernel
theorem dX3_leadEmits_59 : decode cX3_leadEmits 59 = .ok (.iload 5, 2) := by decide +kernel
theorem dX3_leadEmits_61 : decode cX3_leadEmits 61 = .ok (.invokevirtual 54, 3) := by decide +kernel
theorem dX3_leadEmits_64 : decode cX3_leadEmits 64 = .ok (.iastore, 1) := by decide +kernel
theorem dX3_leadEmits_65 : decode cX3_leadEmits 65 = .ok (.iinc 6 1, 3) := by decide +kernel
theorem dX3_leadEmits_68 : decode cX3_leadEmits 68 = .ok (.goto (-59), 3) := by decide +kernel
theorem dX3_leadEmits_71 : decode cX3_leadEmits 71 = .ok (.return_, 1) := by decide +kernel
theorem dX4_init_0 : decode cX4_init 0 = .ok (.aload_n 0, 1) := by decide +kernel
theorem dX4_init_1 : decode cX4_init 1 = .ok (.invokespecial 3, 3) := by decide +kernel
theorem dX4_init_4 : decode cX4_init 4 = .ok (.aload_n 0, 1) := by decide +kernel
theorem dX4_init_5 : decode cX4_init 5 = .ok (.iconst 4, 1) := by decide +kernel
theorem dX4_init_6 : decode cX4_init 6 = .ok (.newarray .int, 2) := by decide +kernel
theorem dX4_init_8 : decode cX4_init 8 = .ok (.putfield 9, 3) := by decide +kernel
theorem dX4_init_11 : decode cX4_init 11 = .ok (.aload_n 0, 1) := by decide +kernel
theorem dX4_init_12 : decode cX4_init 12 = .ok (.bipush 60, 2) := by decide +kernel
theorem dX4_init_14 : decode cX4_init 14 = .ok (.newarray .int, 2) := by decide +kernel
theorem dX4_init_16 : decode cX4_init 16 = .ok (.putfield 15, 3) := by decide +kernel
theorem dX4_init_19 : decode cX4_init 19 = .ok (.aload_n 0, 1) := by decide +kernel
theorem dX4_init_20 : decode cX4_init 20 = .ok (.sipush 1000, 3) := by decide +kernel
theorem dX4_init_23 : decode cX4_init 23 = .ok (.putfield 18, 3) := by decide +kernel
theorem dX4_init_26 : decode cX4_init 26 = .ok (.aload_n 0, 1) := by decide +kernel
theorem dX4_init_27 : decode cX4_init 27 = .ok (.aload_n 1, 1) := by decide +kernel
theorem dX4_init_28 : decode cX4_init 28 = .ok (.putfield 22, 3) := by decide +kernel
theorem dX4_init_31 : decode cX4_init 31 = .ok (.return_, 1) := by decide +kernel
theorem dX4_takeInputs_0 : decode cX4_takeInputs 0 = .ok (.aload_n 0, 1) := by decide +kernel
theorem dX4_takeInputs_1 : decode cX4_takeInputs 1 = .ok (.getfield 9, 3) := by decide +kernel
theorem dX4_takeInputs_4 : decode cX4_takeInputs 4 = .ok (.iconst 0, 1) := by decide +kernel
theorem dX4_takeInputs_5 : decode cX4_takeInputs 5 = .ok (.iload_n 1, 1) := by decide +kernel
theorem dX4_takeInputs_6 : decode cX4_takeInputs 6 = .ok (.iastore, 1) := by decide +kernel
theorem dX4_takeInputs_7 : decode cX4_takeInputs 7 = .ok (.aload_n 0, 1) := by decide +kernel
theorem dX4_takeInputs_8 : decode cX4_takeInputs 8 = .ok (.getfield 9, 3) := by decide +kernel
theorem dX4_takeInputs_11 : decode cX4_takeInputs 11 = .ok (.iconst 1, 1) := by decide +kernel
theorem dX4_takeInputs_12 : decode cX4_takeInputs 12 = .ok (.iload_n 2, 1) := by decide +kernel
theorem dX4_takeInputs_13 : decode cX4_takeInputs 13 = .ok (.iastore, 1) := by decide +kernel
theorem dX4_takeInputs_14 : decode cX4_takeInputs 14 = .ok (.aload_n 0, 1) := by decide +kernel
theorem dX4_takeInputs_15 : decode cX4_takeInputs 15 = .ok (.getfield 9, 3) := by decide +kernel
theorem dX4_takeInputs_18 : decode cX4_takeInputs 18 = .ok (.iconst 2, 1) := by decide +kernel
theorem dX4_takeInputs_19 : decode cX4_takeInputs 19 = .ok (.iload_n 3, 1) := by decide +kernel
theorem dX4_takeInputs_20 : decode cX4_takeInputs 20 = .ok (.iastore, 1) := by decide +kernel
theorem dX4_takeInputs_21 : decode cX4_takeInputs 21 = .ok (.aload_n 0, 1) := by decide +kernel
theorem dX4_takeInputs_22 : decode cX4_takeInputs 22 = .ok (.getfield 9, 3) := by decide +kernel
theorem dX4_takeInputs_25 : decode cX4_takeInputs 25 = .ok (.iconst 3, 1) := by decide +kernel
theorem dX4_takeInputs_26 : decode cX4_takeInputs 26 = .ok (.iload 4, 2) := by decide +kernel
theorem dX4_takeInputs_28 : decode cX4_takeInputs 28 = .ok (.iastore, 1) := by decide +kernel
theorem dX4_takeInputs_29 : decode cX4_takeInputs 29 = .ok (.return_, 1) := by decide +kernel
theorem dX4_perform_0 : decode cX4_perform 0 = .ok (.aload_n 0, 1) := by decide +kernel
theorem dX4_perform_1 : decode cX4_perform 1 = .ok (.iconst 0, 1) := by decide +kernel
theorem dX4_perform_2 : decode cX4_perform 2 = .ok (.putfield 26, 3) := by decide +kernel
theorem dX4_perform_5 : decode cX4_perform 5 = .ok (.aload_n 0, 1) := by decide +kernel
theorem dX4_perform_6 : decode cX4_perform 6 = .ok (.iconst 0, 1) := by decide +kernel
theorem dX4_perform_7 : decode cX4_perform 7 = .ok (.putfield 29, 3) := by decide +kernel
theorem dX4_perform_10 : decode cX4_perform 10 = .ok (.aload_n 0, 1) := by decide +kernel
theorem dX4_perform_11 : decode cX4_perform 11 = .ok (.iconst 0, 1) := by decide +kernel
theorem dX4_perform_12 : decode cX4_perform 12 = .ok (.putfield 32, 3) := by decide +kernel
theorem dX4_perform_15 : decode cX4_perform 15 = .ok (.aload_n 0, 1) := by decide +kernel
theorem dX4_perform_16 : decode cX4_perform 16 = .ok (.iconst 0, 1) := by decide +kernel
theorem dX4_perform_17 : decode cX4_perform 17 = .ok (.putfield 35, 3) := by decide +kernel
theorem dX4_perform_20 : decode cX4_perform 20 = .ok (.iconst (-1), 1) := by decide +kernel
theorem dX4_perform_21 : decode cX4_perform 21 = .ok (.istore_n 2, 1) := by decide +kernel
theorem dX4_perform_22 : decode cX4_perform 22 = .ok (.iconst 0, 1) := by decide +kernel
theorem dX4_perform_23 : decode cX4_perform 23 = .ok (.istore_n 3, 1) := by decide +kernel
theorem dX4_perform_24 : decode cX4_perform 24 = .ok (.iload_n 3, 1) := by decide +kernel
theorem dX4_perform_25 : decode cX4_perform 25 = .ok (.aload_n 0, 1) := by decide +kernel
theorem dX4_perform_26 : decode cX4_perform 26 = .ok (.getfield 18, 3) := by decide +kernel
theorem dX4_perform_29 : decode cX4_perform 29 = .ok (.if_icmp .gt 116, 3) := by decide +kernel
theorem dX4_perform_32 : decode cX4_perform 32 = .ok (.aload_n 1, 1) := by decide +kernel
theorem dX4_perform_33 : decode cX4_perform 33 = .ok (.iload_n 2, 1) := by decide +kernel
theorem dX4_perform_34 : decode cX4_perform 34 = .ok (.aload_n 0, 1) := by decide +kernel
theorem dX4_perform_35 : decode cX4_perform 35 = .ok (.getfield 35, 3) := by decide +kernel
theorem dX4_perform_38 : decode cX4_perform 38 = .ok (.invokevirtual 38, 3) := by decide +kernel
theorem dX4_perform_41 : decode cX4_perform 41 = .ok (.aload_n 0, 1) := by decide +kernel
theorem dX4_perform_42 : decode cX4_perform 42 = .ok (.aload_n 1, 1) := by decide +kernel
theorem dX4_perform_43 : decode cX4_perform 43 = .ok (.invokevirtual 44, 3) := by decide +kernel
theorem dX4_perform_46 : decode cX4_perform 46 = .ok (.ifCond .eq 10, 3) := by decide +kernel
theorem dX4_perform_49 : decode cX4_perform 49 = .ok (.aload_n 0, 1) := by decide +kernel
theorem dX4_perform_50 : decode cX4_perform 50 = .ok (.invokevirtual 48, 3) := by decide +kernel
theorem dX4_perform_53 : decode cX4_perform 53 = .ok (.ifCond .ne 5, 3) := by decide +kernel
theorem dX4_perform_56 : decode cX4_perform 56 = .ok (.iconst 1, 1) := by decide +kernel
theorem dX4_perform_57 : decode cX4_perform 57 = .ok (.ireturn, 1) := by decide +kernel
theorem dX4_perform_58 : decode cX4_perform 58 = .ok (.aload_n 0, 1) := by decide +kernel
theorem dX4_perform_59 : decode cX4_perform 59 = .ok (.getfield 22, 3) := by decide +kernel
theorem dX4_perform_62 : decode cX4_perform 62 = .ok (.aload_n 0, 1) := by decide +kernel
theorem dX4_perform_63 : decode cX4_perform 63 = .ok (.getfield 35, 3) := by decide +kernel
theorem dX4_perform_66 : decode cX4_perform 66 = .ok (.invokevirtual 52, 3) := by decide +kernel
theorem dX4_perform_69 : decode cX4_perform 69 = .ok (.istore 4, 2) := by decide +kernel
theorem dX4_perform_71 : decode cX4_perform 71 = .ok (.iload 4, 2) := by decide +kernel
theorem dX4_perform_73 : decode cX4_perform 73 = .ok (.iconst 1, 1) := by decide +kernel
theorem dX4_perform_74 : decode cX4_perform 74 = .ok (.if_icmp .ne 7, 3) := by decide +kernel
theorem dX4_perform_77 : decode cX4_perform 77 = .ok (.iconst 0, 1) := by decide +kernel
theorem dX4_perform_78 : decode cX4_perform 78 = .ok (.goto 16, 3) := by decide +kernel
theorem dX4_perform_81 : decode cX4_perform 81 = .ok (.aload_n 1, 1) := by decide +kernel
theorem dX4_perform_82 : decode cX4_perform 82 = .ok (.getfield 58, 3) := by decide +kernel
theorem dX4_perform_85 : decode cX4_perform 85 = .ok (.aload_n 1, 1) := by decide +kernel
theorem dX4_perform_86 : decode cX4_perform 86 = .ok (.aload_n 0, 1) := by decide +kernel
theorem dX4_perform_87 : decode cX4_perform 87 = .ok (.getfield 35, 3) := by decide +kernel
theorem dX4_perform_90 : decode cX4_perform 90 = .ok (.invokevirtual 61, 3) := by decide +kernel
theorem dX4_perform_93 : decode cX4_perform 93 = .ok (.iaload, 1) := by decide +kernel
theorem dX4_perform_94 : decode cX4_perform 94 = .ok (.istore 5, 2) := by decide +kernel
theorem dX4_perform_96 : decode cX4_perform 96 = .ok (.iload 4, 2) := by decide +kernel
theorem dX4_perform_98 : decode cX4_perform 98 = .ok (.ifCond .ne 11, 3) := by decide +kernel
theorem dX4_perform_101 : decode cX4_perform 101 = .ok (.aload_n 0, 1) := by decide +kernel
theorem dX4_perform_102 : decode cX4_perform 102 = .ok (.iload 5, 2) := by decide +kernel
theorem dX4_perform_104 : decode cX4_perform 104 = .ok (.putfield 26, 3) := by decide +kernel
theorem dX4_perform_107 : decode cX4_perform 107 = .ok (.iconst 0, 1) := by decide +kernel
theorem dX4_perform_108 : decode cX4_perform 108 = .ok (.ireturn, 1) := by decide +kernel
theorem dX4_perform_109 : decode cX4_perform 109 = .ok (.aload_n 0, 1) := by decide +kernel
theorem dX4_perform_110 : decode cX4_perform 110 = .ok (.getfield 35, 3) := by decide +kernel
theorem dX4_perform_113 : decode cX4_perform 113 = .ok (.istore_n 2, 1) := by decide +kernel
theorem dX4_perform_114 : decode cX4_perform 114 = .ok (.aload_n 0, 1) := by decide +kernel
theorem dX4_perform_115 : decode cX4_perform 115 = .ok (.aload_n 0, 1) := by decide +kernel
theorem dX4_perform_116 : decode cX4_perform 116 = .ok (.getfield 22, 3) := by decide +kernel
theorem dX4_perform_119 : decode cX4_perform 119 = .ok (.aload_n 0, 1) := by decide +kernel
theorem dX4_perform_120 : decode cX4_perform 120 = .ok (.getfield 35, 3) := by decide +kernel
theorem dX4_perform_123 : decode cX4_perform 123 = .ok (.iload 5, 2) := by decide +kernel
theorem dX4_perform_125 : decode cX4_perform 125 = .ok (.ifCond .eq 7, 3) := by decide +kernel
theorem dX4_perform_128 : decode cX4_perform 128 = .ok (.iconst 1, 1) := by decide +kernel
theorem dX4_perform_129 : decode cX4_perform 129 = .ok (.goto 4, 3) := by decide +kernel
theorem dX4_perform_132 : decode cX4_perform 132 = .ok (.iconst 0, 1) := by decide +kernel
theorem dX4_perform_133 : decode cX4_perform 133 = .ok (.invokevirtual 64, 3) := by decide +kernel
theorem dX4_perform_136 : decode cX4_perform 136 = .ok (.putfield 35, 3) := by decide +kernel
theorem dX4_perform_139 : decode cX4_perform 139 = .ok (.iinc 3 1, 3) := by decide +kernel
theorem dX4_perform_142 : decode cX4_perform 142 = .ok (.goto (-118), 3) := by decide +kernel
theorem dX4_perform_145 : decode cX4_perform 145 = .ok (.iconst 1, 1) := by decide +kernel
theorem dX4_perform_146 : decode cX4_perform 146 = .ok (.ireturn, 1) := by decide +kernel
theorem dX4_pay_0 : decode cX4_pay 0 = .ok (.aload_n 0, 1) := by decide +kernel
theorem dX4_pay_1 : decode cX4_pay 1 = .ok (.getfield 29, 3) := by decide +kernel
theorem dX4_pay_4 : decode cX4_pay 4 = .ok (.aload_n 0, 1) := by decide +kernel
theorem dX4_pay_5 : decode cX4_pay 5 = .ok (.getfield 18, 3) := by decide +kernel
theorem dX4_pay_8 : decode cX4_pay 8 = .ok (.if_icmp .lt 5, 3) := by decide +kernel
theorem dX4_pay_11 : decode cX4_pay 11 = .ok (.iconst 0, 1) := by decide +kernel
theorem dX4_pay_12 : decode cX4_pay 12 = .ok (.ireturn, 1) := by decide +kernel
theorem dX4_pay_13 : decode cX4_pay 13 = .ok (.aload_n 0, 1) := by decide +kernel
theorem dX4_pay_14 : decode cX4_pay 14 = .ok (.dup, 1) := by decide +kernel
theorem dX4_pay_15 : decode cX4_pay 15 = .ok (.getfield 29, 3) := by decide +kernel
theorem dX4_pay_18 : decode cX4_pay 18 = .ok (.iconst 1, 1) := by decide +kernel
theorem dX4_pay_19 : decode cX4_pay 19 = .ok (.iadd, 1) := by decide +kernel
theorem dX4_pay_20 : decode cX4_pay 20 = .ok (.putfield 29, 3) := by decide +kernel
theorem dX4_pay_23 : decode cX4_pay 23 = .ok (.iconst 1, 1) := by decide +kernel
theorem dX4_pay_24 : decode cX4_pay 24 = .ok (.ireturn, 1) := by decide +kernel
theorem dX4_followBlock_0 : decode cX4_followBlock 0 = .ok (.aload_n 0, 1) := by decide +kernel
theorem dX4_followBlock_1 : decode cX4_followBlock 1 = .ok (.getfield 22, 3) := by decide +kernel
theorem dX4_followBlock_4 : decode cX4_followBlock 4 = .ok (.getfield 68, 3) := by decide +kernel
theorem dX4_followBlock_7 : decode cX4_followBlock 7 = .ok (.aload_n 0, 1) := by decide +kernel
theorem dX4_followBlock_8 : decode cX4_followBlock 8 = .ok (.getfield 35, 3) := by decide +kernel
theorem dX4_followBlock_11 : decode cX4_followBlock 11 = .ok (.iaload, 1) := by decide +kernel
theorem dX4_followBlock_12 : decode cX4_followBlock 12 = .ok (.istore_n 2, 1) := by decide +kernel
theorem dX4_followBlock_13 : decode cX4_followBlock 13 = .ok (.iload_n 2, 1) := by decide +kernel
theorem dX4_followBlock_14 : decode cX4_followBlock 14 = .ok (.aload_n 0, 1) := by decide +kernel
theorem dX4_followBlock_15 : decode cX4_followBlock 15 = .ok (.getfield 22, 3) := by decide +kernel
theorem dX4_followBlock_18 : decode cX4_followBlock 18 = .ok (.getfield 68, 3) := by decide +kernel
theorem dX4_followBlock_21 : decode cX4_followBlock 21 = .ok (.aload_n 0, 1) := by decide +kernel
theorem dX4_followBlock_22 : decode cX4_followBlock 22 = .ok (.getfield 35, 3) := by decide +kernel
theorem dX4_followBlock_25 : decode cX4_followBlock 25 = .ok (.iconst 1, 1) := by decide +kernel
theorem dX4_followBlock_26 : decode cX4_followBlock 26 = .ok (.iadd, 1) := by decide +kernel
theorem dX4_followBlock_27 : decode cX4_followBlock 27 = .ok (.iaload, 1) := by decide +kernel
theorem dX4_followBlock_28 : decode cX4_followBlock 28 = .ok (.if_icmp .ge 32, 3) := by decide +kernel
theorem dX4_followBlock_31 : decode cX4_followBlock 31 = .ok (.aload_n 1, 1) := by decide +kernel
theorem dX4_followBlock_32 : decode cX4_followBlock 32 = .ok (.iload_n 2, 1) := by decide +kernel
theorem dX4_followBlock_33 : decode cX4_followBlock 33 = .ok (.invokevirtual 71, 3) := by decide +kernel
theorem dX4_followBlock_36 : decode cX4_followBlock 36 = .ok (.ifCond .eq 18, 3) := by decide +kernel
theorem dX4_followBlock_39 : decode cX4_followBlock 39 = .ok (.aload_n 0, 1) := by decide +kernel
theorem dX4_followBlock_40 : decode cX4_followBlock 40 = .ok (.invokevirtual 48, 3) := by decide +kernel
theorem dX4_followBlock_43 : decode cX4_followBlock 43 = .ok (.ifCond .ne 5, 3) := by decide +kernel
theorem dX4_followBlock_46 : decode cX4_followBlock 46 = .ok (.iconst 0, 1) := by decide +kernel
theorem dX4_followBlock_47 : decode cX4_followBlock 47 = .ok (.ireturn, 1) := by decide +kernel
theorem dX4_followBlock_48 : decode cX4_followBlock 48 = .ok (.aload_n 0, 1) := by decide +kernel
theorem dX4_followBlock_49 : decode cX4_followBlock 49 = .ok (.aload_n 1, 1) := by decide +kernel
theorem dX4_followBlock_50 : decode cX4_followBlock 50 = .ok (.iload_n 2, 1) := by decide +kernel
theorem dX4_followBlock_51 : decode cX4_followBlock 51 = .ok (.invokevirtual 75, 3) := by decide +kernel
theorem dX4_followBlock_54 : decode cX4_followBlock 54 = .ok (.iinc 2 1, 3) := by decide +kernel
theorem dX4_followBlock_57 : decode cX4_followBlock 57 = .ok (.goto (-44), 3) := by decide +kernel
theorem dX4_followBlock_60 : decode cX4_followBlock 60 = .ok (.iconst 1, 1) := by decide +kernel
theorem dX4_followBlock_61 : decode cX4_followBlock 61 = .ok (.ireturn, 1) := by decide +kernel
theorem dX4_follow_0 : decode cX4_follow 0 = .ok (.aload_n 1, 1) := by decide +kernel
theorem dX4_follow_1 : decode cX4_follow 1 = .ok (.getfield 58, 3) := by decide +kernel
theorem dX4_follow_4 : decode cX4_follow 4 = .ok (.astore_n 3, 1) := by decide +kernel
theorem dX4_follow_5 : decode cX4_follow 5 = .ok (.aload_n 0, 1) := by decide +kernel
theorem dX4_follow_6 : decode cX4_follow 6 = .ok (.getfield 22, 3) := by decide +kernel
theorem dX4_follow_9 : decode cX4_follow 9 = .ok (.getfield 79, 3) := by decide +kernel
theorem dX4_follow_12 : decode cX4_follow 12 = .ok (.iload_n 2, 1) := by decide +kernel
theorem dX4_follow_13 : decode cX4_follow 13 = .ok (.iaload, 1) := by decide +kernel
theorem dX4_follow_14 : decode cX4_follow 14 = .ok (.istore 4, 2) := by decide +kernel
theorem dX4_follow_16 : decode cX4_follow 16 = .ok (.iload 4, 2) := by decide +kernel
theorem dX4_follow_18 : decode cX4_follow 18 = .ok (.lookupswitch 116 #[(0, 42), (1, 61), (2, 85), (14, 102)], 42) := by decide +kernel
theorem dX4_follow_60 : decode cX4_follow 60 = .ok (.aload_n 3, 1) := by decide +kernel
theorem dX4_follow_61 : decode cX4_follow 61 = .ok (.aload_n 1, 1) := by decide +kernel
theorem dX4_follow_62 : decode cX4_follow 62 = .ok (.iload_n 2, 1) := by decide +kernel
theorem dX4_follow_63 : decode cX4_follow 63 = .ok (.invokevirtual 82, 3) := by decide +kernel
theorem dX4_follow_66 : decode cX4_follow 66 = .ok (.aload_n 0, 1) := by decide +kernel
theorem dX4_follow_67 : decode cX4_follow 67 = .ok (.getfield 22, 3) := by decide +kernel
theorem dX4_follow_70 : decode cX4_follow 70 = .ok (.getfield 85, 3) := by decide +kernel
theorem dX4_follow_73 : decode cX4_follow 73 = .ok (.iload_n 2, 1) := by decide +kernel
theorem dX4_follow_74 : decode cX4_follow 74 = .ok (.iaload, 1) := by decide +kernel
theorem dX4_follow_75 : decode cX4_follow 75 = .ok (.iastore, 1) := by decide +kernel
theorem dX4_follow_76 : decode cX4_follow 76 = .ok (.goto 84, 3) := by decide +kernel
theorem dX4_follow_79 : decode cX4_follow 79 = .ok (.aload_n 3, 1) := by decide +kernel
theorem dX4_follow_80 : decode cX4_follow 80 = .ok (.aload_n 1, 1) := by decide +kernel
theorem dX4_follow_81 : decode cX4_follow 81 = .ok (.iload_n 2, 1) := by decide +kernel
theorem dX4_follow_82 : decode cX4_follow 82 = .ok (.invokevirtual 82, 3) := by decide +kernel
theorem dX4_follow_85 : decode cX4_follow 85 = .ok (.aload_n 0, 1) := by decide +kernel
theorem dX4_follow_86 : decode cX4_follow 86 = .ok (.getfield 9, 3) := by decide +kernel
theorem dX4_follow_89 : decode cX4_follow 89 = .ok (.aload_n 0, 1) := by decide +kernel
theorem dX4_follow_90 : decode cX4_follow 90 = .ok (.getfield 22, 3) := by decide +kernel
theorem dX4_follow_93 : decode cX4_follow 93 = .ok (.getfield 85, 3) := by decide +kernel
theorem dX4_follow_96 : decode cX4_follow 96 = .ok (.iload_n 2, 1) := by decide +kernel
theorem dX4_follow_97 : decode cX4_follow 97 = .ok (.iaload, 1) := by decide +kernel
theorem dX4_follow_98 : decode cX4_follow 98 = .ok (.iaload, 1) := by decide +kernel
theorem dX4_follow_99 : decode cX4_follow 99 = .ok (.iastore, 1) := by decide +kernel
theorem dX4_follow_100 : decode cX4_follow 100 = .ok (.goto 60, 3) := by decide +kernel
theorem dX4_follow_103 : decode cX4_follow 103 = .ok (.aload_n 3, 1) := by decide +kernel
theorem dX4_follow_104 : decode cX4_follow 104 = .ok (.aload_n 1, 1) := by decide +kernel
theorem dX4_follow_105 : decode cX4_follow 105 = .ok (.iload_n 2, 1) := by decide +kernel
theorem dX4_follow_106 : decode cX4_follow 106 = .ok (.invokevirtual 82, 3) := by decide +kernel
theorem dX4_follow_109 : decode cX4_follow 109 = .ok (.aload_n 3, 1) := by decide +kernel
theorem dX4_follow_110 : decode cX4_follow 110 = .ok (.aload_n 1, 1) := by decide +kernel
theorem dX4_follow_111 : decode cX4_follow 111 = .ok (.iload_n 2, 1) := by decide +kernel
theorem dX4_follow_112 : decode cX4_follow 112 = .ok (.invokevirtual 88, 3) := by decide +kernel
theorem dX4_follow_115 : decode cX4_follow 115 = .ok (.iaload, 1) := by decide +kernel
theorem dX4_follow_116 : decode cX4_follow 116 = .ok (.iastore, 1) := by decide +kernel
theorem dX4_follow_117 : decode cX4_follow 117 = .ok (.goto 43, 3) := by decide +kernel
theorem dX4_follow_120 : decode cX4_follow 120 = .ok (.aload_n 0, 1) := by decide +kernel
theorem dX4_follow_121 : decode cX4_follow 121 = .ok (.aload_n 3, 1) := by decide +kernel
theorem dX4_follow_122 : decode cX4_follow 122 = .ok (.aload_n 1, 1) := by decide +kernel
theorem dX4_follow_123 : decode cX4_follow 123 = .ok (.iload_n 2, 1) := by decide +kernel
theorem dX4_follow_124 : decode cX4_follow 124 = .ok (.invokevirtual 88, 3) := by decide +kernel
theorem dX4_follow_127 : decode cX4_follow 127 = .ok (.iaload, 1) := by decide +kernel
theorem dX4_follow_128 : decode cX4_follow 128 = .ok (.invokevirtual 91, 3) := by decide +kernel
theorem dX4_follow_131 : decode cX4_follow 131 = .ok (.goto 29, 3) := by decide +kernel
theorem dX4_follow_134 : decode cX4_follow 134 = .ok (.aload_n 3, 1) := by decide +kernel
theorem dX4_follow_135 : decode cX4_follow 135 = .ok (.aload_n 1, 1) := by decide +kernel
theorem dX4_follow_136 : decode cX4_follow 136 = .ok (.iload_n 2, 1) := by decide +kernel
theorem dX4_follow_137 : decode cX4_follow 137 = .ok (.invokevirtual 82, 3) := by decide +kernel
theorem dX4_follow_140 : decode cX4_follow 140 = .ok (.iload 4, 2) := by decide +kernel
theorem dX4_follow_142 : decode cX4_follow 142 = .ok (.aload_n 3, 1) := by decide +kernel
theorem dX4_follow_143 : decode cX4_follow 143 = .ok (.aload_n 1, 1) := by decide +kernel
theorem dX4_follow_144 : decode cX4_follow 144 = .ok (.iload_n 2, 1) := by decide +kernel
theorem dX4_follow_145 : decode cX4_follow 145 = .ok (.invokevirtual 88, 3) := by decide +kernel
theorem dX4_follow_148 : decode cX4_follow 148 = .ok (.iaload, 1) := by decide +kernel
theorem dX4_follow_149 : decode cX4_follow 149 = .ok (.aload_n 3, 1) := by decide +kernel
theorem dX4_follow_150 : decode cX4_follow 150 = .ok (.aload_n 1, 1) := by decide +kernel
theorem dX4_follow_151 : decode cX4_follow 151 = .ok (.iload_n 2, 1) := by decide +kernel
theorem dX4_follow_152 : decode cX4_follow 152 = .ok (.invokevirtual 95, 3) := by decide +kernel
theorem dX4_follow_155 : decode cX4_follow 155 = .ok (.iaload, 1) := by decide +kernel
theorem dX4_follow_156 : decode cX4_follow 156 = .ok (.invokestatic 98, 3) := by decide +kernel
theorem dX4_follow_159 : decode cX4_follow 159 = .ok (.iastore, 1) := by decide +kernel
theorem dX4_follow_160 : decode cX4_follow 160 = .ok (.return_, 1) := by decide +kernel
theorem dX4_tell_0 : decode cX4_tell 0 = .ok (.aload_n 0, 1) := by decide +kernel
theorem dX4_tell_1 : decode cX4_tell 1 = .ok (.getfield 32, 3) := by decide +kernel
theorem dX4_tell_4 : decode cX4_tell 4 = .ok (.bipush 60, 2) := by decide +kernel
theorem dX4_tell_6 : decode cX4_tell 6 = .ok (.if_icmp .ge 13, 3) := by decide +kernel
theorem dX4_tell_9 : decode cX4_tell 9 = .ok (.aload_n 0, 1) := by decide +kernel
theorem dX4_tell_10 : decode cX4_tell 10 = .ok (.getfield 15, 3) := by decide +kernel
theorem dX4_tell_13 : decode cX4_tell 13 = .ok (.aload_n 0, 1) := by decide +kernel
theorem dX4_tell_14 : decode cX4_tell 14 = .ok (.getfield 32, 3) := by decide +kernel
theorem dX4_tell_17 : decode cX4_tell 17 = .ok (.iload_n 1, 1) := by decide +kernel
theorem dX4_tell_18 : decode cX4_tell 18 = .ok (.iastore, 1) := by decide +kernel
theorem dX4_tell_19 : decode cX4_tell 19 = .ok (.aload_n 0, 1) := by decide +kernel
theorem dX4_tell_20 : decode cX4_tell 20 = .ok (.dup, 1) := by decide +kernel
theorem dX4_tell_21 : decode cX4_tell 21 = .ok (.getfield 32, 3) := by decide +kernel
theorem dX4_tell_24 : decode cX4_tell 24 = .ok (.iconst 1, 1) := by decide +kernel
theorem dX4_tell_25 : decode cX4_tell 25 = .ok (.iadd, 1) := by decide +kernel
theorem dX4_tell_26 : decode cX4_tell 26 = .ok (.putfield 32, 3) := by decide +kernel
theorem dX4_tell_29 : decode cX4_tell 29 = .ok (.return_, 1) := by decide +kernel
theorem dX4_compute_0 : decode cX4_compute 0 = .ok (.iload_n 0, 1) := by decide +kernel
theorem dX4_compute_1 : decode cX4_compute 1 = .ok (.tableswitch 125 3 13 #[59, 63, 67, 71, 75, 79, 83, 94, 105, 112, 119], 59) := by decide +kernel
theorem dX4_compute_60 : decode cX4_compute 60 = .ok (.iload_n 1, 1) := by decide +kernel
theorem dX4_compute_61 : decode cX4_compute 61 = .ok (.iload_n 2, 1) := by decide +kernel
theorem dX4_compute_62 : decode cX4_compute 62 = .ok (.iadd, 1) := by decide +kernel
theorem dX4_compute_63 : decode cX4_compute 63 = .ok (.ireturn, 1) := by decide +kernel
theorem dX4_compute_64 : decode cX4_compute 64 = .ok (.iload_n 1, 1) := by decide +kernel
theorem dX4_compute_65 : decode cX4_compute 65 = .ok (.iload_n 2, 1) := by decide +kernel
theorem dX4_compute_66 : decode cX4_compute 66 = .ok (.isub, 1) := by decide +kernel
theorem dX4_compute_67 : decode cX4_compute 67 = .ok (.ireturn, 1) := by decide +kernel
theorem dX4_compute_68 : decode cX4_compute 68 = .ok (.iload_n 1, 1) := by decide +kernel
theorem dX4_compute_69 : decode cX4_compute 69 = .ok (.iload_n 2, 1) := by decide +kernel
theorem dX4_compute_70 : decode cX4_compute 70 = .ok (.imul, 1) := by decide +kernel
theorem dX4_compute_71 : decode cX4_compute 71 = .ok (.ireturn, 1) := by decide +kernel
theorem dX4_compute_72 : decode cX4_compute 72 = .ok (.iload_n 1, 1) := by decide +kernel
theorem dX4_compute_73 : decode cX4_compute 73 = .ok (.iload_n 2, 1) := by decide +kernel
theorem dX4_compute_74 : decode cX4_compute 74 = .ok (.iand, 1) := by decide +kernel
theorem dX4_compute_75 : decode cX4_compute 75 = .ok (.ireturn, 1) := by decide +kernel
theorem dX4_compute_76 : decode cX4_compute 76 = .ok (.iload_n 1, 1) := by decide +kernel
theorem dX4_compute_77 : decode cX4_compute 77 = .ok (.iload_n 2, 1) := by decide +kernel
theorem dX4_compute_78 : decode cX4_compute 78 = .ok (.ior, 1) := by decide +kernel
theorem dX4_compute_79 : decode cX4_compute 79 = .ok (.ireturn, 1) := by decide +kernel
theorem dX4_compute_80 : decode cX4_compute 80 = .ok (.iload_n 1, 1) := by decide +kernel
theorem dX4_compute_81 : decode cX4_compute 81 = .ok (.iload_n 2, 1) := by decide +kernel
theorem dX4_compute_82 : decode cX4_compute 82 = .ok (.ixor, 1) := by decide +kernel
theorem dX4_compute_83 : decode cX4_compute 83 = .ok (.ireturn, 1) := by decide +kernel
theorem dX4_compute_84 : decode cX4_compute 84 = .ok (.iload_n 1, 1) := by decide +kernel
theorem dX4_compute_85 : decode cX4_compute 85 = .ok (.iload_n 2, 1) := by decide +kernel
theorem dX4_compute_86 : decode cX4_compute 86 = .ok (.if_icmp .ne 7, 3) := by decide +kernel
theorem dX4_compute_89 : decode cX4_compute 89 = .ok (.iconst 1, 1) := by decide +kernel
theorem dX4_compute_90 : decode cX4_compute 90 = .ok (.goto 4, 3) := by decide +kernel
theorem dX4_compute_93 : decode cX4_compute 93 = .ok (.iconst 0, 1) := by decide +kernel
theorem dX4_compute_94 : decode cX4_compute 94 = .ok (.ireturn, 1) := by decide +kernel
theorem dX4_compute_95 : decode cX4_compute 95 = .ok (.iload_n 1, 1) := by decide +kernel
theorem dX4_compute_96 : decode cX4_compute 96 = .ok (.iload_n 2, 1) := by decide +kernel
theorem dX4_compute_97 : decode cX4_compute 97 = .ok (.if_icmp .ge 7, 3) := by decide +kernel
theorem dX4_compute_100 : decode cX4_compute 100 = .ok (.iconst 1, 1) := by decide +kernel
theorem dX4_compute_101 : decode cX4_compute 101 = .ok (.goto 4, 3) := by decide +kernel
theorem dX4_compute_104 : decode cX4_compute 104 = .ok (.iconst 0, 1) := by decide +kernel
theorem dX4_compute_105 : decode cX4_compute 105 = .ok (.ireturn, 1) := by decide +kernel
theorem dX4_compute_106 : decode cX4_compute 106 = .ok (.iload_n 1, 1) := by decide +kernel
theorem dX4_compute_107 : decode cX4_compute 107 = .ok (.iload_n 2, 1) := by decide +kernel
theorem dX4_compute_108 : decode cX4_compute 108 = .ok (.bipush 31, 2) := by decide +kernel
theorem dX4_compute_110 : decode cX4_compute 110 = .ok (.iand, 1) := by decide +kernel
theorem dX4_compute_111 : decode cX4_compute 111 = .ok (.ishl, 1) := by decide +kernel
theorem dX4_compute_112 : decode cX4_compute 112 = .ok (.ireturn, 1) := by decide +kernel
theorem dX4_compute_113 : decode cX4_compute 113 = .ok (.iload_n 1, 1) := by decide +kernel
theorem dX4_compute_114 : decode cX4_compute 114 = .ok (.iload_n 2, 1) := by decide +kernel
theorem dX4_compute_115 : decode cX4_compute 115 = .ok (.bipush 31, 2) := by decide +kernel
theorem dX4_compute_117 : decode cX4_compute 117 = .ok (.iand, 1) := by decide +kernel
theorem dX4_compute_118 : decode cX4_compute 118 = .ok (.ishr, 1) := by decide +kernel
theorem dX4_compute_119 : decode cX4_compute 119 = .ok (.ireturn, 1) := by decide +kernel
theorem dX4_compute_120 : decode cX4_compute 120 = .ok (.iload_n 1, 1) := by decide +kernel
theorem dX4_compute_121 : decode cX4_compute 121 = .ok (.iload_n 2, 1) := by decide +kernel
theorem dX4_compute_122 : decode cX4_compute 122 = .ok (.invokestatic 102, 3) := by decide +kernel
theorem dX4_compute_125 : decode cX4_compute 125 = .ok (.ireturn, 1) := by decide +kernel
theorem dX4_compute_126 : decode cX4_compute 126 = .ok (.iconst 0, 1) := by decide +kernel
theorem dX4_compute_127 : decode cX4_compute 127 = .ok (.ireturn, 1) := by decide +kernel
theorem dX4_divide_0 : decode cX4_divide 0 = .ok (.iload_n 1, 1) := by decide +kernel
theorem dX4_divide_1 : decode cX4_divide 1 = .ok (.ifCond .ne 5, 3) := by decide +kernel
theorem dX4_divide_4 : decode cX4_divide 4 = .ok (.iconst 0, 1) := by decide +kernel
theorem dX4_divide_5 : decode cX4_divide 5 = .ok (.ireturn, 1) := by decide +kernel
theorem dX4_divide_6 : decode cX4_divide 6 = .ok (.iload_n 1, 1) := by decide +kernel
theorem dX4_divide_7 : decode cX4_divide 7 = .ok (.iconst (-1), 1) := by decide +kernel
theorem dX4_divide_8 : decode cX4_divide 8 = .ok (.if_icmp .ne 8, 3) := by decide +kernel
theorem dX4_divide_11 : decode cX4_divide 11 = .ok (.iload_n 0, 1) := by decide +kernel
theorem dX4_divide_12 : decode cX4_divide 12 = .ok (.ineg, 1) := by decide +kernel
theorem dX4_divide_13 : decode cX4_divide 13 = .ok (.goto 6, 3) := by decide +kernel
theorem dX4_divide_16 : decode cX4_divide 16 = .ok (.iload_n 0, 1) := by decide +kernel
theorem dX4_divide_17 : decode cX4_divide 17 = .ok (.iload_n 1, 1) := by decide +kernel
theorem dX4_divide_18 : decode cX4_divide 18 = .ok (.idiv, 1) := by decide +kernel
theorem dX4_divide_19 : decode cX4_divide 19 = .ok (.ireturn, 1) := by decide +kernel
theorem dX5_init_0 : decode cX5_init 0 = .ok (.aload_n 0, 1) := by decide +kernel
theorem dX5_init_1 : decode cX5_init 1 = .ok (.invokespecial 3, 3) := by decide +kernel
theorem dX5_init_4 : decode cX5_init 4 = .ok (.aload_n 0, 1) := by decide +kernel
theorem dX5_init_5 : decode cX5_init 5 = .ok (.bipush 17, 2) := by decide +kernel
theorem dX5_init_7 : decode cX5_init 7 = .ok (.newarray .int, 2) := by decide +kernel
theorem dX5_init_9 : decode cX5_init 9 = .ok (.putfield 9, 3) := by decide +kernel
theorem dX5_init_12 : decode cX5_init 12 = .ok (.aload_n 0, 1) := by decide +kernel
theorem dX5_init_13 : decode cX5_init 13 = .ok (.bipush 100, 2) := by decide +kernel
theorem dX5_init_15 : decode cX5_init 15 = .ok (.newarray .int, 2) := by decide +kernel
theorem dX5_init_17 : decode cX5_init 17 = .ok (.putfield 15, 3) := by decide +kernel
theorem dX5_init_20 : decode cX5_init 20 = .ok (.aload_n 0, 1) := by decide +kernel
theorem dX5_init_21 : decode cX5_init 21 = .ok (.bipush 100, 2) := by decide +kernel
theorem dX5_init_23 : decode cX5_init 23 = .ok (.newarray .int, 2) := by decide +kernel
theorem dX5_init_25 : decode cX5_init 25 = .ok (.putfield 18, 3) := by decide +kernel
theorem dX5_init_28 : decode cX5_init 28 = .ok (.aload_n 0, 1) := by decide +kernel
theorem dX5_init_29 : decode cX5_init 29 = .ok (.bipush 100, 2) := by decide +kernel
theorem dX5_init_31 : decode cX5_init 31 = .ok (.newarray .int, 2) := by decide +kernel
theorem dX5_init_33 : decode cX5_init 33 = .ok (.putfield 21, 3) := by decide +kernel
theorem dX5_init_36 : decode cX5_init 36 = .ok (.aload_n 0, 1) := by decide +kernel
theorem dX5_init_37 : decode cX5_init 37 = .ok (.bipush 100, 2) := by decide +kernel
theorem dX5_init_39 : decode cX5_init 39 = .ok (.newarray .int, 2) := by decide +kernel
theorem dX5_init_41 : decode cX5_init 41 = .ok (.putfield 24, 3) := by decide +kernel
theorem dX5_init_44 : decode cX5_init 44 = .ok (.aload_n 0, 1) := by decide +kernel
theorem dX5_init_45 : decode cX5_init 45 = .ok (.bipush 16, 2) := by decide +kernel
theorem dX5_init_47 : decode cX5_init 47 = .ok (.newarray .int, 2) := by decide +kernel
theorem dX5_init_49 : decode cX5_init 49 = .ok (.putfield 27, 3) := by decide +kernel
theorem dX5_init_52 : decode cX5_init 52 = .ok (.aload_n 0, 1) := by decide +kernel
theorem dX5_init_53 : decode cX5_init 53 = .ok (.bipush 16, 2) := by decide +kernel
theorem dX5_init_55 : decode cX5_init 55 = .ok (.newarray .int, 2) := by decide +kernel
theorem dX5_init_57 : decode cX5_init 57 = .ok (.putfield 30, 3) := by decide +kernel
theorem dX5_init_60 : decode cX5_init 60 = .ok (.aload_n 0, 1) := by decide +kernel
theorem dX5_init_61 : decode cX5_init 61 = .ok (.bipush 16, 2) := by decide +kernel
theorem dX5_init_63 : decode cX5_init 63 = .ok (.newarray .int, 2) := by decide +kernel
theorem dX5_init_65 : decode cX5_init 65 = .ok (.putfield 33, 3) := by decide +kernel
theorem dX5_init_68 : decode cX5_init 68 = .ok (.aload_n 0, 1) := by decide +kernel
theorem dX5_init_69 : decode cX5_init 69 = .ok (.bipush 16, 2) := by decide +kernel
theorem dX5_init_71 : decode cX5_init 71 = .ok (.newarray .int, 2) := by decide +kernel
theorem dX5_init_73 : decode cX5_init 73 = .ok (.putfield 36, 3) := by decide +kernel
theorem dX5_init_76 : decode cX5_init 76 = .ok (.return_, 1) := by decide +kernel
theorem dX5_isVariable_0 : decode cX5_isVariable 0 = .ok (.iload_n 0, 1) := by decide +kernel
theorem dX5_isVariable_1 : decode cX5_isVariable 1 = .ok (.ifCond .lt 13, 3) := by decide +kernel
theorem dX5_isVariable_4 : decode cX5_isVariable 4 = .ok (.iload_n 0, 1) := by decide +kernel
theorem dX5_isVariable_5 : decode cX5_isVariable 5 = .ok (.bipush 10, 2) := by decide +kernel
theorem dX5_isVariable_7 : decode cX5_isVariable 7 = .ok (.if_icmp .ge 7, 3) := by decide +kernel
theorem dX5_isVariable_10 : decode cX5_isVariable 10 = .ok (.iconst 1, 1) := by decide +kernel
theorem dX5_isVariable_11 : decode cX5_isVariable 11 = .ok (.goto 4, 3) := by decide +kernel
theorem dX5_isVariable_14 : decode cX5_isVariable 14 = .ok (.iconst 0, 1) := by decide +kernel
theorem dX5_isVariable_15 : decode cX5_isVariable 15 = .ok (.ireturn, 1) := by decide +kernel
theorem dX5_isBlockNumber_0 : decode cX5_isBlockNumber 0 = .ok (.iload_n 0, 1) := by decide +kernel
theorem dX5_isBlockNumber_1 : decode cX5_isBlockNumber 1 = .ok (.ifCond .lt 13, 3) := by decide +kernel
theorem dX5_isBlockNumber_4 : decode cX5_isBlockNumber 4 = .ok (.iload_n 0, 1) := by decide +kernel
theorem dX5_isBlockNumber_5 : decode cX5_isBlockNumber 5 = .ok (.bipush 16, 2) := by decide +kernel
theorem dX5_isBlockNumber_7 : decode cX5_isBlockNumber 7 = .ok (.if_icmp .ge 7, 3) := by decide +kernel
theorem dX5_isBlockNumber_10 : decode cX5_isBlockNumber 10 = .ok (.iconst 1, 1) := by decide +kernel
theorem dX5_isBlockNumber_11 : decode cX5_isBlockNumber 11 = .ok (.goto 4, 3) := by decide +kernel
theorem dX5_isBlockNumber_14 : decode cX5_isBlockNumber 14 = .ok (.iconst 0, 1) := by decide +kernel
theorem dX5_isBlockNumber_15 : decode cX5_isBlockNumber 15 = .ok (.ireturn, 1) := by decide +kernel
theorem dX5_fits_0 : decode cX5_fits 0 = .ok (.iload_n 0, 1) := by decide +kernel
theorem dX5_fits_1 : decode cX5_fits 1 = .ok (.ifCond .lt 16, 3) := by decide +kernel
theorem dX5_fits_4 : decode cX5_fits 4 = .ok (.iload_n 0, 1) := by decide +kernel
theorem dX5_fits_5 : decode cX5_fits 5 = .ok (.bipush 14, 2) := by decide +kernel
theorem dX5_fits_7 : decode cX5_fits 7 = .ok (.if_icmp .gt 10, 3) := by decide +kernel
theorem dX5_fits_10 : decode cX5_fits 10 = .ok (.iload_n 1, 1) := by decide +kernel
theorem dX5_fits_11 : decode cX5_fits 11 = .ok (.invokestatic 39, 3) := by decide +kernel
theorem dX5_fits_14 : decode cX5_fits 14 = .ok (.ifCond .ne 5, 3) := by decide +kernel
theorem dX5_fits_17 : decode cX5_fits 17 = .ok (.iconst 0, 1) := by decide +kernel
theorem dX5_fits_18 : decode cX5_fits 18 = .ok (.ireturn, 1) := by decide +kernel
theorem dX5_fits_19 : decode cX5_fits 19 = .ok (.iload_n 0, 1) := by decide +kernel
theorem dX5_fits_20 : decode cX5_fits 20 = .ok (.lookupswitch 66 #[(0, 44), (1, 46), (2, 61), (14, 44)], 44) := by decide +kernel
theorem dX5_fits_64 : decode cX5_fits 64 = .ok (.iconst 1, 1) := by decide +kernel
theorem dX5_fits_65 : decode cX5_fits 65 = .ok (.ireturn, 1) := by decide +kernel
theorem dX5_fits_66 : decode cX5_fits 66 = .ok (.iload_n 2, 1) := by decide +kernel
theorem dX5_fits_67 : decode cX5_fits 67 = .ok (.ifCond .lt 12, 3) := by decide +kernel
theorem dX5_fits_70 : decode cX5_fits 70 = .ok (.iload_n 2, 1) := by decide +kernel
theorem dX5_fits_71 : decode cX5_fits 71 = .ok (.iconst 4, 1) := by decide +kernel
theorem dX5_fits_72 : decode cX5_fits 72 = .ok (.if_icmp .ge 7, 3) := by decide +kernel
theorem dX5_fits_75 : decode cX5_fits 75 = .ok (.iconst 1, 1) := by decide +kernel
theorem dX5_fits_76 : decode cX5_fits 76 = .ok (.goto 4, 3) := by decide +kernel
theorem dX5_fits_79 : decode cX5_fits 79 = .ok (.iconst 0, 1) := by decide +kernel
theorem dX5_fits_80 : decode cX5_fits 80 = .ok (.ireturn, 1) := by decide +kernel
theorem dX5_fits_81 : decode cX5_fits 81 = .ok (.iload_n 2, 1) := by decide +kernel
theorem dX5_fits_82 : decode cX5_fits 82 = .ok (.invokestatic 39, 3) := by decide +kernel
theorem dX5_fits_85 : decode cX5_fits 85 = .ok (.ireturn, 1) := by decide +kernel
theorem dX5_fits_86 : decode cX5_fits 86 = .ok (.iload_n 2, 1) := by decide +kernel
theorem dX5_fits_87 : decode cX5_fits 87 = .ok (.invokestatic 39, 3) := by decide +kernel
theorem dX5_fits_90 : decode cX5_fits 90 = .ok (.ifCond .eq 14, 3) := by decide +kernel
theorem dX5_fits_93 : decode cX5_fits 93 = .ok (.iload_n 3, 1) := by decide +kernel
theorem dX5_fits_94 : decode cX5_fits 94 = .ok (.invokestatic 39, 3) := by decide +kernel
theorem dX5_fits_97 : decode cX5_fits 97 = .ok (.ifCond .eq 7, 3) := by decide +kernel
theorem dX5_fits_100 : decode cX5_fits 100 = .ok (.iconst 1, 1) := by decide +kernel
theorem dX5_fits_101 : decode cX5_fits 101 = .ok (.goto 4, 3) := by decide +kernel
theorem dX5_fits_104 : decode cX5_fits 104 = .ok (.iconst 0, 1) := by decide +kernel
theorem dX5_fits_105 : decode cX5_fits 105 = .ok (.ireturn, 1) := by decide +kernel
theorem dX5_endFits_0 : decode cX5_endFits 0 = .ok (.iload_n 0, 1) := by decide +kernel
theorem dX5_endFits_1 : decode cX5_endFits 1 = .ok (.tableswitch 64 0 2 #[27, 32, 37], 27) := by decide +kernel
theorem dX5_endFits_28 : decode cX5_endFits 28 = .ok (.iload_n 1, 1) := by decide +kernel
theorem dX5_endFits_29 : decode cX5_endFits 29 = .ok (.invokestatic 39, 3) := by decide +kernel
theorem dX5_endFits_32 : decode cX5_endFits 32 = .ok (.ireturn, 1) := by decide +kernel
theorem dX5_endFits_33 : decode cX5_endFits 33 = .ok (.iload_n 2, 1) := by decide +kernel
theorem dX5_endFits_34 : decode cX5_endFits 34 = .ok (.invokestatic 43, 3) := by decide +kernel
theorem dX5_endFits_37 : decode cX5_endFits 37 = .ok (.ireturn, 1) := by decide +kernel
theorem dX5_endFits_38 : decode cX5_endFits 38 = .ok (.iload_n 1, 1) := by decide +kernel
theorem dX5_endFits_39 : decode cX5_endFits 39 = .ok (.invokestatic 39, 3) := by decide +kernel
theorem dX5_endFits_42 : decode cX5_endFits 42 = .ok (.ifCond .eq 21, 3) := by decide +kernel
theorem dX5_endFits_45 : decode cX5_endFits 45 = .ok (.iload_n 2, 1) := by decide +kernel
theorem dX5_endFits_46 : decode cX5_endFits 46 = .ok (.invokestatic 43, 3) := by decide +kernel
theorem dX5_endFits_49 : decode cX5_endFits 49 = .ok (.ifCond .eq 14, 3) := by decide +kernel
theorem dX5_endFits_52 : decode cX5_endFits 52 = .ok (.iload_n 3, 1) := by decide +kernel
theorem dX5_endFits_53 : decode cX5_endFits 53 = .ok (.invokestatic 43, 3) := by decide +kernel
theorem dX5_endFits_56 : decode cX5_endFits 56 = .ok (.ifCond .eq 7, 3) := by decide +kernel
theorem dX5_endFits_59 : decode cX5_endFits 59 = .ok (.iconst 1, 1) := by decide +kernel
theorem dX5_endFits_60 : decode cX5_endFits 60 = .ok (.goto 4, 3) := by decide +kernel
theorem dX5_endFits_63 : decode cX5_endFits 63 = .ok (.iconst 0, 1) := by decide +kernel
theorem dX5_endFits_64 : decode cX5_endFits 64 = .ok (.ireturn, 1) := by decide +kernel
theorem dX5_endFits_65 : decode cX5_endFits 65 = .ok (.iconst 0, 1) := by decide +kernel
theorem dX5_endFits_66 : decode cX5_endFits 66 = .ok (.ireturn, 1) := by decide +kernel
theorem dX5_has_0 : decode cX5_has 0 = .ok (.iload_n 1, 1) := by decide +kernel
theorem dX5_has_1 : decode cX5_has 1 = .ok (.ifCond .lt 15, 3) := by decide +kernel
theorem dX5_has_4 : decode cX5_has 4 = .ok (.iload_n 1, 1) := by decide +kernel
theorem dX5_has_5 : decode cX5_has 5 = .ok (.aload_n 0, 1) := by decide +kernel
theorem dX5_has_6 : decode cX5_has 6 = .ok (.getfield 46, 3) := by decide +kernel
theorem dX5_has_9 : decode cX5_has 9 = .ok (.if_icmp .ge 7, 3) := by decide +kernel
theorem dX5_has_12 : decode cX5_has 12 = .ok (.iconst 1, 1) := by decide +kernel
theorem dX5_has_13 : decode cX5_has 13 = .ok (.goto 4, 3) := by decide +kernel
theorem dX5_has_16 : decode cX5_has 16 = .ok (.iconst 0, 1) := by decide +kernel
theorem dX5_has_17 : decode cX5_has 17 = .ok (.ireturn, 1) := by decide +kernel
theorem dX5_instructions_0 : decode cX5_instructions 0 = .ok (.aload_n 0, 1) := by decide +kernel
theorem dX5_instructions_1 : decode cX5_instructions 1 = .ok (.getfield 9, 3) := by decide +kernel
theorem dX5_instructions_4 : decode cX5_instructions 4 = .ok (.bipush 16, 2) := by decide +kernel
theorem dX5_instructions_6 : decode cX5_instructions 6 = .ok (.iaload, 1) := by decide +kernel
theorem dX5_instructions_7 : decode cX5_instructions 7 = .ok (.ireturn, 1) := by decide +kernel
theorem dX5_insert_0 : decode cX5_insert 0 = .ok (.aload_n 0, 1) := by decide +kernel
theorem dX5_insert_1 : decode cX5_insert 1 = .ok (.getfield 9, 3) := by decide +kernel
theorem dX5_insert_4 : decode cX5_insert 4 = .ok (.iload_n 1, 1) := by decide +kernel
theorem dX5_insert_5 : decode cX5_insert 5 = .ok (.iconst 1, 1) := by decide +kernel
theorem dX5_insert_6 : decode cX5_insert 6 = .ok (.iadd, 1) := by decide +kernel
theorem dX5_insert_7 : decode cX5_insert 7 = .ok (.iaload, 1) := by decide +kernel
theorem dX5_insert_8 : decode cX5_insert 8 = .ok (.istore 6, 2) := by decide +kernel
theorem dX5_insert_10 : decode cX5_insert 10 = .ok (.aload_n 0, 1) := by decide +kernel
theorem dX5_insert_11 : decode cX5_insert 11 = .ok (.invokevirtual 50, 3) := by decide +kernel
theorem dX5_insert_14 : decode cX5_insert 14 = .ok (.iload 6, 2) := by decide +kernel
theorem dX5_insert_16 : decode cX5_insert 16 = .ok (.isub, 1) := by decide +kernel
theorem dX5_insert_17 : decode cX5_insert 17 = .ok (.istore 7, 2) := by decide +kernel
theorem dX5_insert_19 : decode cX5_insert 19 = .ok (.aload_n 0, 1) := by decide +kernel
theorem dX5_insert_20 : decode cX5_insert 20 = .ok (.getfield 15, 3) := by decide +kernel
theorem dX5_insert_23 : decode cX5_insert 23 = .ok (.iload 6, 2) := by decide +kernel
theorem dX5_insert_25 : decode cX5_insert 25 = .ok (.iload 7, 2) := by decide +kernel
theorem dX5_insert_27 : decode cX5_insert 27 = .ok (.iload_n 2, 1) := by decide +kernel
theorem dX5_insert_28 : decode cX5_insert 28 = .ok (.invokestatic 54, 3) := by decide +kernel
theorem dX5_insert_31 : decode cX5_insert 31 = .ok (.aload_n 0, 1) := by decide +kernel
theorem dX5_insert_32 : decode cX5_insert 32 = .ok (.getfield 18, 3) := by decide +kernel
theorem dX5_insert_35 : decode cX5_insert 35 = .ok (.iload 6, 2) := by decide +kernel
theorem dX5_insert_37 : decode cX5_insert 37 = .ok (.iload 7, 2) := by decide +kernel
theorem dX5_insert_39 : decode cX5_insert 39 = .ok (.iload_n 3, 1) := by decide +kernel
theorem dX5_insert_40 : decode cX5_insert 40 = .ok (.invokestatic 54, 3) := by decide +kernel
theorem dX5_insert_43 : decode cX5_insert 43 = .ok (.aload_n 0, 1) := by decide +kernel
theorem dX5_insert_44 : decode cX5_insert 44 = .ok (.getfield 21, 3) := by decide +kernel
theorem dX5_insert_47 : decode cX5_insert 47 = .ok (.iload 6, 2) := by decide +kernel
theorem dX5_insert_49 : decode cX5_insert 49 = .ok (.iload 7, 2) := by decide +kernel
theorem dX5_insert_51 : decode cX5_insert 51 = .ok (.iload 4, 2) := by decide +kernel
theorem dX5_insert_53 : decode cX5_insert 53 = .ok (.invokestatic 54, 3) := by decide +kernel
theorem dX5_insert_56 : decode cX5_insert 56 = .ok (.aload_n 0, 1) := by decide +kernel
theorem dX5_insert_57 : decode cX5_insert 57 = .ok (.getfield 24, 3) := by decide +kernel
theorem dX5_insert_60 : decode cX5_insert 60 = .ok (.iload 6, 2) := by decide +kernel
theorem dX5_insert_62 : decode cX5_insert 62 = .ok (.iload 7, 2) := by decide +kernel
theorem dX5_insert_64 : decode cX5_insert 64 = .ok (.iload 5, 2) := by decide +kernel
theorem dX5_insert_66 : decode cX5_insert 66 = .ok (.invokestatic 54, 3) := by decide +kernel
theorem dX5_insert_69 : decode cX5_insert 69 = .ok (.iload_n 1, 1) := by decide +kernel
theorem dX5_insert_70 : decode cX5_insert 70 = .ok (.iconst 1, 1) := by decide +kernel
theorem dX5_insert_71 : decode cX5_insert 71 = .ok (.iadd, 1) := by decide +kernel
theorem dX5_insert_72 : decode cX5_insert 72 = .ok (.istore 8, 2) := by decide +kernel
theorem dX5_insert_74 : decode cX5_insert 74 = .ok (.iload 8, 2) := by decide +kernel
theorem dX5_insert_76 : decode cX5_insert 76 = .ok (.bipush 16, 2) := by decide +kernel
theorem dX5_insert_78 : decode cX5_insert 78 = .ok (.if_icmp .gt 20, 3) := by decide +kernel
theorem dX5_insert_81 : decode cX5_insert 81 = .ok (.aload_n 0, 1) := by decide +kernel
theorem dX5_insert_82 : decode cX5_insert 82 = .ok (.getfield 9, 3) := by decide +kernel
theorem dX5_insert_85 : decode cX5_insert 85 = .ok (.iload 8, 2) := by decide +kernel
theorem dX5_insert_87 : decode cX5_insert 87 = .ok (.dup2, 1) := by decide +kernel
theorem dX5_insert_88 : decode cX5_insert 88 = .ok (.iaload, 1) := by decide +kernel
theorem dX5_insert_89 : decode cX5_insert 89 = .ok (.iconst 1, 1) := by decide +kernel
theorem dX5_insert_90 : decode cX5_insert 90 = .ok (.iadd, 1) := by decide +kernel
theorem dX5_insert_91 : decode cX5_insert 91 = .ok (.iastore, 1) := by decide +kernel
theorem dX5_insert_92 : decode cX5_insert 92 = .ok (.iinc 8 1, 3) := by decide +kernel
theorem dX5_insert_95 : decode cX5_insert 95 = .ok (.goto (-21), 3) := by decide +kernel
theorem dX5_insert_98 : decode cX5_insert 98 = .ok (.return_, 1) := by decide +kernel
theorem dX5_insertAt_0 : decode cX5_insertAt 0 = .ok (.aload_n 0, 1) := by decide +kernel
theorem dX5_insertAt_1 : decode cX5_insertAt 1 = .ok (.iload_n 1, 1) := by decide +kernel
theorem dX5_insertAt_2 : decode cX5_insertAt 2 = .ok (.aload_n 0, 1) := by decide +kernel
theorem dX5_insertAt_3 : decode cX5_insertAt 3 = .ok (.iload_n 1, 1) := by decide +kernel
theorem dX5_insertAt_4 : decode cX5_insertAt 4 = .ok (.iconst 1, 1) := by decide +kernel
theorem dX5_insertAt_5 : decode cX5_insertAt 5 = .ok (.iadd, 1) := by decide +kernel
theorem dX5_insertAt_6 : decode cX5_insertAt 6 = .ok (.iload_n 2, 1) := by decide +kernel
theorem dX5_insertAt_7 : decode cX5_insertAt 7 = .ok (.invokestatic 58, 3) := by decide +kernel
theorem dX5_insertAt_10 : decode cX5_insertAt 10 = .ok (.aload_n 0, 1) := by decide +kernel
theorem dX5_insertAt_11 : decode cX5_insertAt 11 = .ok (.iload_n 1, 1) := by decide +kernel
theorem dX5_insertAt_12 : decode cX5_insertAt 12 = .ok (.iload_n 3, 1) := by decide +kernel
theorem dX5_insertAt_13 : decode cX5_insertAt 13 = .ok (.iastore, 1) := by decide +kernel
theorem dX5_insertAt_14 : decode cX5_insertAt 14 = .ok (.return_, 1) := by decide +kernel
theorem dX5_setEnd_0 : decode cX5_setEnd 0 = .ok (.aload_n 0, 1) := by decide +kernel
theorem dX5_setEnd_1 : decode cX5_setEnd 1 = .ok (.getfield 27, 3) := by decide +kernel
theorem dX5_setEnd_4 : decode cX5_setEnd 4 = .ok (.iload_n 1, 1) := by decide +kernel
theorem dX5_setEnd_5 : decode cX5_setEnd 5 = .ok (.iload_n 2, 1) := by decide +kernel
theorem dX5_setEnd_6 : decode cX5_setEnd 6 = .ok (.iastore, 1) := by decide +kernel
theorem dX5_setEnd_7 : decode cX5_setEnd 7 = .ok (.aload_n 0, 1) := by decide +kernel
theorem dX5_setEnd_8 : decode cX5_setEnd 8 = .ok (.getfield 30, 3) := by decide +kernel
theorem dX5_setEnd_11 : decode cX5_setEnd 11 = .ok (.iload_n 1, 1) := by decide +kernel
theorem dX5_setEnd_12 : decode cX5_setEnd 12 = .ok (.iload_n 2, 1) := by decide +kernel
theorem dX5_setEnd_13 : decode cX5_setEnd 13 = .ok (.iconst 1, 1) := by decide +kernel
theorem dX5_setEnd_14 : decode cX5_setEnd 14 = .ok (.if_icmp .ne 7, 3) := by decide +kernel
theorem dX5_setEnd_17 : decode cX5_setEnd 17 = .ok (.iconst 0, 1) := by decide +kernel
theorem dX5_setEnd_18 : decode cX5_setEnd 18 = .ok (.goto 4, 3) := by decide +kernel
theorem dX5_setEnd_21 : decode cX5_setEnd 21 = .ok (.iload_n 3, 1) := by decide +kernel
theorem dX5_setEnd_22 : decode cX5_setEnd 22 = .ok (.iastore, 1) := by decide +kernel
theorem dX5_setEnd_23 : decode cX5_setEnd 23 = .ok (.aload_n 0, 1) := by decide +kernel
theorem dX5_setEnd_24 : decode cX5_setEnd 24 = .ok (.getfield 33, 3) := by decide +kernel
theorem dX5_setEnd_27 : decode cX5_setEnd 27 = .ok (.iload_n 1, 1) := by decide +kernel
theorem dX5_setEnd_28 : decode cX5_setEnd 28 = .ok (.iload_n 2, 1) := by decide +kernel
theorem dX5_setEnd_29 : decode cX5_setEnd 29 = .ok (.ifCond .ne 7, 3) := by decide +kernel
theorem dX5_setEnd_32 : decode cX5_setEnd 32 = .ok (.iconst 0, 1) := by decide +kernel
theorem dX5_setEnd_33 : decode cX5_setEnd 33 = .ok (.goto 5, 3) := by decide +kernel
theorem dX5_setEnd_36 : decode cX5_setEnd 36 = .ok (.iload 4, 2) := by decide +kernel
theorem dX5_setEnd_38 : decode cX5_setEnd 38 = .ok (.iastore, 1) := by decide +kernel
theorem dX5_setEnd_39 : decode cX5_setEnd 39 = .ok (.aload_n 0, 1) := by decide +kernel
theorem dX5_setEnd_40 : decode cX5_setEnd 40 = .ok (.getfield 36, 3) := by decide +kernel
theorem dX5_setEnd_43 : decode cX5_setEnd 43 = .ok (.iload_n 1, 1) := by decide +kernel
theorem dX5_setEnd_44 : decode cX5_setEnd 44 = .ok (.iload_n 2, 1) := by decide +kernel
theorem dX5_setEnd_45 : decode cX5_setEnd 45 = .ok (.iconst 2, 1) := by decide +kernel
theorem dX5_setEnd_46 : decode cX5_setEnd 46 = .ok (.if_icmp .ne 8, 3) := by decide +kernel
theorem dX5_setEnd_49 : decode cX5_setEnd 49 = .ok (.iload 5, 2) := by decide +kernel
theorem dX5_setEnd_51 : decode cX5_setEnd 51 = .ok (.goto 9, 3) := by decide +kernel
theorem dX5_setEnd_54 : decode cX5_setEnd 54 = .ok (.aload_n 0, 1) := by decide +kernel
theorem dX5_setEnd_55 : decode cX5_setEnd 55 = .ok (.getfield 33, 3) := by decide +kernel
theorem dX5_setEnd_58 : decode cX5_setEnd 58 = .ok (.iload_n 1, 1) := by decide +kernel
theorem dX5_setEnd_59 : decode cX5_setEnd 59 = .ok (.iaload, 1) := by decide +kernel
theorem dX5_setEnd_60 : decode cX5_setEnd 60 = .ok (.iastore, 1) := by decide +kernel
theorem dX5_setEnd_61 : decode cX5_setEnd 61 = .ok (.return_, 1) := by decide +kernel
theorem dX5_forget_0 : decode cX5_forget 0 = .ok (.aload_n 0, 1) := by decide +kernel
theorem dX5_forget_1 : decode cX5_forget 1 = .ok (.iconst 0, 1) := by decide +kernel
theorem dX5_forget_2 : decode cX5_forget 2 = .ok (.putfield 46, 3) := by decide +kernel
theorem dX5_forget_5 : decode cX5_forget 5 = .ok (.aload_n 0, 1) := by decide +kernel
theorem dX5_forget_6 : decode cX5_forget 6 = .ok (.getfield 9, 3) := by decide +kernel
theorem dX5_forget_9 : decode cX5_forget 9 = .ok (.iconst 0, 1) := by decide +kernel
theorem dX5_forget_10 : decode cX5_forget 10 = .ok (.invokestatic 64, 3) := by decide +kernel
theorem dX5_forget_13 : decode cX5_forget 13 = .ok (.aload_n 0, 1) := by decide +kernel
theorem dX5_forget_14 : decode cX5_forget 14 = .ok (.getfield 27, 3) := by decide +kernel
theorem dX5_forget_17 : decode cX5_forget 17 = .ok (.iconst 0, 1) := by decide +kernel
theorem dX5_forget_18 : decode cX5_forget 18 = .ok (.invokestatic 64, 3) := by decide +kernel
theorem dX5_forget_21 : decode cX5_forget 21 = .ok (.aload_n 0, 1) := by decide +kernel
theorem dX5_forget_22 : decode cX5_forget 22 = .ok (.getfield 30, 3) := by decide +kernel
theorem dX5_forget_25 : decode cX5_forget 25 = .ok (.iconst 0, 1) := by decide +kernel
theorem dX5_forget_26 : decode cX5_forget 26 = .ok (.invokestatic 64, 3) := by decide +kernel
theorem dX5_forget_29 : decode cX5_forget 29 = .ok (.return_, 1) := by decide +kernel
theorem dX5_endCounts_0 : decode cX5_endCounts 0 = .ok (.aload_n 0, 1) := by decide +kernel
theorem dX5_endCounts_1 : decode cX5_endCounts 1 = .ok (.getfield 27, 3) := by decide +kernel
theorem dX5_endCounts_4 : decode cX5_endCounts 4 = .ok (.iload_n 1, 1) := by decide +kernel
theorem dX5_endCounts_5 : decode cX5_endCounts 5 = .ok (.iaload, 1) := by decide +kernel
theorem dX5_endCounts_6 : decode cX5_endCounts 6 = .ok (.ifCond .eq 29, 3) := by decide +kernel
theorem dX5_endCounts_9 : decode cX5_endCounts 9 = .ok (.aload_n 0, 1) := by decide +kernel
theorem dX5_endCounts_10 : decode cX5_endCounts 10 = .ok (.aload_n 0, 1) := by decide +kernel
theorem dX5_endCounts_11 : decode cX5_endCounts 11 = .ok (.getfield 33, 3) := by decide +kernel
theorem dX5_endCounts_14 : decode cX5_endCounts 14 = .ok (.iload_n 1, 1) := by decide +kernel
theorem dX5_endCounts_15 : decode cX5_endCounts 15 = .ok (.iaload, 1) := by decide +kernel
theorem dX5_endCounts_16 : decode cX5_endCounts 16 = .ok (.invokevirtual 70, 3) := by decide +kernel
theorem dX5_endCounts_19 : decode cX5_endCounts 19 = .ok (.ifCond .eq 20, 3) := by decide +kernel
theorem dX5_endCounts_22 : decode cX5_endCounts 22 = .ok (.aload_n 0, 1) := by decide +kernel
theorem dX5_endCounts_23 : decode cX5_endCounts 23 = .ok (.aload_n 0, 1) := by decide +kernel
theorem dX5_endCounts_24 : decode cX5_endCounts 24 = .ok (.getfield 36, 3) := by decide +kernel
theorem dX5_endCounts_27 : decode cX5_endCounts 27 = .ok (.iload_n 1, 1) := by decide +kernel
theorem dX5_endCounts_28 : decode cX5_endCounts 28 = .ok (.iaload, 1) := by decide +kernel
theorem dX5_endCounts_29 : decode cX5_endCounts 29 = .ok (.invokevirtual 70, 3) := by decide +kernel
theorem dX5_endCounts_32 : decode cX5_endCounts 32 = .ok (.ifCond .eq 7, 3) := by decide +kernel
theorem dX5_endCounts_35 : decode cX5_endCounts 35 = .ok (.iconst 1, 1) := by decide +kernel
theorem dX5_endCounts_36 : decode cX5_endCounts 36 = .ok (.goto 4, 3) := by decide +kernel
theorem dX5_endCounts_39 : decode cX5_endCounts 39 = .ok (.iconst 0, 1) := by decide +kernel
theorem dX5_endCounts_40 : decode cX5_endCounts 40 = .ok (.ireturn, 1) := by decide +kernel
theorem dX5_howCounts_0 : decode cX5_howCounts 0 = .ok (.aload_n 0, 1) := by decide +kernel
theorem dX5_howCounts_1 : decode cX5_howCounts 1 = .ok (.iload_n 1, 1) := by decide +kernel
theorem dX5_howCounts_2 : decode cX5_howCounts 2 = .ok (.invokevirtual 73, 3) := by decide +kernel
theorem dX5_howCounts_5 : decode cX5_howCounts 5 = .ok (.ifCond .eq 12, 3) := by decide +kernel
theorem dX5_howCounts_8 : decode cX5_howCounts 8 = .ok (.aload_n 0, 1) := by decide +kernel
theorem dX5_howCounts_9 : decode cX5_howCounts 9 = .ok (.getfield 27, 3) := by decide +kernel
theorem dX5_howCounts_12 : decode cX5_howCounts 12 = .ok (.iload_n 1, 1) := by decide +kernel
theorem dX5_howCounts_13 : decode cX5_howCounts 13 = .ok (.iaload, 1) := by decide +kernel
theorem dX5_howCounts_14 : decode cX5_howCounts 14 = .ok (.goto 4, 3) := by decide +kernel
theorem dX5_howCounts_17 : decode cX5_howCounts 17 = .ok (.iconst 0, 1) := by decide +kernel
theorem dX5_howCounts_18 : decode cX5_howCounts 18 = .ok (.ireturn, 1) := by decide +kernel
theorem dX5_endVariable_0 : decode cX5_endVariable 0 = .ok (.aload_n 0, 1) := by decide +kernel
theorem dX5_endVariable_1 : decode cX5_endVariable 1 = .ok (.iload_n 1, 1) := by decide +kernel
theorem dX5_endVariable_2 : decode cX5_endVariable 2 = .ok (.invokevirtual 73, 3) := by decide +kernel
theorem dX5_endVariable_5 : decode cX5_endVariable 5 = .ok (.ifCond .eq 12, 3) := by decide +kernel
theorem dX5_endVariable_8 : decode cX5_endVariable 8 = .ok (.aload_n 0, 1) := by decide +kernel
theorem dX5_endVariable_9 : decode cX5_endVariable 9 = .ok (.getfield 30, 3) := by decide +kernel
theorem dX5_endVariable_12 : decode cX5_endVariable 12 = .ok (.iload_n 1, 1) := by decide +kernel
theorem dX5_endVariable_13 : decode cX5_endVariable 13 = .ok (.iaload, 1) := by decide +kernel
theorem dX5_endVariable_14 : decode cX5_endVariable 14 = .ok (.goto 4, 3) := by decide +kernel
theorem dX5_endVariable_17 : decode cX5_endVariable 17 = .ok (.iconst 0, 1) := by decide +kernel
theorem dX5_endVariable_18 : decode cX5_endVariable 18 = .ok (.ireturn, 1) := by decide +kernel
theorem dX5_next_0 : decode cX5_next 0 = .ok (.iload_n 2, 1) := by decide +kernel
theorem dX5_next_1 : decode cX5_next 1 = .ok (.ifCond .eq 12, 3) := by decide +kernel
theorem dX5_next_4 : decode cX5_next 4 = .ok (.aload_n 0, 1) := by decide +kernel
theorem dX5_next_5 : decode cX5_next 5 = .ok (.getfield 33, 3) := by decide +kernel
theorem dX5_next_8 : decode cX5_next 8 = .ok (.iload_n 1, 1) := by decide +kernel
theorem dX5_next_9 : decode cX5_next 9 = .ok (.iaload, 1) := by decide +kernel
theorem dX5_next_10 : decode cX5_next 10 = .ok (.goto 9, 3) := by decide +kernel
theorem dX5_next_13 : decode cX5_next 13 = .ok (.aload_n 0, 1) := by decide +kernel
theorem dX5_next_14 : decode cX5_next 14 = .ok (.getfield 36, 3) := by decide +kernel
theorem dX5_next_17 : decode cX5_next 17 = .ok (.iload_n 1, 1) := by decide +kernel
theorem dX5_next_18 : decode cX5_next 18 = .ok (.iaload, 1) := by decide +kernel
theorem dX5_next_19 : decode cX5_next 19 = .ok (.ireturn, 1) := by decide +kernel
theorem dX5_toldBlocks_0 : decode cX5_toldBlocks 0 = .ok (.aload_n 0, 1) := by decide +kernel
theorem dX5_toldBlocks_1 : decode cX5_toldBlocks 1 = .ok (.iload_n 1, 1) := by decide +kernel
theorem dX5_toldBlocks_2 : decode cX5_toldBlocks 2 = .ok (.invokevirtual 76, 3) := by decide +kernel
theorem dX5_toldBlocks_5 : decode cX5_toldBlocks 5 = .ok (.ifCond .ne 7, 3) := by decide +kernel
theorem dX5_toldBlocks_8 : decode cX5_toldBlocks 8 = .ok (.iconst 0, 1) := by decide +kernel
theorem dX5_toldBlocks_9 : decode cX5_toldBlocks 9 = .ok (.goto 20, 3) := by decide +kernel
theorem dX5_toldBlocks_12 : decode cX5_toldBlocks 12 = .ok (.iconst 1, 1) := by decide +kernel
theorem dX5_toldBlocks_13 : decode cX5_toldBlocks 13 = .ok (.aload_n 0, 1) := by decide +kernel
theorem dX5_toldBlocks_14 : decode cX5_toldBlocks 14 = .ok (.getfield 33, 3) := by decide +kernel
theorem dX5_toldBlocks_17 : decode cX5_toldBlocks 17 = .ok (.iload_n 1, 1) := by decide +kernel
theorem dX5_toldBlocks_18 : decode cX5_toldBlocks 18 = .ok (.iaload, 1) := by decide +kernel
theorem dX5_toldBlocks_19 : decode cX5_toldBlocks 19 = .ok (.ishl, 1) := by decide +kernel
theorem dX5_toldBlocks_20 : decode cX5_toldBlocks 20 = .ok (.iconst 1, 1) := by decide +kernel
theorem dX5_toldBlocks_21 : decode cX5_toldBlocks 21 = .ok (.aload_n 0, 1) := by decide +kernel
theorem dX5_toldBlocks_22 : decode cX5_toldBlocks 22 = .ok (.getfield 36, 3) := by decide +kernel
theorem dX5_toldBlocks_25 : decode cX5_toldBlocks 25 = .ok (.iload_n 1, 1) := by decide +kernel
theorem dX5_toldBlocks_26 : decode cX5_toldBlocks 26 = .ok (.iaload, 1) := by decide +kernel
theorem dX5_toldBlocks_27 : decode cX5_toldBlocks 27 = .ok (.ishl, 1) := by decide +kernel
theorem dX5_toldBlocks_28 : decode cX5_toldBlocks 28 = .ok (.ior, 1) := by decide +kernel
theorem dX5_toldBlocks_29 : decode cX5_toldBlocks 29 = .ok (.ireturn, 1) := by decide +kernel
theorem dX5_nthEmit_0 : decode cX5_nthEmit 0 = .ok (.iconst 0, 1) := by decide +kernel
theorem dX5_nthEmit_1 : decode cX5_nthEmit 1 = .ok (.istore_n 3, 1) := by decide +kernel
theorem dX5_nthEmit_2 : decode cX5_nthEmit 2 = .ok (.aload_n 0, 1) := by decide +kernel
theorem dX5_nthEmit_3 : decode cX5_nthEmit 3 = .ok (.getfield 9, 3) := by decide +kernel
theorem dX5_nthEmit_6 : decode cX5_nthEmit 6 = .ok (.iload_n 1, 1) := by decide +kernel
theorem dX5_nthEmit_7 : decode cX5_nthEmit 7 = .ok (.iaload, 1) := by decide +kernel
theorem dX5_nthEmit_8 : decode cX5_nthEmit 8 = .ok (.istore 4, 2) := by decide +kernel
theorem dX5_nthEmit_10 : decode cX5_nthEmit 10 = .ok (.iload 4, 2) := by decide +kernel
theorem dX5_nthEmit_12 : decode cX5_nthEmit 12 = .ok (.aload_n 0, 1) := by decide +kernel
theorem dX5_nthEmit_13 : decode cX5_nthEmit 13 = .ok (.getfield 9, 3) := by decide +kernel
theorem dX5_nthEmit_16 : decode cX5_nthEmit 16 = .ok (.iload_n 1, 1) := by decide +kernel
theorem dX5_nthEmit_17 : decode cX5_nthEmit 17 = .ok (.iconst 1, 1) := by decide +kernel
theorem dX5_nthEmit_18 : decode cX5_nthEmit 18 = .ok (.iadd, 1) := by decide +kernel
theorem dX5_nthEmit_19 : decode cX5_nthEmit 19 = .ok (.iaload, 1) := by decide +kernel
theorem dX5_nthEmit_20 : decode cX5_nthEmit 20 = .ok (.if_icmp .ge 32, 3) := by decide +kernel
theorem dX5_nthEmit_23 : decode cX5_nthEmit 23 = .ok (.aload_n 0, 1) := by decide +kernel
theorem dX5_nthEmit_24 : decode cX5_nthEmit 24 = .ok (.getfield 15, 3) := by decide +kernel
theorem dX5_nthEmit_27 : decode cX5_nthEmit 27 = .ok (.iload 4, 2) := by decide +kernel
theorem dX5_nthEmit_29 : decode cX5_nthEmit 29 = .ok (.iaload, 1) := by decide +kernel
theorem dX5_nthEmit_30 : decode cX5_nthEmit 30 = .ok (.bipush 14, 2) := by decide +kernel
theorem dX5_nthEmit_32 : decode cX5_nthEmit 32 = .ok (.if_icmp .ne 14, 3) := by decide +kernel
theorem dX5_nthEmit_35 : decode cX5_nthEmit 35 = .ok (.iload_n 3, 1) := by decide +kernel
theorem dX5_nthEmit_36 : decode cX5_nthEmit 36 = .ok (.iload_n 2, 1) := by decide +kernel
theorem dX5_nthEmit_37 : decode cX5_nthEmit 37 = .ok (.if_icmp .ne 6, 3) := by decide +kernel
theorem dX5_nthEmit_40 : decode cX5_nthEmit 40 = .ok (.iload 4, 2) := by decide +kernel
theorem dX5_nthEmit_42 : decode cX5_nthEmit 42 = .ok (.ireturn, 1) := by decide +kernel
theorem dX5_nthEmit_43 : decode cX5_nthEmit 43 = .ok (.iinc 3 1, 3) := by decide +kernel
theorem dX5_nthEmit_46 : decode cX5_nthEmit 46 = .ok (.iinc 4 1, 3) := by decide +kernel
theorem dX5_nthEmit_49 : decode cX5_nthEmit 49 = .ok (.goto (-39), 3) := by decide +kernel
theorem dX5_nthEmit_52 : decode cX5_nthEmit 52 = .ok (.iconst (-1), 1) := by decide +kernel
theorem dX5_nthEmit_53 : decode cX5_nthEmit 53 = .ok (.ireturn, 1) := by decide +kernel
theorem dX6_init_0 : decode cX6_init 0 = .ok (.aload_n 0, 1) := by decide +kernel
theorem dX6_init_1 : decode cX6_init 1 = .ok (.invokespecial 3, 3) := by decide +kernel
theorem dX6_init_4 : decode cX6_init 4 = .ok (.aload_n 0, 1) := by decide +kernel
theorem dX6_init_5 : decode cX6_init 5 = .ok (.sipush 530, 3) := by decide +kernel
theorem dX6_init_8 : decode cX6_init 8 = .ok (.newarray .int, 2) := by decide +kernel
theorem dX6_init_10 : decode cX6_init 10 = .ok (.putfield 9, 3) := by decide +kernel
theorem dX6_init_13 : decode cX6_init 13 = .ok (.aload_n 0, 1) := by decide +kernel
theorem dX6_init_14 : decode cX6_init 14 = .ok (.bipush 100, 2) := by decide +kernel
theorem dX6_init_16 : decode cX6_init 16 = .ok (.newarray .int, 2) := by decide +kernel
theorem dX6_init_18 : decode cX6_init 18 = .ok (.putfield 15, 3) := by decide +kernel
theorem dX6_init_21 : decode cX6_init 21 = .ok (.aload_n 0, 1) := by decide +kernel
theorem dX6_init_22 : decode cX6_init 22 = .ok (.bipush 16, 2) := by decide +kernel
theorem dX6_init_24 : decode cX6_init 24 = .ok (.newarray .int, 2) := by decide +kernel
theorem dX6_init_26 : decode cX6_init 26 = .ok (.putfield 18, 3) := by decide +kernel
theorem dX6_init_29 : decode cX6_init 29 = .ok (.return_, 1) := by decide +kernel
theorem dX7_init_0 : decode cX7_init 0 = .ok (.aload_n 0, 1) := by decide +kernel
theorem dX7_init_1 : decode cX7_init 1 = .ok (.bipush 10, 2) := by decide +kernel
theorem dX7_init_3 : decode cX7_init 3 = .ok (.invokespecial 3, 3) := by decide +kernel
theorem dX7_init_6 : decode cX7_init 6 = .ok (.aload_n 0, 1) := by decide +kernel
theorem dX7_init_7 : decode cX7_init 7 = .ok (.aload_n 1, 1) := by decide +kernel
theorem dX7_init_8 : decode cX7_init 8 = .ok (.putfield 9, 3) := by decide +kernel
theorem dX7_init_11 : decode cX7_init 11 = .ok (.return_, 1) := by decide +kernel
theorem dX7_begin_0 : decode cX7_begin 0 = .ok (.iload_n 1, 1) := by decide +kernel
