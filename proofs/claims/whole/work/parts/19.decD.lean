theorem dX11_classes_16 : decode cX11_classes 16 = .ok (.iastore, 1) := by decide +kernel
theorem dX11_classes_17 : decode cX11_classes 17 = .ok (.iload_n 1, 1) := by decide +kernel
theorem dX11_classes_18 : decode cX11_classes 18 = .ok (.iconst 1, 1) := by decide +kernel
theorem dX11_classes_19 : decode cX11_classes 19 = .ok (.isub, 1) := by decide +kernel
theorem dX11_classes_20 : decode cX11_classes 20 = .ok (.istore_n 2, 1) := by decide +kernel
theorem dX11_classes_21 : decode cX11_classes 21 = .ok (.iload_n 2, 1) := by decide +kernel
theorem dX11_classes_22 : decode cX11_classes 22 = .ok (.ifCond .lt 25, 3) := by decide +kernel
theorem dX11_classes_25 : decode cX11_classes 25 = .ok (.aload_n 0, 1) := by decide +kernel
theorem dX11_classes_26 : decode cX11_classes 26 = .ok (.iload_n 2, 1) := by decide +kernel
theorem dX11_classes_27 : decode cX11_classes 27 = .ok (.iload_n 1, 1) := by decide +kernel
theorem dX11_classes_28 : decode cX11_classes 28 = .ok (.invokevirtual 173, 3) := by decide +kernel
theorem dX11_classes_31 : decode cX11_classes 31 = .ok (.ifCond .eq 10, 3) := by decide +kernel
theorem dX11_classes_34 : decode cX11_classes 34 = .ok (.aload_n 0, 1) := by decide +kernel
theorem dX11_classes_35 : decode cX11_classes 35 = .ok (.getfield 92, 3) := by decide +kernel
theorem dX11_classes_38 : decode cX11_classes 38 = .ok (.iload_n 1, 1) := by decide +kernel
theorem dX11_classes_39 : decode cX11_classes 39 = .ok (.iload_n 2, 1) := by decide +kernel
theorem dX11_classes_40 : decode cX11_classes 40 = .ok (.iastore, 1) := by decide +kernel
theorem dX11_classes_41 : decode cX11_classes 41 = .ok (.iinc 2 (-1), 3) := by decide +kernel
theorem dX11_classes_44 : decode cX11_classes 44 = .ok (.goto (-23), 3) := by decide +kernel
theorem dX11_classes_47 : decode cX11_classes 47 = .ok (.iinc 1 1, 3) := by decide +kernel
theorem dX11_classes_50 : decode cX11_classes 50 = .ok (.goto (-48), 3) := by decide +kernel
theorem dX11_classes_53 : decode cX11_classes 53 = .ok (.iconst 1, 1) := by decide +kernel
theorem dX11_classes_54 : decode cX11_classes 54 = .ok (.istore_n 1, 1) := by decide +kernel
theorem dX11_classes_55 : decode cX11_classes 55 = .ok (.iload_n 1, 1) := by decide +kernel
theorem dX11_classes_56 : decode cX11_classes 56 = .ok (.ifCond .eq 129, 3) := by decide +kernel
theorem dX11_classes_59 : decode cX11_classes 59 = .ok (.iconst 0, 1) := by decide +kernel
theorem dX11_classes_60 : decode cX11_classes 60 = .ok (.istore_n 1, 1) := by decide +kernel
theorem dX11_classes_61 : decode cX11_classes 61 = .ok (.iconst 0, 1) := by decide +kernel
theorem dX11_classes_62 : decode cX11_classes 62 = .ok (.istore_n 2, 1) := by decide +kernel
theorem dX11_classes_63 : decode cX11_classes 63 = .ok (.iload_n 2, 1) := by decide +kernel
theorem dX11_classes_64 : decode cX11_classes 64 = .ok (.aload_n 0, 1) := by decide +kernel
theorem dX11_classes_65 : decode cX11_classes 65 = .ok (.getfield 155, 3) := by decide +kernel
theorem dX11_classes_68 : decode cX11_classes 68 = .ok (.if_icmp .ge 61, 3) := by decide +kernel
theorem dX11_classes_71 : decode cX11_classes 71 = .ok (.aload_n 0, 1) := by decide +kernel
theorem dX11_classes_72 : decode cX11_classes 72 = .ok (.getfield 95, 3) := by decide +kernel
theorem dX11_classes_75 : decode cX11_classes 75 = .ok (.iload_n 2, 1) := by decide +kernel
theorem dX11_classes_76 : decode cX11_classes 76 = .ok (.iload_n 2, 1) := by decide +kernel
theorem dX11_classes_77 : decode cX11_classes 77 = .ok (.iastore, 1) := by decide +kernel
theorem dX11_classes_78 : decode cX11_classes 78 = .ok (.iload_n 2, 1) := by decide +kernel
theorem dX11_classes_79 : decode cX11_classes 79 = .ok (.iconst 1, 1) := by decide +kernel
theorem dX11_classes_80 : decode cX11_classes 80 = .ok (.isub, 1) := by decide +kernel
theorem dX11_classes_81 : decode cX11_classes 81 = .ok (.istore_n 3, 1) := by decide +kernel
theorem dX11_classes_82 : decode cX11_classes 82 = .ok (.iload_n 3, 1) := by decide +kernel
theorem dX11_classes_83 : decode cX11_classes 83 = .ok (.ifCond .lt 40, 3) := by decide +kernel
theorem dX11_classes_86 : decode cX11_classes 86 = .ok (.aload_n 0, 1) := by decide +kernel
theorem dX11_classes_87 : decode cX11_classes 87 = .ok (.getfield 92, 3) := by decide +kernel
theorem dX11_classes_90 : decode cX11_classes 90 = .ok (.iload_n 3, 1) := by decide +kernel
theorem dX11_classes_91 : decode cX11_classes 91 = .ok (.iaload, 1) := by decide +kernel
theorem dX11_classes_92 : decode cX11_classes 92 = .ok (.aload_n 0, 1) := by decide +kernel
theorem dX11_classes_93 : decode cX11_classes 93 = .ok (.getfield 92, 3) := by decide +kernel
theorem dX11_classes_96 : decode cX11_classes 96 = .ok (.iload_n 2, 1) := by decide +kernel
theorem dX11_classes_97 : decode cX11_classes 97 = .ok (.iaload, 1) := by decide +kernel
theorem dX11_classes_98 : decode cX11_classes 98 = .ok (.if_icmp .ne 19, 3) := by decide +kernel
theorem dX11_classes_101 : decode cX11_classes 101 = .ok (.aload_n 0, 1) := by decide +kernel
theorem dX11_classes_102 : decode cX11_classes 102 = .ok (.iload_n 3, 1) := by decide +kernel
theorem dX11_classes_103 : decode cX11_classes 103 = .ok (.iload_n 2, 1) := by decide +kernel
theorem dX11_classes_104 : decode cX11_classes 104 = .ok (.invokevirtual 176, 3) := by decide +kernel
theorem dX11_classes_107 : decode cX11_classes 107 = .ok (.ifCond .eq 10, 3) := by decide +kernel
theorem dX11_classes_110 : decode cX11_classes 110 = .ok (.aload_n 0, 1) := by decide +kernel
theorem dX11_classes_111 : decode cX11_classes 111 = .ok (.getfield 95, 3) := by decide +kernel
theorem dX11_classes_114 : decode cX11_classes 114 = .ok (.iload_n 2, 1) := by decide +kernel
theorem dX11_classes_115 : decode cX11_classes 115 = .ok (.iload_n 3, 1) := by decide +kernel
theorem dX11_classes_116 : decode cX11_classes 116 = .ok (.iastore, 1) := by decide +kernel
theorem dX11_classes_117 : decode cX11_classes 117 = .ok (.iinc 3 (-1), 3) := by decide +kernel
theorem dX11_classes_120 : decode cX11_classes 120 = .ok (.goto (-38), 3) := by decide +kernel
theorem dX11_classes_123 : decode cX11_classes 123 = .ok (.iinc 2 1, 3) := by decide +kernel
theorem dX11_classes_126 : decode cX11_classes 126 = .ok (.goto (-63), 3) := by decide +kernel
theorem dX11_classes_129 : decode cX11_classes 129 = .ok (.iconst 0, 1) := by decide +kernel
theorem dX11_classes_130 : decode cX11_classes 130 = .ok (.istore_n 2, 1) := by decide +kernel
theorem dX11_classes_131 : decode cX11_classes 131 = .ok (.iload_n 2, 1) := by decide +kernel
theorem dX11_classes_132 : decode cX11_classes 132 = .ok (.aload_n 0, 1) := by decide +kernel
theorem dX11_classes_133 : decode cX11_classes 133 = .ok (.getfield 155, 3) := by decide +kernel
theorem dX11_classes_136 : decode cX11_classes 136 = .ok (.if_icmp .ge 46, 3) := by decide +kernel
theorem dX11_classes_139 : decode cX11_classes 139 = .ok (.iload_n 1, 1) := by decide +kernel
theorem dX11_classes_140 : decode cX11_classes 140 = .ok (.ifCond .ne 18, 3) := by decide +kernel
theorem dX11_classes_143 : decode cX11_classes 143 = .ok (.aload_n 0, 1) := by decide +kernel
theorem dX11_classes_144 : decode cX11_classes 144 = .ok (.getfield 95, 3) := by decide +kernel
theorem dX11_classes_147 : decode cX11_classes 147 = .ok (.iload_n 2, 1) := by decide +kernel
theorem dX11_classes_148 : decode cX11_classes 148 = .ok (.iaload, 1) := by decide +kernel
theorem dX11_classes_149 : decode cX11_classes 149 = .ok (.aload_n 0, 1) := by decide +kernel
theorem dX11_classes_150 : decode cX11_classes 150 = .ok (.getfield 92, 3) := by decide +kernel
theorem dX11_classes_153 : decode cX11_classes 153 = .ok (.iload_n 2, 1) := by decide +kernel
theorem dX11_classes_154 : decode cX11_classes 154 = .ok (.iaload, 1) := by decide +kernel
theorem dX11_classes_155 : decode cX11_classes 155 = .ok (.if_icmp .eq 7, 3) := by decide +kernel
theorem dX11_classes_158 : decode cX11_classes 158 = .ok (.iconst 1, 1) := by decide +kernel
theorem dX11_classes_159 : decode cX11_classes 159 = .ok (.goto 4, 3) := by decide +kernel
theorem dX11_classes_162 : decode cX11_classes 162 = .ok (.iconst 0, 1) := by decide +kernel
theorem dX11_classes_163 : decode cX11_classes 163 = .ok (.istore_n 1, 1) := by decide +kernel
theorem dX11_classes_164 : decode cX11_classes 164 = .ok (.aload_n 0, 1) := by decide +kernel
theorem dX11_classes_165 : decode cX11_classes 165 = .ok (.getfield 92, 3) := by decide +kernel
theorem dX11_classes_168 : decode cX11_classes 168 = .ok (.iload_n 2, 1) := by decide +kernel
theorem dX11_classes_169 : decode cX11_classes 169 = .ok (.aload_n 0, 1) := by decide +kernel
theorem dX11_classes_170 : decode cX11_classes 170 = .ok (.getfield 95, 3) := by decide +kernel
theorem dX11_classes_173 : decode cX11_classes 173 = .ok (.iload_n 2, 1) := by decide +kernel
theorem dX11_classes_174 : decode cX11_classes 174 = .ok (.iaload, 1) := by decide +kernel
theorem dX11_classes_175 : decode cX11_classes 175 = .ok (.iastore, 1) := by decide +kernel
theorem dX11_classes_176 : decode cX11_classes 176 = .ok (.iinc 2 1, 3) := by decide +kernel
theorem dX11_classes_179 : decode cX11_classes 179 = .ok (.goto (-48), 3) := by decide +kernel
theorem dX11_classes_182 : decode cX11_classes 182 = .ok (.goto (-127), 3) := by decide +kernel
theorem dX11_classes_185 : decode cX11_classes 185 = .ok (.return_, 1) := by decide +kernel
theorem dX11_isAhead_0 : decode cX11_isAhead 0 = .ok (.aload_n 0, 1) := by decide +kernel
theorem dX11_isAhead_1 : decode cX11_isAhead 1 = .ok (.getfield 59, 3) := by decide +kernel
theorem dX11_isAhead_4 : decode cX11_isAhead 4 = .ok (.iload_n 1, 1) := by decide +kernel
theorem dX11_isAhead_5 : decode cX11_isAhead 5 = .ok (.iaload, 1) := by decide +kernel
theorem dX11_isAhead_6 : decode cX11_isAhead 6 = .ok (.iload_n 2, 1) := by decide +kernel
theorem dX11_isAhead_7 : decode cX11_isAhead 7 = .ok (.if_icmp .ne 21, 3) := by decide +kernel
theorem dX11_isAhead_10 : decode cX11_isAhead 10 = .ok (.aload_n 0, 1) := by decide +kernel
theorem dX11_isAhead_11 : decode cX11_isAhead 11 = .ok (.getfield 68, 3) := by decide +kernel
theorem dX11_isAhead_14 : decode cX11_isAhead 14 = .ok (.iload_n 1, 1) := by decide +kernel
theorem dX11_isAhead_15 : decode cX11_isAhead 15 = .ok (.iaload, 1) := by decide +kernel
theorem dX11_isAhead_16 : decode cX11_isAhead 16 = .ok (.iload_n 3, 1) := by decide +kernel
theorem dX11_isAhead_17 : decode cX11_isAhead 17 = .ok (.if_icmp .ge 7, 3) := by decide +kernel
theorem dX11_isAhead_20 : decode cX11_isAhead 20 = .ok (.iconst 1, 1) := by decide +kernel
theorem dX11_isAhead_21 : decode cX11_isAhead 21 = .ok (.goto 18, 3) := by decide +kernel
theorem dX11_isAhead_24 : decode cX11_isAhead 24 = .ok (.iconst 0, 1) := by decide +kernel
theorem dX11_isAhead_25 : decode cX11_isAhead 25 = .ok (.goto 14, 3) := by decide +kernel
theorem dX11_isAhead_28 : decode cX11_isAhead 28 = .ok (.aload_n 0, 1) := by decide +kernel
theorem dX11_isAhead_29 : decode cX11_isAhead 29 = .ok (.aload_n 0, 1) := by decide +kernel
theorem dX11_isAhead_30 : decode cX11_isAhead 30 = .ok (.getfield 59, 3) := by decide +kernel
theorem dX11_isAhead_33 : decode cX11_isAhead 33 = .ok (.iload_n 1, 1) := by decide +kernel
theorem dX11_isAhead_34 : decode cX11_isAhead 34 = .ok (.iaload, 1) := by decide +kernel
theorem dX11_isAhead_35 : decode cX11_isAhead 35 = .ok (.iload_n 2, 1) := by decide +kernel
theorem dX11_isAhead_36 : decode cX11_isAhead 36 = .ok (.invokevirtual 149, 3) := by decide +kernel
theorem dX11_isAhead_39 : decode cX11_isAhead 39 = .ok (.ireturn, 1) := by decide +kernel
theorem dX11_redundant_0 : decode cX11_redundant 0 = .ok (.iconst 0, 1) := by decide +kernel
theorem dX11_redundant_1 : decode cX11_redundant 1 = .ok (.istore_n 1, 1) := by decide +kernel
theorem dX11_redundant_2 : decode cX11_redundant 2 = .ok (.iload_n 1, 1) := by decide +kernel
theorem dX11_redundant_3 : decode cX11_redundant 3 = .ok (.aload_n 0, 1) := by decide +kernel
theorem dX11_redundant_4 : decode cX11_redundant 4 = .ok (.getfield 155, 3) := by decide +kernel
theorem dX11_redundant_7 : decode cX11_redundant 7 = .ok (.if_icmp .ge 147, 3) := by decide +kernel
theorem dX11_redundant_10 : decode cX11_redundant 10 = .ok (.aload_n 0, 1) := by decide +kernel
theorem dX11_redundant_11 : decode cX11_redundant 11 = .ok (.getfield 98, 3) := by decide +kernel
theorem dX11_redundant_14 : decode cX11_redundant 14 = .ok (.iload_n 1, 1) := by decide +kernel
theorem dX11_redundant_15 : decode cX11_redundant 15 = .ok (.iconst 0, 1) := by decide +kernel
theorem dX11_redundant_16 : decode cX11_redundant 16 = .ok (.bastore, 1) := by decide +kernel
theorem dX11_redundant_17 : decode cX11_redundant 17 = .ok (.iconst 0, 1) := by decide +kernel
theorem dX11_redundant_18 : decode cX11_redundant 18 = .ok (.istore_n 2, 1) := by decide +kernel
theorem dX11_redundant_19 : decode cX11_redundant 19 = .ok (.iload_n 2, 1) := by decide +kernel
theorem dX11_redundant_20 : decode cX11_redundant 20 = .ok (.aload_n 0, 1) := by decide +kernel
theorem dX11_redundant_21 : decode cX11_redundant 21 = .ok (.getfield 155, 3) := by decide +kernel
theorem dX11_redundant_24 : decode cX11_redundant 24 = .ok (.if_icmp .ge 124, 3) := by decide +kernel
theorem dX11_redundant_27 : decode cX11_redundant 27 = .ok (.iload_n 2, 1) := by decide +kernel
theorem dX11_redundant_28 : decode cX11_redundant 28 = .ok (.iload_n 1, 1) := by decide +kernel
theorem dX11_redundant_29 : decode cX11_redundant 29 = .ok (.if_icmp .eq 113, 3) := by decide +kernel
theorem dX11_redundant_32 : decode cX11_redundant 32 = .ok (.aload_n 0, 1) := by decide +kernel
theorem dX11_redundant_33 : decode cX11_redundant 33 = .ok (.getfield 92, 3) := by decide +kernel
theorem dX11_redundant_36 : decode cX11_redundant 36 = .ok (.iload_n 2, 1) := by decide +kernel
theorem dX11_redundant_37 : decode cX11_redundant 37 = .ok (.iaload, 1) := by decide +kernel
theorem dX11_redundant_38 : decode cX11_redundant 38 = .ok (.aload_n 0, 1) := by decide +kernel
theorem dX11_redundant_39 : decode cX11_redundant 39 = .ok (.getfield 92, 3) := by decide +kernel
theorem dX11_redundant_42 : decode cX11_redundant 42 = .ok (.iload_n 1, 1) := by decide +kernel
theorem dX11_redundant_43 : decode cX11_redundant 43 = .ok (.iaload, 1) := by decide +kernel
theorem dX11_redundant_44 : decode cX11_redundant 44 = .ok (.if_icmp .eq 6, 3) := by decide +kernel
theorem dX11_redundant_47 : decode cX11_redundant 47 = .ok (.goto 95, 3) := by decide +kernel
theorem dX11_redundant_50 : decode cX11_redundant 50 = .ok (.aload_n 0, 1) := by decide +kernel
theorem dX11_redundant_51 : decode cX11_redundant 51 = .ok (.getfield 56, 3) := by decide +kernel
theorem dX11_redundant_54 : decode cX11_redundant 54 = .ok (.iload_n 2, 1) := by decide +kernel
theorem dX11_redundant_55 : decode cX11_redundant 55 = .ok (.iaload, 1) := by decide +kernel
theorem dX11_redundant_56 : decode cX11_redundant 56 = .ok (.bipush 15, 2) := by decide +kernel
theorem dX11_redundant_58 : decode cX11_redundant 58 = .ok (.if_icmp .ne 38, 3) := by decide +kernel
theorem dX11_redundant_61 : decode cX11_redundant 61 = .ok (.aload_n 0, 1) := by decide +kernel
theorem dX11_redundant_62 : decode cX11_redundant 62 = .ok (.getfield 56, 3) := by decide +kernel
theorem dX11_redundant_65 : decode cX11_redundant 65 = .ok (.iload_n 1, 1) := by decide +kernel
theorem dX11_redundant_66 : decode cX11_redundant 66 = .ok (.iaload, 1) := by decide +kernel
theorem dX11_redundant_67 : decode cX11_redundant 67 = .ok (.bipush 15, 2) := by decide +kernel
theorem dX11_redundant_69 : decode cX11_redundant 69 = .ok (.if_icmp .ne 27, 3) := by decide +kernel
theorem dX11_redundant_72 : decode cX11_redundant 72 = .ok (.aload_n 0, 1) := by decide +kernel
theorem dX11_redundant_73 : decode cX11_redundant 73 = .ok (.getfield 59, 3) := by decide +kernel
theorem dX11_redundant_76 : decode cX11_redundant 76 = .ok (.iload_n 2, 1) := by decide +kernel
theorem dX11_redundant_77 : decode cX11_redundant 77 = .ok (.iaload, 1) := by decide +kernel
theorem dX11_redundant_78 : decode cX11_redundant 78 = .ok (.aload_n 0, 1) := by decide +kernel
theorem dX11_redundant_79 : decode cX11_redundant 79 = .ok (.getfield 59, 3) := by decide +kernel
theorem dX11_redundant_82 : decode cX11_redundant 82 = .ok (.iload_n 1, 1) := by decide +kernel
theorem dX11_redundant_83 : decode cX11_redundant 83 = .ok (.iaload, 1) := by decide +kernel
theorem dX11_redundant_84 : decode cX11_redundant 84 = .ok (.if_icmp .ne 12, 3) := by decide +kernel
theorem dX11_redundant_87 : decode cX11_redundant 87 = .ok (.iload_n 2, 1) := by decide +kernel
theorem dX11_redundant_88 : decode cX11_redundant 88 = .ok (.iload_n 1, 1) := by decide +kernel
theorem dX11_redundant_89 : decode cX11_redundant 89 = .ok (.if_icmp .ge 7, 3) := by decide +kernel
theorem dX11_redundant_92 : decode cX11_redundant 92 = .ok (.iconst 1, 1) := by decide +kernel
theorem dX11_redundant_93 : decode cX11_redundant 93 = .ok (.goto 4, 3) := by decide +kernel
theorem dX11_redundant_96 : decode cX11_redundant 96 = .ok (.iconst 0, 1) := by decide +kernel
theorem dX11_redundant_97 : decode cX11_redundant 97 = .ok (.istore_n 3, 1) := by decide +kernel
theorem dX11_redundant_98 : decode cX11_redundant 98 = .ok (.aload_n 0, 1) := by decide +kernel
theorem dX11_redundant_99 : decode cX11_redundant 99 = .ok (.getfield 98, 3) := by decide +kernel
theorem dX11_redundant_102 : decode cX11_redundant 102 = .ok (.iload_n 1, 1) := by decide +kernel
theorem dX11_redundant_103 : decode cX11_redundant 103 = .ok (.aload_n 0, 1) := by decide +kernel
theorem dX11_redundant_104 : decode cX11_redundant 104 = .ok (.getfield 98, 3) := by decide +kernel
theorem dX11_redundant_107 : decode cX11_redundant 107 = .ok (.iload_n 1, 1) := by decide +kernel
theorem dX11_redundant_108 : decode cX11_redundant 108 = .ok (.baload, 1) := by decide +kernel
theorem dX11_redundant_109 : decode cX11_redundant 109 = .ok (.ifCond .ne 27, 3) := by decide +kernel
theorem dX11_redundant_112 : decode cX11_redundant 112 = .ok (.iload_n 3, 1) := by decide +kernel
theorem dX11_redundant_113 : decode cX11_redundant 113 = .ok (.ifCond .ne 23, 3) := by decide +kernel
theorem dX11_redundant_116 : decode cX11_redundant 116 = .ok (.aload_n 0, 1) := by decide +kernel
theorem dX11_redundant_117 : decode cX11_redundant 117 = .ok (.iload_n 2, 1) := by decide +kernel
theorem dX11_redundant_118 : decode cX11_redundant 118 = .ok (.aload_n 0, 1) := by decide +kernel
theorem dX11_redundant_119 : decode cX11_redundant 119 = .ok (.getfield 59, 3) := by decide +kernel
theorem dX11_redundant_122 : decode cX11_redundant 122 = .ok (.iload_n 1, 1) := by decide +kernel
theorem dX11_redundant_123 : decode cX11_redundant 123 = .ok (.iaload, 1) := by decide +kernel
theorem dX11_redundant_124 : decode cX11_redundant 124 = .ok (.aload_n 0, 1) := by decide +kernel
theorem dX11_redundant_125 : decode cX11_redundant 125 = .ok (.getfield 68, 3) := by decide +kernel
theorem dX11_redundant_128 : decode cX11_redundant 128 = .ok (.iload_n 1, 1) := by decide +kernel
theorem dX11_redundant_129 : decode cX11_redundant 129 = .ok (.iaload, 1) := by decide +kernel
theorem dX11_redundant_130 : decode cX11_redundant 130 = .ok (.invokevirtual 179, 3) := by decide +kernel
theorem dX11_redundant_133 : decode cX11_redundant 133 = .ok (.ifCond .eq 7, 3) := by decide +kernel
theorem dX11_redundant_136 : decode cX11_redundant 136 = .ok (.iconst 1, 1) := by decide +kernel
theorem dX11_redundant_137 : decode cX11_redundant 137 = .ok (.goto 4, 3) := by decide +kernel
theorem dX11_redundant_140 : decode cX11_redundant 140 = .ok (.iconst 0, 1) := by decide +kernel
theorem dX11_redundant_141 : decode cX11_redundant 141 = .ok (.bastore, 1) := by decide +kernel
theorem dX11_redundant_142 : decode cX11_redundant 142 = .ok (.iinc 2 1, 3) := by decide +kernel
theorem dX11_redundant_145 : decode cX11_redundant 145 = .ok (.goto (-126), 3) := by decide +kernel
theorem dX11_redundant_148 : decode cX11_redundant 148 = .ok (.iinc 1 1, 3) := by decide +kernel
theorem dX11_redundant_151 : decode cX11_redundant 151 = .ok (.goto (-149), 3) := by decide +kernel
theorem dX11_redundant_154 : decode cX11_redundant 154 = .ok (.return_, 1) := by decide +kernel
theorem dX11_leader_0 : decode cX11_leader 0 = .ok (.iconst 0, 1) := by decide +kernel
theorem dX11_leader_1 : decode cX11_leader 1 = .ok (.istore 4, 2) := by decide +kernel
theorem dX11_leader_3 : decode cX11_leader 3 = .ok (.iload 4, 2) := by decide +kernel
theorem dX11_leader_5 : decode cX11_leader 5 = .ok (.aload_n 0, 1) := by decide +kernel
theorem dX11_leader_6 : decode cX11_leader 6 = .ok (.getfield 155, 3) := by decide +kernel
theorem dX11_leader_9 : decode cX11_leader 9 = .ok (.if_icmp .ge 49, 3) := by decide +kernel
theorem dX11_leader_12 : decode cX11_leader 12 = .ok (.aload_n 0, 1) := by decide +kernel
theorem dX11_leader_13 : decode cX11_leader 13 = .ok (.getfield 92, 3) := by decide +kernel
theorem dX11_leader_16 : decode cX11_leader 16 = .ok (.iload 4, 2) := by decide +kernel
theorem dX11_leader_18 : decode cX11_leader 18 = .ok (.iaload, 1) := by decide +kernel
theorem dX11_leader_19 : decode cX11_leader 19 = .ok (.aload_n 0, 1) := by decide +kernel
theorem dX11_leader_20 : decode cX11_leader 20 = .ok (.getfield 92, 3) := by decide +kernel
theorem dX11_leader_23 : decode cX11_leader 23 = .ok (.iload_n 1, 1) := by decide +kernel
theorem dX11_leader_24 : decode cX11_leader 24 = .ok (.iaload, 1) := by decide +kernel
theorem dX11_leader_25 : decode cX11_leader 25 = .ok (.if_icmp .ne 27, 3) := by decide +kernel
theorem dX11_leader_28 : decode cX11_leader 28 = .ok (.aload_n 0, 1) := by decide +kernel
theorem dX11_leader_29 : decode cX11_leader 29 = .ok (.getfield 98, 3) := by decide +kernel
theorem dX11_leader_32 : decode cX11_leader 32 = .ok (.iload 4, 2) := by decide +kernel
theorem dX11_leader_34 : decode cX11_leader 34 = .ok (.baload, 1) := by decide +kernel
theorem dX11_leader_35 : decode cX11_leader 35 = .ok (.ifCond .ne 17, 3) := by decide +kernel
theorem dX11_leader_38 : decode cX11_leader 38 = .ok (.aload_n 0, 1) := by decide +kernel
theorem dX11_leader_39 : decode cX11_leader 39 = .ok (.iload 4, 2) := by decide +kernel
theorem dX11_leader_41 : decode cX11_leader 41 = .ok (.iload_n 2, 1) := by decide +kernel
theorem dX11_leader_42 : decode cX11_leader 42 = .ok (.iload_n 3, 1) := by decide +kernel
theorem dX11_leader_43 : decode cX11_leader 43 = .ok (.invokevirtual 179, 3) := by decide +kernel
theorem dX11_leader_46 : decode cX11_leader 46 = .ok (.ifCond .eq 6, 3) := by decide +kernel
theorem dX11_leader_49 : decode cX11_leader 49 = .ok (.iload 4, 2) := by decide +kernel
theorem dX11_leader_51 : decode cX11_leader 51 = .ok (.ireturn, 1) := by decide +kernel
theorem dX11_leader_52 : decode cX11_leader 52 = .ok (.iinc 4 1, 3) := by decide +kernel
theorem dX11_leader_55 : decode cX11_leader 55 = .ok (.goto (-52), 3) := by decide +kernel
theorem dX11_leader_58 : decode cX11_leader 58 = .ok (.iconst (-1), 1) := by decide +kernel
theorem dX11_leader_59 : decode cX11_leader 59 = .ok (.ireturn, 1) := by decide +kernel
theorem dX11_make_0 : decode cX11_make 0 = .ok (.aload_n 0, 1) := by decide +kernel
theorem dX11_make_1 : decode cX11_make 1 = .ok (.getfield 123, 3) := by decide +kernel
theorem dX11_make_4 : decode cX11_make 4 = .ok (.ifCond .eq 4, 3) := by decide +kernel
theorem dX11_make_7 : decode cX11_make 7 = .ok (.return_, 1) := by decide +kernel
theorem dX11_make_8 : decode cX11_make 8 = .ok (.aload_n 0, 1) := by decide +kernel
theorem dX11_make_9 : decode cX11_make 9 = .ok (.iconst 1, 1) := by decide +kernel
theorem dX11_make_10 : decode cX11_make 10 = .ok (.putfield 123, 3) := by decide +kernel
theorem dX11_make_13 : decode cX11_make 13 = .ok (.aload_n 0, 1) := by decide +kernel
theorem dX11_make_14 : decode cX11_make 14 = .ok (.invokevirtual 183, 3) := by decide +kernel
theorem dX11_make_17 : decode cX11_make 17 = .ok (.aload_n 0, 1) := by decide +kernel
theorem dX11_make_18 : decode cX11_make 18 = .ok (.invokevirtual 186, 3) := by decide +kernel
theorem dX11_make_21 : decode cX11_make 21 = .ok (.aload_n 0, 1) := by decide +kernel
theorem dX11_make_22 : decode cX11_make 22 = .ok (.invokevirtual 189, 3) := by decide +kernel
theorem dX11_make_25 : decode cX11_make 25 = .ok (.aload_n 0, 1) := by decide +kernel
theorem dX11_make_26 : decode cX11_make 26 = .ok (.invokevirtual 192, 3) := by decide +kernel
theorem dX11_make_29 : decode cX11_make 29 = .ok (.aload_n 0, 1) := by decide +kernel
theorem dX11_make_30 : decode cX11_make 30 = .ok (.invokevirtual 195, 3) := by decide +kernel
theorem dX11_make_33 : decode cX11_make 33 = .ok (.aload_n 0, 1) := by decide +kernel
theorem dX11_make_34 : decode cX11_make 34 = .ok (.invokevirtual 198, 3) := by decide +kernel
theorem dX11_make_37 : decode cX11_make 37 = .ok (.return_, 1) := by decide +kernel
theorem dX11_ledOperand_0 : decode cX11_ledOperand 0 = .ok (.aload_n 0, 1) := by decide +kernel
theorem dX11_ledOperand_1 : decode cX11_ledOperand 1 = .ok (.getfield 71, 3) := by decide +kernel
theorem dX11_ledOperand_4 : decode cX11_ledOperand 4 = .ok (.bipush 20, 2) := by decide +kernel
theorem dX11_ledOperand_6 : decode cX11_ledOperand 6 = .ok (.iload_n 1, 1) := by decide +kernel
theorem dX11_ledOperand_7 : decode cX11_ledOperand 7 = .ok (.imul, 1) := by decide +kernel
theorem dX11_ledOperand_8 : decode cX11_ledOperand 8 = .ok (.iload_n 2, 1) := by decide +kernel
theorem dX11_ledOperand_9 : decode cX11_ledOperand 9 = .ok (.iadd, 1) := by decide +kernel
theorem dX11_ledOperand_10 : decode cX11_ledOperand 10 = .ok (.iaload, 1) := by decide +kernel
theorem dX11_ledOperand_11 : decode cX11_ledOperand 11 = .ok (.istore_n 3, 1) := by decide +kernel
theorem dX11_ledOperand_12 : decode cX11_ledOperand 12 = .ok (.aload_n 0, 1) := by decide +kernel
theorem dX11_ledOperand_13 : decode cX11_ledOperand 13 = .ok (.getfield 56, 3) := by decide +kernel
theorem dX11_ledOperand_16 : decode cX11_ledOperand 16 = .ok (.iload_n 1, 1) := by decide +kernel
theorem dX11_ledOperand_17 : decode cX11_ledOperand 17 = .ok (.iaload, 1) := by decide +kernel
theorem dX11_ledOperand_18 : decode cX11_ledOperand 18 = .ok (.bipush 15, 2) := by decide +kernel
theorem dX11_ledOperand_20 : decode cX11_ledOperand 20 = .ok (.if_icmp .eq 21, 3) := by decide +kernel
theorem dX11_ledOperand_23 : decode cX11_ledOperand 23 = .ok (.aload_n 0, 1) := by decide +kernel
theorem dX11_ledOperand_24 : decode cX11_ledOperand 24 = .ok (.iload_n 3, 1) := by decide +kernel
theorem dX11_ledOperand_25 : decode cX11_ledOperand 25 = .ok (.aload_n 0, 1) := by decide +kernel
theorem dX11_ledOperand_26 : decode cX11_ledOperand 26 = .ok (.getfield 59, 3) := by decide +kernel
theorem dX11_ledOperand_29 : decode cX11_ledOperand 29 = .ok (.iload_n 1, 1) := by decide +kernel
theorem dX11_ledOperand_30 : decode cX11_ledOperand 30 = .ok (.iaload, 1) := by decide +kernel
theorem dX11_ledOperand_31 : decode cX11_ledOperand 31 = .ok (.aload_n 0, 1) := by decide +kernel
theorem dX11_ledOperand_32 : decode cX11_ledOperand 32 = .ok (.getfield 68, 3) := by decide +kernel
theorem dX11_ledOperand_35 : decode cX11_ledOperand 35 = .ok (.iload_n 1, 1) := by decide +kernel
theorem dX11_ledOperand_36 : decode cX11_ledOperand 36 = .ok (.iaload, 1) := by decide +kernel
theorem dX11_ledOperand_37 : decode cX11_ledOperand 37 = .ok (.invokevirtual 201, 3) := by decide +kernel
theorem dX11_ledOperand_40 : decode cX11_ledOperand 40 = .ok (.ireturn, 1) := by decide +kernel
theorem dX11_ledOperand_41 : decode cX11_ledOperand 41 = .ok (.aload_n 0, 1) := by decide +kernel
theorem dX11_ledOperand_42 : decode cX11_ledOperand 42 = .ok (.getfield 59, 3) := by decide +kernel
theorem dX11_ledOperand_45 : decode cX11_ledOperand 45 = .ok (.iload_n 1, 1) := by decide +kernel
theorem dX11_ledOperand_46 : decode cX11_ledOperand 46 = .ok (.iaload, 1) := by decide +kernel
theorem dX11_ledOperand_47 : decode cX11_ledOperand 47 = .ok (.istore 4, 2) := by decide +kernel
theorem dX11_ledOperand_49 : decode cX11_ledOperand 49 = .ok (.aload_n 0, 1) := by decide +kernel
theorem dX11_ledOperand_50 : decode cX11_ledOperand 50 = .ok (.iload 4, 2) := by decide +kernel
theorem dX11_ledOperand_52 : decode cX11_ledOperand 52 = .ok (.iload_n 2, 1) := by decide +kernel
theorem dX11_ledOperand_53 : decode cX11_ledOperand 53 = .ok (.invokevirtual 205, 3) := by decide +kernel
theorem dX11_ledOperand_56 : decode cX11_ledOperand 56 = .ok (.istore 5, 2) := by decide +kernel
theorem dX11_ledOperand_58 : decode cX11_ledOperand 58 = .ok (.iload 5, 2) := by decide +kernel
theorem dX11_ledOperand_60 : decode cX11_ledOperand 60 = .ok (.ifCond .ge 7, 3) := by decide +kernel
theorem dX11_ledOperand_63 : decode cX11_ledOperand 63 = .ok (.iconst 0, 1) := by decide +kernel
theorem dX11_ledOperand_64 : decode cX11_ledOperand 64 = .ok (.goto 17, 3) := by decide +kernel
theorem dX11_ledOperand_67 : decode cX11_ledOperand 67 = .ok (.aload_n 0, 1) := by decide +kernel
theorem dX11_ledOperand_68 : decode cX11_ledOperand 68 = .ok (.iload_n 3, 1) := by decide +kernel
theorem dX11_ledOperand_69 : decode cX11_ledOperand 69 = .ok (.iload 5, 2) := by decide +kernel
theorem dX11_ledOperand_71 : decode cX11_ledOperand 71 = .ok (.aload_n 0, 1) := by decide +kernel
theorem dX11_ledOperand_72 : decode cX11_ledOperand 72 = .ok (.getfield 22, 3) := by decide +kernel
theorem dX11_ledOperand_75 : decode cX11_ledOperand 75 = .ok (.iload 5, 2) := by decide +kernel
theorem dX11_ledOperand_77 : decode cX11_ledOperand 77 = .ok (.iaload, 1) := by decide +kernel
theorem dX11_ledOperand_78 : decode cX11_ledOperand 78 = .ok (.invokevirtual 201, 3) := by decide +kernel
theorem dX11_ledOperand_81 : decode cX11_ledOperand 81 = .ok (.ireturn, 1) := by decide +kernel
theorem dX11_predecessorAt_0 : decode cX11_predecessorAt 0 = .ok (.iconst 0, 1) := by decide +kernel
theorem dX11_predecessorAt_1 : decode cX11_predecessorAt 1 = .ok (.istore_n 3, 1) := by decide +kernel
theorem dX11_predecessorAt_2 : decode cX11_predecessorAt 2 = .ok (.iconst 0, 1) := by decide +kernel
theorem dX11_predecessorAt_3 : decode cX11_predecessorAt 3 = .ok (.istore 4, 2) := by decide +kernel
theorem dX11_predecessorAt_5 : decode cX11_predecessorAt 5 = .ok (.iload 4, 2) := by decide +kernel
theorem dX11_predecessorAt_7 : decode cX11_predecessorAt 7 = .ok (.aload_n 0, 1) := by decide +kernel
theorem dX11_predecessorAt_8 : decode cX11_predecessorAt 8 = .ok (.getfield 120, 3) := by decide +kernel
theorem dX11_predecessorAt_11 : decode cX11_predecessorAt 11 = .ok (.if_icmp .ge 47, 3) := by decide +kernel
theorem dX11_predecessorAt_14 : decode cX11_predecessorAt 14 = .ok (.iload_n 2, 1) := by decide +kernel
theorem dX11_predecessorAt_15 : decode cX11_predecessorAt 15 = .ok (.ifCond .lt 43, 3) := by decide +kernel
theorem dX11_predecessorAt_18 : decode cX11_predecessorAt 18 = .ok (.aload_n 0, 1) := by decide +kernel
theorem dX11_predecessorAt_19 : decode cX11_predecessorAt 19 = .ok (.getfield 37, 3) := by decide +kernel
theorem dX11_predecessorAt_22 : decode cX11_predecessorAt 22 = .ok (.iload 4, 2) := by decide +kernel
theorem dX11_predecessorAt_24 : decode cX11_predecessorAt 24 = .ok (.baload, 1) := by decide +kernel
theorem dX11_predecessorAt_25 : decode cX11_predecessorAt 25 = .ok (.ifCond .eq 27, 3) := by decide +kernel
theorem dX11_predecessorAt_28 : decode cX11_predecessorAt 28 = .ok (.aload_n 0, 1) := by decide +kernel
theorem dX11_predecessorAt_29 : decode cX11_predecessorAt 29 = .ok (.iload 4, 2) := by decide +kernel
theorem dX11_predecessorAt_31 : decode cX11_predecessorAt 31 = .ok (.iload_n 1, 1) := by decide +kernel
theorem dX11_predecessorAt_32 : decode cX11_predecessorAt 32 = .ok (.invokevirtual 141, 3) := by decide +kernel
theorem dX11_predecessorAt_35 : decode cX11_predecessorAt 35 = .ok (.ifCond .ne 6, 3) := by decide +kernel
theorem dX11_predecessorAt_38 : decode cX11_predecessorAt 38 = .ok (.goto 14, 3) := by decide +kernel
theorem dX11_predecessorAt_41 : decode cX11_predecessorAt 41 = .ok (.iload_n 3, 1) := by decide +kernel
theorem dX11_predecessorAt_42 : decode cX11_predecessorAt 42 = .ok (.iload_n 2, 1) := by decide +kernel
theorem dX11_predecessorAt_43 : decode cX11_predecessorAt 43 = .ok (.if_icmp .ne 6, 3) := by decide +kernel
theorem dX11_predecessorAt_46 : decode cX11_predecessorAt 46 = .ok (.iload 4, 2) := by decide +kernel
theorem dX11_predecessorAt_48 : decode cX11_predecessorAt 48 = .ok (.ireturn, 1) := by decide +kernel
theorem dX11_predecessorAt_49 : decode cX11_predecessorAt 49 = .ok (.iinc 3 1, 3) := by decide +kernel
theorem dX11_predecessorAt_52 : decode cX11_predecessorAt 52 = .ok (.iinc 4 1, 3) := by decide +kernel
theorem dX11_predecessorAt_55 : decode cX11_predecessorAt 55 = .ok (.goto (-50), 3) := by decide +kernel
theorem dX11_predecessorAt_58 : decode cX11_predecessorAt 58 = .ok (.iconst (-1), 1) := by decide +kernel
theorem dX11_predecessorAt_59 : decode cX11_predecessorAt 59 = .ok (.ireturn, 1) := by decide +kernel
theorem dX11_work_0 : decode cX11_work 0 = .ok (.iload_n 0, 1) := by decide +kernel
theorem dX11_work_1 : decode cX11_work 1 = .ok (.tableswitch 115 3 12 #[55, 59, 63, 67, 71, 75, 79, 90, 101, 108], 55) := by decide +kernel
theorem dX11_work_56 : decode cX11_work 56 = .ok (.iload_n 1, 1) := by decide +kernel
theorem dX11_work_57 : decode cX11_work 57 = .ok (.iload_n 2, 1) := by decide +kernel
theorem dX11_work_58 : decode cX11_work 58 = .ok (.iadd, 1) := by decide +kernel
theorem dX11_work_59 : decode cX11_work 59 = .ok (.ireturn, 1) := by decide +kernel
theorem dX11_work_60 : decode cX11_work 60 = .ok (.iload_n 1, 1) := by decide +kernel
theorem dX11_work_61 : decode cX11_work 61 = .ok (.iload_n 2, 1) := by decide +kernel
theorem dX11_work_62 : decode cX11_work 62 = .ok (.isub, 1) := by decide +kernel
theorem dX11_work_63 : decode cX11_work 63 = .ok (.ireturn, 1) := by decide +kernel
theorem dX11_work_64 : decode cX11_work 64 = .ok (.iload_n 1, 1) := by decide +kernel
theorem dX11_work_65 : decode cX11_work 65 = .ok (.iload_n 2, 1) := by decide +kernel
theorem dX11_work_66 : decode cX11_work 66 = .ok (.imul, 1) := by decide +kernel
theorem dX11_work_67 : decode cX11_work 67 = .ok (.ireturn, 1) := by decide +kernel
theorem dX11_work_68 : decode cX11_work 68 = .ok (.iload_n 1, 1) := by decide +kernel
theorem dX11_work_69 : decode cX11_work 69 = .ok (.iload_n 2, 1) := by decide +kernel
theorem dX11_work_70 : decode cX11_work 70 = .ok (.iand, 1) := by decide +kernel
theorem dX11_work_71 : decode cX11_work 71 = .ok (.ireturn, 1) := by decide +kernel
theorem dX11_work_72 : decode cX11_work 72 = .ok (.iload_n 1, 1) := by decide +kernel
theorem dX11_work_73 : decode cX11_work 73 = .ok (.iload_n 2, 1) := by decide +kernel
theorem dX11_work_74 : decode cX11_work 74 = .ok (.ior, 1) := by decide +kernel
theorem dX11_work_75 : decode cX11_work 75 = .ok (.ireturn, 1) := by decide +kernel
theorem dX11_work_76 : decode cX11_work 76 = .ok (.iload_n 1, 1) := by decide +kernel
theorem dX11_work_77 : decode cX11_work 77 = .ok (.iload_n 2, 1) := by decide +kernel
theorem dX11_work_78 : decode cX11_work 78 = .ok (.ixor, 1) := by decide +kernel
theorem dX11_work_79 : decode cX11_work 79 = .ok (.ireturn, 1) := by decide +kernel
theorem dX11_work_80 : decode cX11_work 80 = .ok (.iload_n 1, 1) := by decide +kernel
theorem dX11_work_81 : decode cX11_work 81 = .ok (.iload_n 2, 1) := by decide +kernel
theorem dX11_work_82 : decode cX11_work 82 = .ok (.if_icmp .ne 7, 3) := by decide +kernel
theorem dX11_work_85 : decode cX11_work 85 = .ok (.iconst 1, 1) := by decide +kernel
theorem dX11_work_86 : decode cX11_work 86 = .ok (.goto 4, 3) := by decide +kernel
theorem dX11_work_89 : decode cX11_work 89 = .ok (.iconst 0, 1) := by decide +kernel
theorem dX11_work_90 : decode cX11_work 90 = .ok (.ireturn, 1) := by decide +kernel
theorem dX11_work_91 : decode cX11_work 91 = .ok (.iload_n 1, 1) := by decide +kernel
theorem dX11_work_92 : decode cX11_work 92 = .ok (.iload_n 2, 1) := by decide +kernel
theorem dX11_work_93 : decode cX11_work 93 = .ok (.if_icmp .ge 7, 3) := by decide +kernel
theorem dX11_work_96 : decode cX11_work 96 = .ok (.iconst 1, 1) := by decide +kernel
theorem dX11_work_97 : decode cX11_work 97 = .ok (.goto 4, 3) := by decide +kernel
theorem dX11_work_100 : decode cX11_work 100 = .ok (.iconst 0, 1) := by decide +kernel
theorem dX11_work_101 : decode cX11_work 101 = .ok (.ireturn, 1) := by decide +kernel
theorem dX11_work_102 : decode cX11_work 102 = .ok (.iload_n 1, 1) := by decide +kernel
theorem dX11_work_103 : decode cX11_work 103 = .ok (.iload_n 2, 1) := by decide +kernel
theorem dX11_work_104 : decode cX11_work 104 = .ok (.bipush 31, 2) := by decide +kernel
theorem dX11_work_106 : decode cX11_work 106 = .ok (.iand, 1) := by decide +kernel
theorem dX11_work_107 : decode cX11_work 107 = .ok (.ishl, 1) := by decide +kernel
theorem dX11_work_108 : decode cX11_work 108 = .ok (.ireturn, 1) := by decide +kernel
theorem dX11_work_109 : decode cX11_work 109 = .ok (.iload_n 1, 1) := by decide +kernel
theorem dX11_work_110 : decode cX11_work 110 = .ok (.iload_n 2, 1) := by decide +kernel
theorem dX11_work_111 : decode cX11_work 111 = .ok (.bipush 31, 2) := by decide +kernel
theorem dX11_work_113 : decode cX11_work 113 = .ok (.iand, 1) := by decide +kernel
theorem dX11_work_114 : decode cX11_work 114 = .ok (.ishr, 1) := by decide +kernel
theorem dX11_work_115 : decode cX11_work 115 = .ok (.ireturn, 1) := by decide +kernel
theorem dX11_work_116 : decode cX11_work 116 = .ok (.iload_n 2, 1) := by decide +kernel
theorem dX11_work_117 : decode cX11_work 117 = .ok (.ifCond .ne 7, 3) := by decide +kernel
theorem dX11_work_120 : decode cX11_work 120 = .ok (.iconst 0, 1) := by decide +kernel
theorem dX11_work_121 : decode cX11_work 121 = .ok (.goto 6, 3) := by decide +kernel
theorem dX11_work_124 : decode cX11_work 124 = .ok (.iload_n 1, 1) := by decide +kernel
theorem dX11_work_125 : decode cX11_work 125 = .ok (.iload_n 2, 1) := by decide +kernel
theorem dX11_work_126 : decode cX11_work 126 = .ok (.idiv, 1) := by decide +kernel
theorem dX11_work_127 : decode cX11_work 127 = .ok (.ireturn, 1) := by decide +kernel
theorem dX11_emit_0 : decode cX11_emit 0 = .ok (.aload_n 0, 1) := by decide +kernel
theorem dX11_emit_1 : decode cX11_emit 1 = .ok (.getfield 209, 3) := by decide +kernel
theorem dX11_emit_4 : decode cX11_emit 4 = .ok (.bipush 60, 2) := by decide +kernel
theorem dX11_emit_6 : decode cX11_emit 6 = .ok (.if_icmp .ge 13, 3) := by decide +kernel
theorem dX11_emit_9 : decode cX11_emit 9 = .ok (.aload_n 0, 1) := by decide +kernel
theorem dX11_emit_10 : decode cX11_emit 10 = .ok (.getfield 105, 3) := by decide +kernel
theorem dX11_emit_13 : decode cX11_emit 13 = .ok (.aload_n 0, 1) := by decide +kernel
theorem dX11_emit_14 : decode cX11_emit 14 = .ok (.getfield 209, 3) := by decide +kernel
theorem dX11_emit_17 : decode cX11_emit 17 = .ok (.iload_n 1, 1) := by decide +kernel
theorem dX11_emit_18 : decode cX11_emit 18 = .ok (.iastore, 1) := by decide +kernel
theorem dX11_emit_19 : decode cX11_emit 19 = .ok (.aload_n 0, 1) := by decide +kernel
theorem dX11_emit_20 : decode cX11_emit 20 = .ok (.dup, 1) := by decide +kernel
theorem dX11_emit_21 : decode cX11_emit 21 = .ok (.getfield 209, 3) := by decide +kernel
theorem dX11_emit_24 : decode cX11_emit 24 = .ok (.iconst 1, 1) := by decide +kernel
theorem dX11_emit_25 : decode cX11_emit 25 = .ok (.iadd, 1) := by decide +kernel
theorem dX11_emit_26 : decode cX11_emit 26 = .ok (.putfield 209, 3) := by decide +kernel
theorem dX11_emit_29 : decode cX11_emit 29 = .ok (.return_, 1) := by decide +kernel
theorem dX11_takes_0 : decode cX11_takes 0 = .ok (.aload_n 0, 1) := by decide +kernel
theorem dX11_takes_1 : decode cX11_takes 1 = .ok (.getfield 212, 3) := by decide +kernel
theorem dX11_takes_4 : decode cX11_takes 4 = .ok (.aload_n 0, 1) := by decide +kernel
theorem dX11_takes_5 : decode cX11_takes 5 = .ok (.getfield 101, 3) := by decide +kernel
theorem dX11_takes_8 : decode cX11_takes 8 = .ok (.if_icmp .ne 5, 3) := by decide +kernel
theorem dX11_takes_11 : decode cX11_takes 11 = .ok (.iconst 0, 1) := by decide +kernel
theorem dX11_takes_12 : decode cX11_takes 12 = .ok (.ireturn, 1) := by decide +kernel
theorem dX11_takes_13 : decode cX11_takes 13 = .ok (.aload_n 0, 1) := by decide +kernel
theorem dX11_takes_14 : decode cX11_takes 14 = .ok (.dup, 1) := by decide +kernel
theorem dX11_takes_15 : decode cX11_takes 15 = .ok (.getfield 212, 3) := by decide +kernel
theorem dX11_takes_18 : decode cX11_takes 18 = .ok (.iconst 1, 1) := by decide +kernel
theorem dX11_takes_19 : decode cX11_takes 19 = .ok (.iadd, 1) := by decide +kernel
theorem dX11_takes_20 : decode cX11_takes 20 = .ok (.putfield 212, 3) := by decide +kernel
theorem dX11_takes_23 : decode cX11_takes 23 = .ok (.iconst 1, 1) := by decide +kernel
theorem dX11_takes_24 : decode cX11_takes 24 = .ok (.ireturn, 1) := by decide +kernel
theorem dX11_run_0 : decode cX11_run 0 = .ok (.iload_n 1, 1) := by decide +kernel
theorem dX11_run_1 : decode cX11_run 1 = .ok (.ifCond .lt 15, 3) := by decide +kernel
theorem dX11_run_4 : decode cX11_run 4 = .ok (.iload_n 1, 1) := by decide +kernel
theorem dX11_run_5 : decode cX11_run 5 = .ok (.iconst 2, 1) := by decide +kernel
theorem dX11_run_6 : decode cX11_run 6 = .ok (.if_icmp .gt 10, 3) := by decide +kernel
theorem dX11_run_9 : decode cX11_run 9 = .ok (.aload_n 0, 1) := by decide +kernel
theorem dX11_run_10 : decode cX11_run 10 = .ok (.getfield 120, 3) := by decide +kernel
theorem dX11_run_13 : decode cX11_run 13 = .ok (.ifCond .ne 5, 3) := by decide +kernel
theorem dX11_run_16 : decode cX11_run 16 = .ok (.iconst (-1), 1) := by decide +kernel
theorem dX11_run_17 : decode cX11_run 17 = .ok (.ireturn, 1) := by decide +kernel
theorem dX11_run_18 : decode cX11_run 18 = .ok (.aload_n 0, 1) := by decide +kernel
theorem dX11_run_19 : decode cX11_run 19 = .ok (.invokevirtual 215, 3) := by decide +kernel
theorem dX11_run_22 : decode cX11_run 22 = .ok (.aload_n 0, 1) := by decide +kernel
theorem dX11_run_23 : decode cX11_run 23 = .ok (.getfield 117, 3) := by decide +kernel
theorem dX11_run_26 : decode cX11_run 26 = .ok (.iconst 0, 1) := by decide +kernel
theorem dX11_run_27 : decode cX11_run 27 = .ok (.iload_n 2, 1) := by decide +kernel
theorem dX11_run_28 : decode cX11_run 28 = .ok (.iastore, 1) := by decide +kernel
theorem dX11_run_29 : decode cX11_run 29 = .ok (.aload_n 0, 1) := by decide +kernel
theorem dX11_run_30 : decode cX11_run 30 = .ok (.getfield 117, 3) := by decide +kernel
theorem dX11_run_33 : decode cX11_run 33 = .ok (.iconst 1, 1) := by decide +kernel
theorem dX11_run_34 : decode cX11_run 34 = .ok (.iload_n 3, 1) := by decide +kernel
theorem dX11_run_35 : decode cX11_run 35 = .ok (.iastore, 1) := by decide +kernel
theorem dX11_run_36 : decode cX11_run 36 = .ok (.aload_n 0, 1) := by decide +kernel
theorem dX11_run_37 : decode cX11_run 37 = .ok (.getfield 117, 3) := by decide +kernel
theorem dX11_run_40 : decode cX11_run 40 = .ok (.iconst 2, 1) := by decide +kernel
theorem dX11_run_41 : decode cX11_run 41 = .ok (.iload 4, 2) := by decide +kernel
theorem dX11_run_43 : decode cX11_run 43 = .ok (.iastore, 1) := by decide +kernel
theorem dX11_run_44 : decode cX11_run 44 = .ok (.aload_n 0, 1) := by decide +kernel
theorem dX11_run_45 : decode cX11_run 45 = .ok (.getfield 117, 3) := by decide +kernel
theorem dX11_run_48 : decode cX11_run 48 = .ok (.iconst 3, 1) := by decide +kernel
theorem dX11_run_49 : decode cX11_run 49 = .ok (.iload 5, 2) := by decide +kernel
theorem dX11_run_51 : decode cX11_run 51 = .ok (.iastore, 1) := by decide +kernel
theorem dX11_run_52 : decode cX11_run 52 = .ok (.aload_n 0, 1) := by decide +kernel
theorem dX11_run_53 : decode cX11_run 53 = .ok (.iconst 0, 1) := by decide +kernel
theorem dX11_run_54 : decode cX11_run 54 = .ok (.putfield 218, 3) := by decide +kernel
theorem dX11_run_57 : decode cX11_run 57 = .ok (.aload_n 0, 1) := by decide +kernel
theorem dX11_run_58 : decode cX11_run 58 = .ok (.iconst 0, 1) := by decide +kernel
theorem dX11_run_59 : decode cX11_run 59 = .ok (.putfield 212, 3) := by decide +kernel
theorem dX11_run_62 : decode cX11_run 62 = .ok (.aload_n 0, 1) := by decide +kernel
theorem dX11_run_63 : decode cX11_run 63 = .ok (.iconst 0, 1) := by decide +kernel
theorem dX11_run_64 : decode cX11_run 64 = .ok (.putfield 209, 3) := by decide +kernel
theorem dX11_run_67 : decode cX11_run 67 = .ok (.iconst 0, 1) := by decide +kernel
theorem dX11_run_68 : decode cX11_run 68 = .ok (.istore 6, 2) := by decide +kernel
theorem dX11_run_70 : decode cX11_run 70 = .ok (.iload 6, 2) := by decide +kernel
theorem dX11_run_72 : decode cX11_run 72 = .ok (.bipush 10, 2) := by decide +kernel
theorem dX11_run_74 : decode cX11_run 74 = .ok (.if_icmp .ge 17, 3) := by decide +kernel
theorem dX11_run_77 : decode cX11_run 77 = .ok (.aload_n 0, 1) := by decide +kernel
theorem dX11_run_78 : decode cX11_run 78 = .ok (.getfield 108, 3) := by decide +kernel
theorem dX11_run_81 : decode cX11_run 81 = .ok (.iload 6, 2) := by decide +kernel
theorem dX11_run_83 : decode cX11_run 83 = .ok (.iconst 0, 1) := by decide +kernel
theorem dX11_run_84 : decode cX11_run 84 = .ok (.iastore, 1) := by decide +kernel
theorem dX11_run_85 : decode cX11_run 85 = .ok (.iinc 6 1, 3) := by decide +kernel
theorem dX11_run_88 : decode cX11_run 88 = .ok (.goto (-18), 3) := by decide +kernel
theorem dX11_run_91 : decode cX11_run 91 = .ok (.iconst (-1), 1) := by decide +kernel
theorem dX11_run_92 : decode cX11_run 92 = .ok (.istore 6, 2) := by decide +kernel
theorem dX11_run_94 : decode cX11_run 94 = .ok (.iconst 0, 1) := by decide +kernel
theorem dX11_run_95 : decode cX11_run 95 = .ok (.istore 7, 2) := by decide +kernel
theorem dX11_run_97 : decode cX11_run 97 = .ok (.aload_n 0, 1) := by decide +kernel
theorem dX11_run_98 : decode cX11_run 98 = .ok (.iload 7, 2) := by decide +kernel
theorem dX11_run_100 : decode cX11_run 100 = .ok (.putfield 221, 3) := by decide +kernel
theorem dX11_run_103 : decode cX11_run 103 = .ok (.iload_n 1, 1) := by decide +kernel
theorem dX11_run_104 : decode cX11_run 104 = .ok (.ifCond .le 12, 3) := by decide +kernel
theorem dX11_run_107 : decode cX11_run 107 = .ok (.aload_n 0, 1) := by decide +kernel
theorem dX11_run_108 : decode cX11_run 108 = .ok (.iload_n 1, 1) := by decide +kernel
theorem dX11_run_109 : decode cX11_run 109 = .ok (.iload 7, 2) := by decide +kernel
theorem dX11_run_111 : decode cX11_run 111 = .ok (.iload 6, 2) := by decide +kernel
theorem dX11_run_113 : decode cX11_run 113 = .ok (.invokevirtual 224, 3) := by decide +kernel
theorem dX11_run_116 : decode cX11_run 116 = .ok (.iconst 0, 1) := by decide +kernel
theorem dX11_run_117 : decode cX11_run 117 = .ok (.istore 8, 2) := by decide +kernel
theorem dX11_run_119 : decode cX11_run 119 = .ok (.iload 8, 2) := by decide +kernel
theorem dX11_run_121 : decode cX11_run 121 = .ok (.aload_n 0, 1) := by decide +kernel
theorem dX11_run_122 : decode cX11_run 122 = .ok (.getfield 22, 3) := by decide +kernel
theorem dX11_run_125 : decode cX11_run 125 = .ok (.iload 7, 2) := by decide +kernel
theorem dX11_run_127 : decode cX11_run 127 = .ok (.iaload, 1) := by decide +kernel
theorem dX11_run_128 : decode cX11_run 128 = .ok (.if_icmp .ge 42, 3) := by decide +kernel
theorem dX11_run_131 : decode cX11_run 131 = .ok (.aload_n 0, 1) := by decide +kernel
theorem dX11_run_132 : decode cX11_run 132 = .ok (.iload_n 1, 1) := by decide +kernel
theorem dX11_run_133 : decode cX11_run 133 = .ok (.iload 7, 2) := by decide +kernel
theorem dX11_run_135 : decode cX11_run 135 = .ok (.iload 8, 2) := by decide +kernel
theorem dX11_run_137 : decode cX11_run 137 = .ok (.invokevirtual 228, 3) := by decide +kernel
theorem dX11_run_140 : decode cX11_run 140 = .ok (.ifCond .ne 6, 3) := by decide +kernel
theorem dX11_run_143 : decode cX11_run 143 = .ok (.goto 21, 3) := by decide +kernel
theorem dX11_run_146 : decode cX11_run 146 = .ok (.aload_n 0, 1) := by decide +kernel
theorem dX11_run_147 : decode cX11_run 147 = .ok (.invokevirtual 231, 3) := by decide +kernel
theorem dX11_run_150 : decode cX11_run 150 = .ok (.ifCond .ne 5, 3) := by decide +kernel
theorem dX11_run_153 : decode cX11_run 153 = .ok (.iconst 1, 1) := by decide +kernel
theorem dX11_run_154 : decode cX11_run 154 = .ok (.ireturn, 1) := by decide +kernel
theorem dX11_run_155 : decode cX11_run 155 = .ok (.aload_n 0, 1) := by decide +kernel
theorem dX11_run_156 : decode cX11_run 156 = .ok (.iload_n 1, 1) := by decide +kernel
theorem dX11_run_157 : decode cX11_run 157 = .ok (.iload 7, 2) := by decide +kernel
theorem dX11_run_159 : decode cX11_run 159 = .ok (.iload 8, 2) := by decide +kernel
theorem dX11_run_161 : decode cX11_run 161 = .ok (.invokevirtual 235, 3) := by decide +kernel
theorem dX11_run_164 : decode cX11_run 164 = .ok (.iinc 8 1, 3) := by decide +kernel
theorem dX11_run_167 : decode cX11_run 167 = .ok (.goto (-48), 3) := by decide +kernel
theorem dX11_run_170 : decode cX11_run 170 = .ok (.aload_n 0, 1) := by decide +kernel
theorem dX11_run_171 : decode cX11_run 171 = .ok (.invokevirtual 231, 3) := by decide +kernel
theorem dX11_run_174 : decode cX11_run 174 = .ok (.ifCond .ne 5, 3) := by decide +kernel
theorem dX11_run_177 : decode cX11_run 177 = .ok (.iconst 1, 1) := by decide +kernel
theorem dX11_run_178 : decode cX11_run 178 = .ok (.ireturn, 1) := by decide +kernel
theorem dX11_run_179 : decode cX11_run 179 = .ok (.aload_n 0, 1) := by decide +kernel
theorem dX11_run_180 : decode cX11_run 180 = .ok (.iload 7, 2) := by decide +kernel
theorem dX11_run_182 : decode cX11_run 182 = .ok (.invokevirtual 137, 3) := by decide +kernel
theorem dX11_run_185 : decode cX11_run 185 = .ok (.istore 8, 2) := by decide +kernel
theorem dX11_run_187 : decode cX11_run 187 = .ok (.iload 8, 2) := by decide +kernel
theorem dX11_run_189 : decode cX11_run 189 = .ok (.iconst 1, 1) := by decide +kernel
theorem dX11_run_190 : decode cX11_run 190 = .ok (.if_icmp .ne 19, 3) := by decide +kernel
theorem dX11_run_193 : decode cX11_run 193 = .ok (.iload 7, 2) := by decide +kernel
theorem dX11_run_195 : decode cX11_run 195 = .ok (.istore 6, 2) := by decide +kernel
theorem dX11_run_197 : decode cX11_run 197 = .ok (.aload_n 0, 1) := by decide +kernel
theorem dX11_run_198 : decode cX11_run 198 = .ok (.getfield 31, 3) := by decide +kernel
theorem dX11_run_201 : decode cX11_run 201 = .ok (.iload 7, 2) := by decide +kernel
theorem dX11_run_203 : decode cX11_run 203 = .ok (.iaload, 1) := by decide +kernel
theorem dX11_run_204 : decode cX11_run 204 = .ok (.istore 7, 2) := by decide +kernel
theorem dX11_run_206 : decode cX11_run 206 = .ok (.goto (-109), 3) := by decide +kernel
theorem dX11_run_209 : decode cX11_run 209 = .ok (.iload_n 1, 1) := by decide +kernel
theorem dX11_run_210 : decode cX11_run 210 = .ok (.ifCond .ne 17, 3) := by decide +kernel
theorem dX11_run_213 : decode cX11_run 213 = .ok (.aload_n 0, 1) := by decide +kernel
theorem dX11_run_214 : decode cX11_run 214 = .ok (.getfield 108, 3) := by decide +kernel
theorem dX11_run_217 : decode cX11_run 217 = .ok (.aload_n 0, 1) := by decide +kernel
theorem dX11_run_218 : decode cX11_run 218 = .ok (.iload 7, 2) := by decide +kernel
theorem dX11_run_220 : decode cX11_run 220 = .ok (.invokevirtual 238, 3) := by decide +kernel
theorem dX11_run_223 : decode cX11_run 223 = .ok (.iaload, 1) := by decide +kernel
theorem dX11_run_224 : decode cX11_run 224 = .ok (.goto 24, 3) := by decide +kernel
theorem dX11_run_227 : decode cX11_run 227 = .ok (.aload_n 0, 1) := by decide +kernel
theorem dX11_run_228 : decode cX11_run 228 = .ok (.getfield 111, 3) := by decide +kernel
theorem dX11_run_231 : decode cX11_run 231 = .ok (.aload_n 0, 1) := by decide +kernel
theorem dX11_run_232 : decode cX11_run 232 = .ok (.iload 7, 2) := by decide +kernel
theorem dX11_run_234 : decode cX11_run 234 = .ok (.iload_n 1, 1) := by decide +kernel
theorem dX11_run_235 : decode cX11_run 235 = .ok (.iconst 2, 1) := by decide +kernel
theorem dX11_run_236 : decode cX11_run 236 = .ok (.if_icmp .ne 7, 3) := by decide +kernel
theorem dX11_run_239 : decode cX11_run 239 = .ok (.iconst 1, 1) := by decide +kernel
theorem dX11_run_240 : decode cX11_run 240 = .ok (.goto 4, 3) := by decide +kernel
theorem dX11_run_243 : decode cX11_run 243 = .ok (.iconst 0, 1) := by decide +kernel
theorem dX11_run_244 : decode cX11_run 244 = .ok (.invokevirtual 241, 3) := by decide +kernel
theorem dX11_run_247 : decode cX11_run 247 = .ok (.iaload, 1) := by decide +kernel
theorem dX11_run_248 : decode cX11_run 248 = .ok (.istore 9, 2) := by decide +kernel
theorem dX11_run_250 : decode cX11_run 250 = .ok (.iload 8, 2) := by decide +kernel
theorem dX11_run_252 : decode cX11_run 252 = .ok (.ifCond .ne 11, 3) := by decide +kernel
theorem dX11_run_255 : decode cX11_run 255 = .ok (.aload_n 0, 1) := by decide +kernel
theorem dX11_run_256 : decode cX11_run 256 = .ok (.iload 9, 2) := by decide +kernel
theorem dX11_run_258 : decode cX11_run 258 = .ok (.putfield 218, 3) := by decide +kernel
theorem dX11_run_261 : decode cX11_run 261 = .ok (.iconst 0, 1) := by decide +kernel
theorem dX11_run_262 : decode cX11_run 262 = .ok (.ireturn, 1) := by decide +kernel
theorem dX11_run_263 : decode cX11_run 263 = .ok (.iload 7, 2) := by decide +kernel
theorem dX11_run_265 : decode cX11_run 265 = .ok (.istore 6, 2) := by decide +kernel
theorem dX11_run_267 : decode cX11_run 267 = .ok (.iload 9, 2) := by decide +kernel
theorem dX11_run_269 : decode cX11_run 269 = .ok (.ifCond .eq 13, 3) := by decide +kernel
theorem dX11_run_272 : decode cX11_run 272 = .ok (.aload_n 0, 1) := by decide +kernel
theorem dX11_run_273 : decode cX11_run 273 = .ok (.getfield 31, 3) := by decide +kernel
theorem dX11_run_276 : decode cX11_run 276 = .ok (.iload 7, 2) := by decide +kernel
theorem dX11_run_278 : decode cX11_run 278 = .ok (.iaload, 1) := by decide +kernel
theorem dX11_run_279 : decode cX11_run 279 = .ok (.goto 10, 3) := by decide +kernel
theorem dX11_run_282 : decode cX11_run 282 = .ok (.aload_n 0, 1) := by decide +kernel
theorem dX11_run_283 : decode cX11_run 283 = .ok (.getfield 34, 3) := by decide +kernel
theorem dX11_run_286 : decode cX11_run 286 = .ok (.iload 7, 2) := by decide +kernel
theorem dX11_run_288 : decode cX11_run 288 = .ok (.iaload, 1) := by decide +kernel
theorem dX11_run_289 : decode cX11_run 289 = .ok (.istore 7, 2) := by decide +kernel
theorem dX11_run_291 : decode cX11_run 291 = .ok (.goto (-194), 3) := by decide +kernel
theorem dX11_costs_0 : decode cX11_costs 0 = .ok (.bipush 100, 2) := by decide +kernel
theorem dX11_costs_2 : decode cX11_costs 2 = .ok (.iload_n 2, 1) := by decide +kernel
theorem dX11_costs_3 : decode cX11_costs 3 = .ok (.imul, 1) := by decide +kernel
theorem dX11_costs_4 : decode cX11_costs 4 = .ok (.iload_n 3, 1) := by decide +kernel
theorem dX11_costs_5 : decode cX11_costs 5 = .ok (.iadd, 1) := by decide +kernel
theorem dX11_costs_6 : decode cX11_costs 6 = .ok (.istore 4, 2) := by decide +kernel
theorem dX11_costs_8 : decode cX11_costs 8 = .ok (.iload_n 1, 1) := by decide +kernel
theorem dX11_costs_9 : decode cX11_costs 9 = .ok (.ifCond .eq 46, 3) := by decide +kernel
theorem dX11_costs_12 : decode cX11_costs 12 = .ok (.aload_n 0, 1) := by decide +kernel
theorem dX11_costs_13 : decode cX11_costs 13 = .ok (.getfield 7, 3) := by decide +kernel
theorem dX11_costs_16 : decode cX11_costs 16 = .ok (.iload 4, 2) := by decide +kernel
theorem dX11_costs_18 : decode cX11_costs 18 = .ok (.iaload, 1) := by decide +kernel
theorem dX11_costs_19 : decode cX11_costs 19 = .ok (.iconst 2, 1) := by decide +kernel
theorem dX11_costs_20 : decode cX11_costs 20 = .ok (.if_icmp .eq 39, 3) := by decide +kernel
theorem dX11_costs_23 : decode cX11_costs 23 = .ok (.iload_n 1, 1) := by decide +kernel
theorem dX11_costs_24 : decode cX11_costs 24 = .ok (.iconst 1, 1) := by decide +kernel
theorem dX11_costs_25 : decode cX11_costs 25 = .ok (.if_icmp .eq 30, 3) := by decide +kernel
theorem dX11_costs_28 : decode cX11_costs 28 = .ok (.aload_n 0, 1) := by decide +kernel
theorem dX11_costs_29 : decode cX11_costs 29 = .ok (.getfield 7, 3) := by decide +kernel
theorem dX11_costs_32 : decode cX11_costs 32 = .ok (.iload 4, 2) := by decide +kernel
theorem dX11_costs_34 : decode cX11_costs 34 = .ok (.iaload, 1) := by decide +kernel
theorem dX11_costs_35 : decode cX11_costs 35 = .ok (.bipush 14, 2) := by decide +kernel
theorem dX11_costs_37 : decode cX11_costs 37 = .ok (.if_icmp .eq 18, 3) := by decide +kernel
theorem dX11_costs_40 : decode cX11_costs 40 = .ok (.aload_n 0, 1) := by decide +kernel
theorem dX11_costs_41 : decode cX11_costs 41 = .ok (.getfield 98, 3) := by decide +kernel
theorem dX11_costs_44 : decode cX11_costs 44 = .ok (.aload_n 0, 1) := by decide +kernel
theorem dX11_costs_45 : decode cX11_costs 45 = .ok (.getfield 80, 3) := by decide +kernel
theorem dX11_costs_48 : decode cX11_costs 48 = .ok (.iload 4, 2) := by decide +kernel
theorem dX11_costs_50 : decode cX11_costs 50 = .ok (.iaload, 1) := by decide +kernel
theorem dX11_costs_51 : decode cX11_costs 51 = .ok (.baload, 1) := by decide +kernel
theorem dX11_costs_52 : decode cX11_costs 52 = .ok (.ifCond .ne 7, 3) := by decide +kernel
theorem dX11_costs_55 : decode cX11_costs 55 = .ok (.iconst 1, 1) := by decide +kernel
theorem dX11_costs_56 : decode cX11_costs 56 = .ok (.goto 4, 3) := by decide +kernel
theorem dX11_costs_59 : decode cX11_costs 59 = .ok (.iconst 0, 1) := by decide +kernel
theorem dX11_costs_60 : decode cX11_costs 60 = .ok (.ireturn, 1) := by decide +kernel
theorem dX11_chooses_0 : decode cX11_chooses 0 = .ok (.aload_n 0, 1) := by decide +kernel
theorem dX11_chooses_1 : decode cX11_chooses 1 = .ok (.getfield 111, 3) := by decide +kernel
theorem dX11_chooses_4 : decode cX11_chooses 4 = .ok (.iconst 0, 1) := by decide +kernel
theorem dX11_chooses_5 : decode cX11_chooses 5 = .ok (.iconst 0, 1) := by decide +kernel
theorem dX11_chooses_6 : decode cX11_chooses 6 = .ok (.iastore, 1) := by decide +kernel
theorem dX11_chooses_7 : decode cX11_chooses 7 = .ok (.iconst 0, 1) := by decide +kernel
theorem dX11_chooses_8 : decode cX11_chooses 8 = .ok (.istore 4, 2) := by decide +kernel
theorem dX11_chooses_10 : decode cX11_chooses 10 = .ok (.iload 4, 2) := by decide +kernel
theorem dX11_chooses_12 : decode cX11_chooses 12 = .ok (.bipush 10, 2) := by decide +kernel
theorem dX11_chooses_14 : decode cX11_chooses 14 = .ok (.if_icmp .ge 135, 3) := by decide +kernel
theorem dX11_chooses_17 : decode cX11_chooses 17 = .ok (.aload_n 0, 1) := by decide +kernel
theorem dX11_chooses_18 : decode cX11_chooses 18 = .ok (.getfield 53, 3) := by decide +kernel
theorem dX11_chooses_21 : decode cX11_chooses 21 = .ok (.bipush 10, 2) := by decide +kernel
theorem dX11_chooses_23 : decode cX11_chooses 23 = .ok (.iload_n 2, 1) := by decide +kernel
theorem dX11_chooses_24 : decode cX11_chooses 24 = .ok (.imul, 1) := by decide +kernel
theorem dX11_chooses_25 : decode cX11_chooses 25 = .ok (.iload 4, 2) := by decide +kernel
theorem dX11_chooses_27 : decode cX11_chooses 27 = .ok (.iadd, 1) := by decide +kernel
theorem dX11_chooses_28 : decode cX11_chooses 28 = .ok (.baload, 1) := by decide +kernel
theorem dX11_chooses_29 : decode cX11_chooses 29 = .ok (.ifCond .ne 6, 3) := by decide +kernel
theorem dX11_chooses_32 : decode cX11_chooses 32 = .ok (.goto 111, 3) := by decide +kernel
theorem dX11_chooses_35 : decode cX11_chooses 35 = .ok (.aload_n 0, 1) := by decide +kernel
theorem dX11_chooses_36 : decode cX11_chooses 36 = .ok (.getfield 77, 3) := by decide +kernel
theorem dX11_chooses_39 : decode cX11_chooses 39 = .ok (.bipush 10, 2) := by decide +kernel
theorem dX11_chooses_41 : decode cX11_chooses 41 = .ok (.iload_n 2, 1) := by decide +kernel
theorem dX11_chooses_42 : decode cX11_chooses 42 = .ok (.imul, 1) := by decide +kernel
theorem dX11_chooses_43 : decode cX11_chooses 43 = .ok (.iload 4, 2) := by decide +kernel
theorem dX11_chooses_45 : decode cX11_chooses 45 = .ok (.iadd, 1) := by decide +kernel
theorem dX11_chooses_46 : decode cX11_chooses 46 = .ok (.iaload, 1) := by decide +kernel
theorem dX11_chooses_47 : decode cX11_chooses 47 = .ok (.istore 5, 2) := by decide +kernel
theorem dX11_chooses_49 : decode cX11_chooses 49 = .ok (.iload_n 1, 1) := by decide +kernel
theorem dX11_chooses_50 : decode cX11_chooses 50 = .ok (.iconst 2, 1) := by decide +kernel
theorem dX11_chooses_51 : decode cX11_chooses 51 = .ok (.if_icmp .ne 16, 3) := by decide +kernel
theorem dX11_chooses_54 : decode cX11_chooses 54 = .ok (.aload_n 0, 1) := by decide +kernel
theorem dX11_chooses_55 : decode cX11_chooses 55 = .ok (.getfield 98, 3) := by decide +kernel
theorem dX11_chooses_58 : decode cX11_chooses 58 = .ok (.iload 5, 2) := by decide +kernel
theorem dX11_chooses_60 : decode cX11_chooses 60 = .ok (.baload, 1) := by decide +kernel
theorem dX11_chooses_61 : decode cX11_chooses 61 = .ok (.ifCond .eq 6, 3) := by decide +kernel
theorem dX11_chooses_64 : decode cX11_chooses 64 = .ok (.goto 79, 3) := by decide +kernel
theorem dX11_chooses_67 : decode cX11_chooses 67 = .ok (.aload_n 0, 1) := by decide +kernel
theorem dX11_chooses_68 : decode cX11_chooses 68 = .ok (.getfield 74, 3) := by decide +kernel
theorem dX11_chooses_71 : decode cX11_chooses 71 = .ok (.iload 5, 2) := by decide +kernel
theorem dX11_chooses_73 : decode cX11_chooses 73 = .ok (.iaload, 1) := by decide +kernel
theorem dX11_chooses_74 : decode cX11_chooses 74 = .ok (.iconst 1, 1) := by decide +kernel
theorem dX11_chooses_75 : decode cX11_chooses 75 = .ok (.isub, 1) := by decide +kernel
theorem dX11_chooses_76 : decode cX11_chooses 76 = .ok (.istore 6, 2) := by decide +kernel
theorem dX11_chooses_78 : decode cX11_chooses 78 = .ok (.iload_n 3, 1) := by decide +kernel
theorem dX11_chooses_79 : decode cX11_chooses 79 = .ok (.ifCond .lt 23, 3) := by decide +kernel
theorem dX11_chooses_82 : decode cX11_chooses 82 = .ok (.iconst 0, 1) := by decide +kernel
theorem dX11_chooses_83 : decode cX11_chooses 83 = .ok (.istore 6, 2) := by decide +kernel
theorem dX11_chooses_85 : decode cX11_chooses 85 = .ok (.aload_n 0, 1) := by decide +kernel
theorem dX11_chooses_86 : decode cX11_chooses 86 = .ok (.iload_n 2, 1) := by decide +kernel
theorem dX11_chooses_87 : decode cX11_chooses 87 = .ok (.iload 6, 2) := by decide +kernel
theorem dX11_chooses_89 : decode cX11_chooses 89 = .ok (.invokevirtual 205, 3) := by decide +kernel
theorem dX11_chooses_92 : decode cX11_chooses 92 = .ok (.iload_n 3, 1) := by decide +kernel
theorem dX11_chooses_93 : decode cX11_chooses 93 = .ok (.if_icmp .eq 9, 3) := by decide +kernel
theorem dX11_chooses_96 : decode cX11_chooses 96 = .ok (.iinc 6 1, 3) := by decide +kernel
theorem dX11_chooses_99 : decode cX11_chooses 99 = .ok (.goto (-14), 3) := by decide +kernel
theorem dX11_chooses_102 : decode cX11_chooses 102 = .ok (.aload_n 0, 1) := by decide +kernel
theorem dX11_chooses_103 : decode cX11_chooses 103 = .ok (.getfield 114, 3) := by decide +kernel
theorem dX11_chooses_106 : decode cX11_chooses 106 = .ok (.iload 5, 2) := by decide +kernel
theorem dX11_chooses_108 : decode cX11_chooses 108 = .ok (.aload_n 0, 1) := by decide +kernel
theorem dX11_chooses_109 : decode cX11_chooses 109 = .ok (.getfield 111, 3) := by decide +kernel
theorem dX11_chooses_112 : decode cX11_chooses 112 = .ok (.iload_n 1, 1) := by decide +kernel
theorem dX11_chooses_113 : decode cX11_chooses 113 = .ok (.iconst 1, 1) := by decide +kernel
theorem dX11_chooses_114 : decode cX11_chooses 114 = .ok (.if_icmp .ne 19, 3) := by decide +kernel
theorem dX11_chooses_117 : decode cX11_chooses 117 = .ok (.aload_n 0, 1) := by decide +kernel
theorem dX11_chooses_118 : decode cX11_chooses 118 = .ok (.getfield 71, 3) := by decide +kernel
theorem dX11_chooses_121 : decode cX11_chooses 121 = .ok (.bipush 20, 2) := by decide +kernel
theorem dX11_chooses_123 : decode cX11_chooses 123 = .ok (.iload 5, 2) := by decide +kernel
theorem dX11_chooses_125 : decode cX11_chooses 125 = .ok (.imul, 1) := by decide +kernel
theorem dX11_chooses_126 : decode cX11_chooses 126 = .ok (.iload 6, 2) := by decide +kernel
theorem dX11_chooses_128 : decode cX11_chooses 128 = .ok (.iadd, 1) := by decide +kernel
theorem dX11_chooses_129 : decode cX11_chooses 129 = .ok (.iaload, 1) := by decide +kernel
theorem dX11_chooses_130 : decode cX11_chooses 130 = .ok (.goto 11, 3) := by decide +kernel
theorem dX11_chooses_133 : decode cX11_chooses 133 = .ok (.aload_n 0, 1) := by decide +kernel
theorem dX11_chooses_134 : decode cX11_chooses 134 = .ok (.iload 5, 2) := by decide +kernel
theorem dX11_chooses_136 : decode cX11_chooses 136 = .ok (.iload 6, 2) := by decide +kernel
theorem dX11_chooses_138 : decode cX11_chooses 138 = .ok (.invokevirtual 245, 3) := by decide +kernel
theorem dX11_chooses_141 : decode cX11_chooses 141 = .ok (.iaload, 1) := by decide +kernel
theorem dX11_chooses_142 : decode cX11_chooses 142 = .ok (.iastore, 1) := by decide +kernel
theorem dX11_chooses_143 : decode cX11_chooses 143 = .ok (.iinc 4 1, 3) := by decide +kernel
theorem dX11_chooses_146 : decode cX11_chooses 146 = .ok (.goto (-136), 3) := by decide +kernel
theorem dX11_chooses_149 : decode cX11_chooses 149 = .ok (.iconst 0, 1) := by decide +kernel
theorem dX11_chooses_150 : decode cX11_chooses 150 = .ok (.istore 4, 2) := by decide +kernel
theorem dX11_chooses_152 : decode cX11_chooses 152 = .ok (.iload 4, 2) := by decide +kernel
theorem dX11_chooses_154 : decode cX11_chooses 154 = .ok (.bipush 10, 2) := by decide +kernel
theorem dX11_chooses_156 : decode cX11_chooses 156 = .ok (.if_icmp .ge 70, 3) := by decide +kernel
theorem dX11_chooses_159 : decode cX11_chooses 159 = .ok (.aload_n 0, 1) := by decide +kernel
theorem dX11_chooses_160 : decode cX11_chooses 160 = .ok (.getfield 53, 3) := by decide +kernel
theorem dX11_chooses_163 : decode cX11_chooses 163 = .ok (.bipush 10, 2) := by decide +kernel
theorem dX11_chooses_165 : decode cX11_chooses 165 = .ok (.iload_n 2, 1) := by decide +kernel
theorem dX11_chooses_166 : decode cX11_chooses 166 = .ok (.imul, 1) := by decide +kernel
theorem dX11_chooses_167 : decode cX11_chooses 167 = .ok (.iload 4, 2) := by decide +kernel
theorem dX11_chooses_169 : decode cX11_chooses 169 = .ok (.iadd, 1) := by decide +kernel
theorem dX11_chooses_170 : decode cX11_chooses 170 = .ok (.baload, 1) := by decide +kernel
theorem dX11_chooses_171 : decode cX11_chooses 171 = .ok (.ifCond .ne 6, 3) := by decide +kernel
theorem dX11_chooses_174 : decode cX11_chooses 174 = .ok (.goto 46, 3) := by decide +kernel
theorem dX11_chooses_177 : decode cX11_chooses 177 = .ok (.aload_n 0, 1) := by decide +kernel
theorem dX11_chooses_178 : decode cX11_chooses 178 = .ok (.getfield 77, 3) := by decide +kernel
theorem dX11_chooses_181 : decode cX11_chooses 181 = .ok (.bipush 10, 2) := by decide +kernel
theorem dX11_chooses_183 : decode cX11_chooses 183 = .ok (.iload_n 2, 1) := by decide +kernel
theorem dX11_chooses_184 : decode cX11_chooses 184 = .ok (.imul, 1) := by decide +kernel
theorem dX11_chooses_185 : decode cX11_chooses 185 = .ok (.iload 4, 2) := by decide +kernel
theorem dX11_chooses_187 : decode cX11_chooses 187 = .ok (.iadd, 1) := by decide +kernel
theorem dX11_chooses_188 : decode cX11_chooses 188 = .ok (.iaload, 1) := by decide +kernel
theorem dX11_chooses_189 : decode cX11_chooses 189 = .ok (.istore 5, 2) := by decide +kernel
theorem dX11_chooses_191 : decode cX11_chooses 191 = .ok (.iload_n 1, 1) := by decide +kernel
theorem dX11_chooses_192 : decode cX11_chooses 192 = .ok (.iconst 1, 1) := by decide +kernel
theorem dX11_chooses_193 : decode cX11_chooses 193 = .ok (.if_icmp .eq 13, 3) := by decide +kernel
theorem dX11_chooses_196 : decode cX11_chooses 196 = .ok (.aload_n 0, 1) := by decide +kernel
theorem dX11_chooses_197 : decode cX11_chooses 197 = .ok (.getfield 98, 3) := by decide +kernel
theorem dX11_chooses_200 : decode cX11_chooses 200 = .ok (.iload 5, 2) := by decide +kernel
theorem dX11_chooses_202 : decode cX11_chooses 202 = .ok (.baload, 1) := by decide +kernel
theorem dX11_chooses_203 : decode cX11_chooses 203 = .ok (.ifCond .ne 17, 3) := by decide +kernel
theorem dX11_chooses_206 : decode cX11_chooses 206 = .ok (.aload_n 0, 1) := by decide +kernel
theorem dX11_chooses_207 : decode cX11_chooses 207 = .ok (.getfield 111, 3) := by decide +kernel
theorem dX11_chooses_210 : decode cX11_chooses 210 = .ok (.iload 5, 2) := by decide +kernel
theorem dX11_chooses_212 : decode cX11_chooses 212 = .ok (.aload_n 0, 1) := by decide +kernel
theorem dX11_chooses_213 : decode cX11_chooses 213 = .ok (.getfield 114, 3) := by decide +kernel
theorem dX11_chooses_216 : decode cX11_chooses 216 = .ok (.iload 5, 2) := by decide +kernel
theorem dX11_chooses_218 : decode cX11_chooses 218 = .ok (.iaload, 1) := by decide +kernel
theorem dX11_chooses_219 : decode cX11_chooses 219 = .ok (.iastore, 1) := by decide +kernel
theorem dX11_chooses_220 : decode cX11_chooses 220 = .ok (.iinc 4 1, 3) := by decide +kernel
theorem dX11_chooses_223 : decode cX11_chooses 223 = .ok (.goto (-71), 3) := by decide +kernel
theorem dX11_chooses_226 : decode cX11_chooses 226 = .ok (.return_, 1) := by decide +kernel
theorem dX11_acts_0 : decode cX11_acts 0 = .ok (.bipush 100, 2) := by decide +kernel
theorem dX11_acts_2 : decode cX11_acts 2 = .ok (.iload_n 2, 1) := by decide +kernel
theorem dX11_acts_3 : decode cX11_acts 3 = .ok (.imul, 1) := by decide +kernel
theorem dX11_acts_4 : decode cX11_acts 4 = .ok (.iload_n 3, 1) := by decide +kernel
theorem dX11_acts_5 : decode cX11_acts 5 = .ok (.iadd, 1) := by decide +kernel
theorem dX11_acts_6 : decode cX11_acts 6 = .ok (.istore 4, 2) := by decide +kernel
theorem dX11_acts_8 : decode cX11_acts 8 = .ok (.iload_n 1, 1) := by decide +kernel
theorem dX11_acts_9 : decode cX11_acts 9 = .ok (.ifCond .ne 153, 3) := by decide +kernel
theorem dX11_acts_12 : decode cX11_acts 12 = .ok (.aload_n 0, 1) := by decide +kernel
theorem dX11_acts_13 : decode cX11_acts 13 = .ok (.getfield 7, 3) := by decide +kernel
theorem dX11_acts_16 : decode cX11_acts 16 = .ok (.iload 4, 2) := by decide +kernel
theorem dX11_acts_18 : decode cX11_acts 18 = .ok (.iaload, 1) := by decide +kernel
theorem dX11_acts_19 : decode cX11_acts 19 = .ok (.bipush 14, 2) := by decide +kernel
theorem dX11_acts_21 : decode cX11_acts 21 = .ok (.if_icmp .ne 22, 3) := by decide +kernel
theorem dX11_acts_24 : decode cX11_acts 24 = .ok (.aload_n 0, 1) := by decide +kernel
theorem dX11_acts_25 : decode cX11_acts 25 = .ok (.aload_n 0, 1) := by decide +kernel
theorem dX11_acts_26 : decode cX11_acts 26 = .ok (.getfield 108, 3) := by decide +kernel
theorem dX11_acts_29 : decode cX11_acts 29 = .ok (.aload_n 0, 1) := by decide +kernel
theorem dX11_acts_30 : decode cX11_acts 30 = .ok (.getfield 13, 3) := by decide +kernel
theorem dX11_acts_33 : decode cX11_acts 33 = .ok (.iload 4, 2) := by decide +kernel
theorem dX11_acts_35 : decode cX11_acts 35 = .ok (.iaload, 1) := by decide +kernel
theorem dX11_acts_36 : decode cX11_acts 36 = .ok (.iaload, 1) := by decide +kernel
theorem dX11_acts_37 : decode cX11_acts 37 = .ok (.invokevirtual 248, 3) := by decide +kernel
theorem dX11_acts_40 : decode cX11_acts 40 = .ok (.goto 121, 3) := by decide +kernel
theorem dX11_acts_43 : decode cX11_acts 43 = .ok (.aload_n 0, 1) := by decide +kernel
theorem dX11_acts_44 : decode cX11_acts 44 = .ok (.getfield 108, 3) := by decide +kernel
theorem dX11_acts_47 : decode cX11_acts 47 = .ok (.aload_n 0, 1) := by decide +kernel
theorem dX11_acts_48 : decode cX11_acts 48 = .ok (.getfield 13, 3) := by decide +kernel
theorem dX11_acts_51 : decode cX11_acts 51 = .ok (.iload 4, 2) := by decide +kernel
theorem dX11_acts_53 : decode cX11_acts 53 = .ok (.iaload, 1) := by decide +kernel
theorem dX11_acts_54 : decode cX11_acts 54 = .ok (.aload_n 0, 1) := by decide +kernel
theorem dX11_acts_55 : decode cX11_acts 55 = .ok (.getfield 7, 3) := by decide +kernel
theorem dX11_acts_58 : decode cX11_acts 58 = .ok (.iload 4, 2) := by decide +kernel
theorem dX11_acts_60 : decode cX11_acts 60 = .ok (.iaload, 1) := by decide +kernel
theorem dX11_acts_61 : decode cX11_acts 61 = .ok (.ifCond .ne 13, 3) := by decide +kernel
theorem dX11_acts_64 : decode cX11_acts 64 = .ok (.aload_n 0, 1) := by decide +kernel
theorem dX11_acts_65 : decode cX11_acts 65 = .ok (.getfield 16, 3) := by decide +kernel
theorem dX11_acts_68 : decode cX11_acts 68 = .ok (.iload 4, 2) := by decide +kernel
theorem dX11_acts_70 : decode cX11_acts 70 = .ok (.iaload, 1) := by decide +kernel
theorem dX11_acts_71 : decode cX11_acts 71 = .ok (.goto 89, 3) := by decide +kernel
theorem dX11_acts_74 : decode cX11_acts 74 = .ok (.aload_n 0, 1) := by decide +kernel
theorem dX11_acts_75 : decode cX11_acts 75 = .ok (.getfield 7, 3) := by decide +kernel
theorem dX11_acts_78 : decode cX11_acts 78 = .ok (.iload 4, 2) := by decide +kernel
theorem dX11_acts_80 : decode cX11_acts 80 = .ok (.iaload, 1) := by decide +kernel
theorem dX11_acts_81 : decode cX11_acts 81 = .ok (.iconst 1, 1) := by decide +kernel
theorem dX11_acts_82 : decode cX11_acts 82 = .ok (.if_icmp .ne 18, 3) := by decide +kernel
theorem dX11_acts_85 : decode cX11_acts 85 = .ok (.aload_n 0, 1) := by decide +kernel
theorem dX11_acts_86 : decode cX11_acts 86 = .ok (.getfield 117, 3) := by decide +kernel
theorem dX11_acts_89 : decode cX11_acts 89 = .ok (.aload_n 0, 1) := by decide +kernel
theorem dX11_acts_90 : decode cX11_acts 90 = .ok (.getfield 16, 3) := by decide +kernel
theorem dX11_acts_93 : decode cX11_acts 93 = .ok (.iload 4, 2) := by decide +kernel
theorem dX11_acts_95 : decode cX11_acts 95 = .ok (.iaload, 1) := by decide +kernel
theorem dX11_acts_96 : decode cX11_acts 96 = .ok (.iaload, 1) := by decide +kernel
theorem dX11_acts_97 : decode cX11_acts 97 = .ok (.goto 63, 3) := by decide +kernel
theorem dX11_acts_100 : decode cX11_acts 100 = .ok (.aload_n 0, 1) := by decide +kernel
theorem dX11_acts_101 : decode cX11_acts 101 = .ok (.getfield 7, 3) := by decide +kernel
theorem dX11_acts_104 : decode cX11_acts 104 = .ok (.iload 4, 2) := by decide +kernel
theorem dX11_acts_106 : decode cX11_acts 106 = .ok (.iaload, 1) := by decide +kernel
theorem dX11_acts_107 : decode cX11_acts 107 = .ok (.iconst 2, 1) := by decide +kernel
theorem dX11_acts_108 : decode cX11_acts 108 = .ok (.if_icmp .ne 18, 3) := by decide +kernel
theorem dX11_acts_111 : decode cX11_acts 111 = .ok (.aload_n 0, 1) := by decide +kernel
theorem dX11_acts_112 : decode cX11_acts 112 = .ok (.getfield 108, 3) := by decide +kernel
theorem dX11_acts_115 : decode cX11_acts 115 = .ok (.aload_n 0, 1) := by decide +kernel
theorem dX11_acts_116 : decode cX11_acts 116 = .ok (.getfield 16, 3) := by decide +kernel
theorem dX11_acts_119 : decode cX11_acts 119 = .ok (.iload 4, 2) := by decide +kernel
theorem dX11_acts_121 : decode cX11_acts 121 = .ok (.iaload, 1) := by decide +kernel
theorem dX11_acts_122 : decode cX11_acts 122 = .ok (.iaload, 1) := by decide +kernel
theorem dX11_acts_123 : decode cX11_acts 123 = .ok (.goto 37, 3) := by decide +kernel
theorem dX11_acts_126 : decode cX11_acts 126 = .ok (.aload_n 0, 1) := by decide +kernel
theorem dX11_acts_127 : decode cX11_acts 127 = .ok (.getfield 7, 3) := by decide +kernel
theorem dX11_acts_130 : decode cX11_acts 130 = .ok (.iload 4, 2) := by decide +kernel
theorem dX11_acts_132 : decode cX11_acts 132 = .ok (.iaload, 1) := by decide +kernel
theorem dX11_acts_133 : decode cX11_acts 133 = .ok (.aload_n 0, 1) := by decide +kernel
theorem dX11_acts_134 : decode cX11_acts 134 = .ok (.getfield 108, 3) := by decide +kernel
theorem dX11_acts_137 : decode cX11_acts 137 = .ok (.aload_n 0, 1) := by decide +kernel
theorem dX11_acts_138 : decode cX11_acts 138 = .ok (.getfield 16, 3) := by decide +kernel
theorem dX11_acts_141 : decode cX11_acts 141 = .ok (.iload 4, 2) := by decide +kernel
theorem dX11_acts_143 : decode cX11_acts 143 = .ok (.iaload, 1) := by decide +kernel
theorem dX11_acts_144 : decode cX11_acts 144 = .ok (.iaload, 1) := by decide +kernel
theorem dX11_acts_145 : decode cX11_acts 145 = .ok (.aload_n 0, 1) := by decide +kernel
theorem dX11_acts_146 : decode cX11_acts 146 = .ok (.getfield 108, 3) := by decide +kernel
theorem dX11_acts_149 : decode cX11_acts 149 = .ok (.aload_n 0, 1) := by decide +kernel
theorem dX11_acts_150 : decode cX11_acts 150 = .ok (.getfield 19, 3) := by decide +kernel
theorem dX11_acts_153 : decode cX11_acts 153 = .ok (.iload 4, 2) := by decide +kernel
theorem dX11_acts_155 : decode cX11_acts 155 = .ok (.iaload, 1) := by decide +kernel
theorem dX11_acts_156 : decode cX11_acts 156 = .ok (.iaload, 1) := by decide +kernel
theorem dX11_acts_157 : decode cX11_acts 157 = .ok (.invokestatic 251, 3) := by decide +kernel
theorem dX11_acts_160 : decode cX11_acts 160 = .ok (.iastore, 1) := by decide +kernel
theorem dX11_acts_161 : decode cX11_acts 161 = .ok (.return_, 1) := by decide +kernel
theorem dX11_acts_162 : decode cX11_acts 162 = .ok (.aload_n 0, 1) := by decide +kernel
theorem dX11_acts_163 : decode cX11_acts 163 = .ok (.getfield 7, 3) := by decide +kernel
theorem dX11_acts_166 : decode cX11_acts 166 = .ok (.iload 4, 2) := by decide +kernel
theorem dX11_acts_168 : decode cX11_acts 168 = .ok (.iaload, 1) := by decide +kernel
theorem dX11_acts_169 : decode cX11_acts 169 = .ok (.bipush 14, 2) := by decide +kernel
theorem dX11_acts_171 : decode cX11_acts 171 = .ok (.if_icmp .ne 46, 3) := by decide +kernel
theorem dX11_acts_174 : decode cX11_acts 174 = .ok (.aload_n 0, 1) := by decide +kernel
theorem dX11_acts_175 : decode cX11_acts 175 = .ok (.iload_n 2, 1) := by decide +kernel
theorem dX11_acts_176 : decode cX11_acts 176 = .ok (.iload_n 3, 1) := by decide +kernel
theorem dX11_acts_177 : decode cX11_acts 177 = .ok (.aload_n 0, 1) := by decide +kernel
theorem dX11_acts_178 : decode cX11_acts 178 = .ok (.getfield 13, 3) := by decide +kernel
theorem dX11_acts_181 : decode cX11_acts 181 = .ok (.iload 4, 2) := by decide +kernel
theorem dX11_acts_183 : decode cX11_acts 183 = .ok (.iaload, 1) := by decide +kernel
theorem dX11_acts_184 : decode cX11_acts 184 = .ok (.invokevirtual 254, 3) := by decide +kernel
theorem dX11_acts_187 : decode cX11_acts 187 = .ok (.istore 5, 2) := by decide +kernel
theorem dX11_acts_189 : decode cX11_acts 189 = .ok (.aload_n 0, 1) := by decide +kernel
theorem dX11_acts_190 : decode cX11_acts 190 = .ok (.aload_n 0, 1) := by decide +kernel
theorem dX11_acts_191 : decode cX11_acts 191 = .ok (.getfield 111, 3) := by decide +kernel
theorem dX11_acts_194 : decode cX11_acts 194 = .ok (.iload_n 1, 1) := by decide +kernel
theorem dX11_acts_195 : decode cX11_acts 195 = .ok (.iconst 1, 1) := by decide +kernel
theorem dX11_acts_196 : decode cX11_acts 196 = .ok (.if_icmp .ne 8, 3) := by decide +kernel
theorem dX11_acts_199 : decode cX11_acts 199 = .ok (.iload 5, 2) := by decide +kernel
theorem dX11_acts_201 : decode cX11_acts 201 = .ok (.goto 11, 3) := by decide +kernel
theorem dX11_acts_204 : decode cX11_acts 204 = .ok (.aload_n 0, 1) := by decide +kernel
theorem dX11_acts_205 : decode cX11_acts 205 = .ok (.iload 5, 2) := by decide +kernel
theorem dX11_acts_207 : decode cX11_acts 207 = .ok (.iload_n 2, 1) := by decide +kernel
theorem dX11_acts_208 : decode cX11_acts 208 = .ok (.iload_n 3, 1) := by decide +kernel
theorem dX11_acts_209 : decode cX11_acts 209 = .ok (.invokevirtual 201, 3) := by decide +kernel
theorem dX11_acts_212 : decode cX11_acts 212 = .ok (.iaload, 1) := by decide +kernel
theorem dX11_acts_213 : decode cX11_acts 213 = .ok (.invokevirtual 248, 3) := by decide +kernel
theorem dX11_acts_216 : decode cX11_acts 216 = .ok (.return_, 1) := by decide +kernel
theorem dX11_acts_217 : decode cX11_acts 217 = .ok (.aload_n 0, 1) := by decide +kernel
theorem dX11_acts_218 : decode cX11_acts 218 = .ok (.getfield 80, 3) := by decide +kernel
theorem dX11_acts_221 : decode cX11_acts 221 = .ok (.iload 4, 2) := by decide +kernel
theorem dX11_acts_223 : decode cX11_acts 223 = .ok (.iaload, 1) := by decide +kernel
theorem dX11_acts_224 : decode cX11_acts 224 = .ok (.istore 5, 2) := by decide +kernel
theorem dX11_acts_226 : decode cX11_acts 226 = .ok (.aload_n 0, 1) := by decide +kernel
theorem dX11_acts_227 : decode cX11_acts 227 = .ok (.getfield 7, 3) := by decide +kernel
theorem dX11_acts_230 : decode cX11_acts 230 = .ok (.iload 4, 2) := by decide +kernel
theorem dX11_acts_232 : decode cX11_acts 232 = .ok (.iaload, 1) := by decide +kernel
theorem dX11_acts_233 : decode cX11_acts 233 = .ok (.iconst 2, 1) := by decide +kernel
theorem dX11_acts_234 : decode cX11_acts 234 = .ok (.if_icmp .ge 43, 3) := by decide +kernel
theorem dX11_acts_237 : decode cX11_acts 237 = .ok (.aload_n 0, 1) := by decide +kernel
theorem dX11_acts_238 : decode cX11_acts 238 = .ok (.getfield 111, 3) := by decide +kernel
theorem dX11_acts_241 : decode cX11_acts 241 = .ok (.iload 5, 2) := by decide +kernel
theorem dX11_acts_243 : decode cX11_acts 243 = .ok (.aload_n 0, 1) := by decide +kernel
theorem dX11_acts_244 : decode cX11_acts 244 = .ok (.getfield 7, 3) := by decide +kernel
theorem dX11_acts_247 : decode cX11_acts 247 = .ok (.iload 4, 2) := by decide +kernel
theorem dX11_acts_249 : decode cX11_acts 249 = .ok (.iaload, 1) := by decide +kernel
theorem dX11_acts_250 : decode cX11_acts 250 = .ok (.ifCond .ne 13, 3) := by decide +kernel
theorem dX11_acts_253 : decode cX11_acts 253 = .ok (.aload_n 0, 1) := by decide +kernel
theorem dX11_acts_254 : decode cX11_acts 254 = .ok (.getfield 16, 3) := by decide +kernel
theorem dX11_acts_257 : decode cX11_acts 257 = .ok (.iload 4, 2) := by decide +kernel
theorem dX11_acts_259 : decode cX11_acts 259 = .ok (.iaload, 1) := by decide +kernel
theorem dX11_acts_260 : decode cX11_acts 260 = .ok (.goto 15, 3) := by decide +kernel
theorem dX11_acts_263 : decode cX11_acts 263 = .ok (.aload_n 0, 1) := by decide +kernel
theorem dX11_acts_264 : decode cX11_acts 264 = .ok (.getfield 117, 3) := by decide +kernel
theorem dX11_acts_267 : decode cX11_acts 267 = .ok (.aload_n 0, 1) := by decide +kernel
theorem dX11_acts_268 : decode cX11_acts 268 = .ok (.getfield 16, 3) := by decide +kernel
theorem dX11_acts_271 : decode cX11_acts 271 = .ok (.iload 4, 2) := by decide +kernel
theorem dX11_acts_273 : decode cX11_acts 273 = .ok (.iaload, 1) := by decide +kernel
theorem dX11_acts_274 : decode cX11_acts 274 = .ok (.iaload, 1) := by decide +kernel
theorem dX11_acts_275 : decode cX11_acts 275 = .ok (.iastore, 1) := by decide +kernel
theorem dX11_acts_276 : decode cX11_acts 276 = .ok (.return_, 1) := by decide +kernel
theorem dX11_acts_277 : decode cX11_acts 277 = .ok (.iload_n 1, 1) := by decide +kernel
theorem dX11_acts_278 : decode cX11_acts 278 = .ok (.iconst 1, 1) := by decide +kernel
theorem dX11_acts_279 : decode cX11_acts 279 = .ok (.if_icmp .ne 16, 3) := by decide +kernel
theorem dX11_acts_282 : decode cX11_acts 282 = .ok (.aload_n 0, 1) := by decide +kernel
theorem dX11_acts_283 : decode cX11_acts 283 = .ok (.getfield 71, 3) := by decide +kernel
theorem dX11_acts_286 : decode cX11_acts 286 = .ok (.bipush 20, 2) := by decide +kernel
theorem dX11_acts_288 : decode cX11_acts 288 = .ok (.iload 5, 2) := by decide +kernel
theorem dX11_acts_290 : decode cX11_acts 290 = .ok (.imul, 1) := by decide +kernel
theorem dX11_acts_291 : decode cX11_acts 291 = .ok (.iaload, 1) := by decide +kernel
theorem dX11_acts_292 : decode cX11_acts 292 = .ok (.goto 10, 3) := by decide +kernel
theorem dX11_acts_295 : decode cX11_acts 295 = .ok (.aload_n 0, 1) := by decide +kernel
theorem dX11_acts_296 : decode cX11_acts 296 = .ok (.iload 5, 2) := by decide +kernel
theorem dX11_acts_298 : decode cX11_acts 298 = .ok (.iconst 0, 1) := by decide +kernel
theorem dX11_acts_299 : decode cX11_acts 299 = .ok (.invokevirtual 245, 3) := by decide +kernel
theorem dX11_acts_302 : decode cX11_acts 302 = .ok (.istore 6, 2) := by decide +kernel
theorem dX11_acts_304 : decode cX11_acts 304 = .ok (.iload_n 1, 1) := by decide +kernel
theorem dX11_acts_305 : decode cX11_acts 305 = .ok (.iconst 1, 1) := by decide +kernel
theorem dX11_acts_306 : decode cX11_acts 306 = .ok (.if_icmp .ne 18, 3) := by decide +kernel
theorem dX11_acts_309 : decode cX11_acts 309 = .ok (.aload_n 0, 1) := by decide +kernel
theorem dX11_acts_310 : decode cX11_acts 310 = .ok (.getfield 71, 3) := by decide +kernel
theorem dX11_acts_313 : decode cX11_acts 313 = .ok (.bipush 20, 2) := by decide +kernel
theorem dX11_acts_315 : decode cX11_acts 315 = .ok (.iload 5, 2) := by decide +kernel
theorem dX11_acts_317 : decode cX11_acts 317 = .ok (.imul, 1) := by decide +kernel
theorem dX11_acts_318 : decode cX11_acts 318 = .ok (.iconst 1, 1) := by decide +kernel
theorem dX11_acts_319 : decode cX11_acts 319 = .ok (.iadd, 1) := by decide +kernel
theorem dX11_acts_320 : decode cX11_acts 320 = .ok (.iaload, 1) := by decide +kernel
theorem dX11_acts_321 : decode cX11_acts 321 = .ok (.goto 10, 3) := by decide +kernel
theorem dX11_acts_324 : decode cX11_acts 324 = .ok (.aload_n 0, 1) := by decide +kernel
theorem dX11_acts_325 : decode cX11_acts 325 = .ok (.iload 5, 2) := by decide +kernel
theorem dX11_acts_327 : decode cX11_acts 327 = .ok (.iconst 1, 1) := by decide +kernel
theorem dX11_acts_328 : decode cX11_acts 328 = .ok (.invokevirtual 245, 3) := by decide +kernel
theorem dX11_acts_331 : decode cX11_acts 331 = .ok (.istore 7, 2) := by decide +kernel
theorem dX11_acts_333 : decode cX11_acts 333 = .ok (.aload_n 0, 1) := by decide +kernel
theorem dX11_acts_334 : decode cX11_acts 334 = .ok (.getfield 111, 3) := by decide +kernel
theorem dX11_acts_337 : decode cX11_acts 337 = .ok (.iload 5, 2) := by decide +kernel
theorem dX11_acts_339 : decode cX11_acts 339 = .ok (.aload_n 0, 1) := by decide +kernel
theorem dX11_acts_340 : decode cX11_acts 340 = .ok (.getfield 7, 3) := by decide +kernel
theorem dX11_acts_343 : decode cX11_acts 343 = .ok (.iload 4, 2) := by decide +kernel
theorem dX11_acts_345 : decode cX11_acts 345 = .ok (.iaload, 1) := by decide +kernel
theorem dX11_acts_346 : decode cX11_acts 346 = .ok (.aload_n 0, 1) := by decide +kernel
theorem dX11_acts_347 : decode cX11_acts 347 = .ok (.getfield 111, 3) := by decide +kernel
theorem dX11_acts_350 : decode cX11_acts 350 = .ok (.iload 6, 2) := by decide +kernel
theorem dX11_acts_352 : decode cX11_acts 352 = .ok (.iaload, 1) := by decide +kernel
theorem dX11_acts_353 : decode cX11_acts 353 = .ok (.aload_n 0, 1) := by decide +kernel
theorem dX11_acts_354 : decode cX11_acts 354 = .ok (.getfield 111, 3) := by decide +kernel
theorem dX11_acts_357 : decode cX11_acts 357 = .ok (.iload 7, 2) := by decide +kernel
theorem dX11_acts_359 : decode cX11_acts 359 = .ok (.iaload, 1) := by decide +kernel
theorem dX11_acts_360 : decode cX11_acts 360 = .ok (.invokestatic 251, 3) := by decide +kernel
theorem dX11_acts_363 : decode cX11_acts 363 = .ok (.iastore, 1) := by decide +kernel
theorem dX11_acts_364 : decode cX11_acts 364 = .ok (.return_, 1) := by decide +kernel
theorem dX11_reads_0 : decode cX11_reads 0 = .ok (.aload_n 0, 1) := by decide +kernel
theorem dX11_reads_1 : decode cX11_reads 1 = .ok (.getfield 86, 3) := by decide +kernel
theorem dX11_reads_4 : decode cX11_reads 4 = .ok (.bipush 10, 2) := by decide +kernel
theorem dX11_reads_6 : decode cX11_reads 6 = .ok (.iload_n 1, 1) := by decide +kernel
theorem dX11_reads_7 : decode cX11_reads 7 = .ok (.imul, 1) := by decide +kernel
theorem dX11_reads_8 : decode cX11_reads 8 = .ok (.aload_n 0, 1) := by decide +kernel
theorem dX11_reads_9 : decode cX11_reads 9 = .ok (.iload_n 1, 1) := by decide +kernel
theorem dX11_reads_10 : decode cX11_reads 10 = .ok (.invokevirtual 238, 3) := by decide +kernel
theorem dX11_reads_13 : decode cX11_reads 13 = .ok (.iadd, 1) := by decide +kernel
theorem dX11_reads_14 : decode cX11_reads 14 = .ok (.iaload, 1) := by decide +kernel
theorem dX11_reads_15 : decode cX11_reads 15 = .ok (.istore_n 3, 1) := by decide +kernel
theorem dX11_reads_16 : decode cX11_reads 16 = .ok (.iload_n 2, 1) := by decide +kernel
theorem dX11_reads_17 : decode cX11_reads 17 = .ok (.ifCond .eq 18, 3) := by decide +kernel
theorem dX11_reads_20 : decode cX11_reads 20 = .ok (.aload_n 0, 1) := by decide +kernel
theorem dX11_reads_21 : decode cX11_reads 21 = .ok (.iload_n 3, 1) := by decide +kernel
theorem dX11_reads_22 : decode cX11_reads 22 = .ok (.iload_n 1, 1) := by decide +kernel
theorem dX11_reads_23 : decode cX11_reads 23 = .ok (.aload_n 0, 1) := by decide +kernel
theorem dX11_reads_24 : decode cX11_reads 24 = .ok (.getfield 22, 3) := by decide +kernel
theorem dX11_reads_27 : decode cX11_reads 27 = .ok (.iload_n 1, 1) := by decide +kernel
theorem dX11_reads_28 : decode cX11_reads 28 = .ok (.iaload, 1) := by decide +kernel
theorem dX11_reads_29 : decode cX11_reads 29 = .ok (.invokevirtual 201, 3) := by decide +kernel
theorem dX11_reads_32 : decode cX11_reads 32 = .ok (.goto 4, 3) := by decide +kernel
theorem dX11_reads_35 : decode cX11_reads 35 = .ok (.iload_n 3, 1) := by decide +kernel
theorem dX11_reads_36 : decode cX11_reads 36 = .ok (.ireturn, 1) := by decide +kernel
theorem dX11_fuel_0 : decode cX11_fuel 0 = .ok (.iload_n 1, 1) := by decide +kernel
theorem dX11_fuel_1 : decode cX11_fuel 1 = .ok (.iconst 1, 1) := by decide +kernel
theorem dX11_fuel_2 : decode cX11_fuel 2 = .ok (.if_icmp .lt 10, 3) := by decide +kernel
theorem dX11_fuel_5 : decode cX11_fuel 5 = .ok (.iload_n 1, 1) := by decide +kernel
theorem dX11_fuel_6 : decode cX11_fuel 6 = .ok (.sipush 5000, 3) := by decide +kernel
theorem dX11_fuel_9 : decode cX11_fuel 9 = .ok (.if_icmp .le 5, 3) := by decide +kernel
theorem dX11_fuel_12 : decode cX11_fuel 12 = .ok (.iconst (-1), 1) := by decide +kernel
theorem dX11_fuel_13 : decode cX11_fuel 13 = .ok (.ireturn, 1) := by decide +kernel
theorem dX11_fuel_14 : decode cX11_fuel 14 = .ok (.aload_n 0, 1) := by decide +kernel
theorem dX11_fuel_15 : decode cX11_fuel 15 = .ok (.getfield 101, 3) := by decide +kernel
theorem dX11_fuel_18 : decode cX11_fuel 18 = .ok (.istore_n 2, 1) := by decide +kernel
theorem dX11_fuel_19 : decode cX11_fuel 19 = .ok (.aload_n 0, 1) := by decide +kernel
theorem dX11_fuel_20 : decode cX11_fuel 20 = .ok (.iload_n 1, 1) := by decide +kernel
theorem dX11_fuel_21 : decode cX11_fuel 21 = .ok (.putfield 101, 3) := by decide +kernel
theorem dX11_fuel_24 : decode cX11_fuel 24 = .ok (.iload_n 2, 1) := by decide +kernel
theorem dX11_fuel_25 : decode cX11_fuel 25 = .ok (.ireturn, 1) := by decide +kernel
theorem dX11_ran_0 : decode cX11_ran 0 = .ok (.iload_n 1, 1) := by decide +kernel
theorem dX11_ran_1 : decode cX11_ran 1 = .ok (.tableswitch 51 0 3 #[31, 36, 41, 46], 31) := by decide +kernel
theorem dX11_ran_32 : decode cX11_ran 32 = .ok (.aload_n 0, 1) := by decide +kernel
theorem dX11_ran_33 : decode cX11_ran 33 = .ok (.getfield 218, 3) := by decide +kernel
theorem dX11_ran_36 : decode cX11_ran 36 = .ok (.ireturn, 1) := by decide +kernel
theorem dX11_ran_37 : decode cX11_ran 37 = .ok (.aload_n 0, 1) := by decide +kernel
theorem dX11_ran_38 : decode cX11_ran 38 = .ok (.getfield 212, 3) := by decide +kernel
theorem dX11_ran_41 : decode cX11_ran 41 = .ok (.ireturn, 1) := by decide +kernel
theorem dX11_ran_42 : decode cX11_ran 42 = .ok (.aload_n 0, 1) := by decide +kernel
theorem dX11_ran_43 : decode cX11_ran 43 = .ok (.getfield 209, 3) := by decide +kernel
theorem dX11_ran_46 : decode cX11_ran 46 = .ok (.ireturn, 1) := by decide +kernel
theorem dX11_ran_47 : decode cX11_ran 47 = .ok (.aload_n 0, 1) := by decide +kernel
theorem dX11_ran_48 : decode cX11_ran 48 = .ok (.getfield 221, 3) := by decide +kernel
theorem dX11_ran_51 : decode cX11_ran 51 = .ok (.ireturn, 1) := by decide +kernel
theorem dX11_ran_52 : decode cX11_ran 52 = .ok (.iconst 0, 1) := by decide +kernel
theorem dX11_ran_53 : decode cX11_ran 53 = .ok (.ireturn, 1) := by decide +kernel
theorem dX11_emitted_0 : decode cX11_emitted 0 = .ok (.iload_n 1, 1) := by decide +kernel
theorem dX11_emitted_1 : decode cX11_emitted 1 = .ok (.ifCond .lt 26, 3) := by decide +kernel
theorem dX11_emitted_4 : decode cX11_emitted 4 = .ok (.iload_n 1, 1) := by decide +kernel
theorem dX11_emitted_5 : decode cX11_emitted 5 = .ok (.aload_n 0, 1) := by decide +kernel
theorem dX11_emitted_6 : decode cX11_emitted 6 = .ok (.getfield 209, 3) := by decide +kernel
theorem dX11_emitted_9 : decode cX11_emitted 9 = .ok (.if_icmp .ge 18, 3) := by decide +kernel
theorem dX11_emitted_12 : decode cX11_emitted 12 = .ok (.iload_n 1, 1) := by decide +kernel
theorem dX11_emitted_13 : decode cX11_emitted 13 = .ok (.bipush 60, 2) := by decide +kernel
theorem dX11_emitted_15 : decode cX11_emitted 15 = .ok (.if_icmp .ge 12, 3) := by decide +kernel
theorem dX11_emitted_18 : decode cX11_emitted 18 = .ok (.aload_n 0, 1) := by decide +kernel
theorem dX11_emitted_19 : decode cX11_emitted 19 = .ok (.getfield 105, 3) := by decide +kernel
theorem dX11_emitted_22 : decode cX11_emitted 22 = .ok (.iload_n 1, 1) := by decide +kernel
theorem dX11_emitted_23 : decode cX11_emitted 23 = .ok (.iaload, 1) := by decide +kernel
theorem dX11_emitted_24 : decode cX11_emitted 24 = .ok (.goto 4, 3) := by decide +kernel
theorem dX11_emitted_27 : decode cX11_emitted 27 = .ok (.iconst 0, 1) := by decide +kernel
theorem dX11_emitted_28 : decode cX11_emitted 28 = .ok (.ireturn, 1) := by decide +kernel
theorem dX11_about_0 : decode cX11_about 0 = .ok (.aload_n 0, 1) := by decide +kernel
theorem dX11_about_1 : decode cX11_about 1 = .ok (.iload_n 1, 1) := by decide +kernel
theorem dX11_about_2 : decode cX11_about 2 = .ok (.invokevirtual 127, 3) := by decide +kernel
theorem dX11_about_5 : decode cX11_about 5 = .ok (.ifCond .ne 5, 3) := by decide +kernel
theorem dX11_about_8 : decode cX11_about 8 = .ok (.iconst (-1), 1) := by decide +kernel
theorem dX11_about_9 : decode cX11_about 9 = .ok (.ireturn, 1) := by decide +kernel
theorem dX11_about_10 : decode cX11_about 10 = .ok (.aload_n 0, 1) := by decide +kernel
theorem dX11_about_11 : decode cX11_about 11 = .ok (.invokevirtual 215, 3) := by decide +kernel
theorem dX11_about_14 : decode cX11_about 14 = .ok (.iconst 0, 1) := by decide +kernel
theorem dX11_about_15 : decode cX11_about 15 = .ok (.istore_n 3, 1) := by decide +kernel
theorem dX11_about_16 : decode cX11_about 16 = .ok (.iload_n 2, 1) := by decide +kernel
theorem dX11_about_17 : decode cX11_about 17 = .ok (.ifCond .ne 18, 3) := by decide +kernel
theorem dX11_about_20 : decode cX11_about 20 = .ok (.aload_n 0, 1) := by decide +kernel
theorem dX11_about_21 : decode cX11_about 21 = .ok (.getfield 37, 3) := by decide +kernel
theorem dX11_about_24 : decode cX11_about 24 = .ok (.iload_n 1, 1) := by decide +kernel
theorem dX11_about_25 : decode cX11_about 25 = .ok (.baload, 1) := by decide +kernel
theorem dX11_about_26 : decode cX11_about 26 = .ok (.ifCond .eq 7, 3) := by decide +kernel
theorem dX11_about_29 : decode cX11_about 29 = .ok (.iconst 1, 1) := by decide +kernel
theorem dX11_about_30 : decode cX11_about 30 = .ok (.goto 4, 3) := by decide +kernel
theorem dX11_about_33 : decode cX11_about 33 = .ok (.iconst 0, 1) := by decide +kernel
theorem dX11_about_34 : decode cX11_about 34 = .ok (.ireturn, 1) := by decide +kernel
theorem dX11_about_35 : decode cX11_about 35 = .ok (.iload_n 2, 1) := by decide +kernel
theorem dX11_about_36 : decode cX11_about 36 = .ok (.iconst 3, 1) := by decide +kernel
theorem dX11_about_37 : decode cX11_about 37 = .ok (.if_icmp .ne 10, 3) := by decide +kernel
theorem dX11_about_40 : decode cX11_about 40 = .ok (.aload_n 0, 1) := by decide +kernel
theorem dX11_about_41 : decode cX11_about 41 = .ok (.getfield 22, 3) := by decide +kernel
theorem dX11_about_44 : decode cX11_about 44 = .ok (.iload_n 1, 1) := by decide +kernel
theorem dX11_about_45 : decode cX11_about 45 = .ok (.iaload, 1) := by decide +kernel
theorem dX11_about_46 : decode cX11_about 46 = .ok (.ireturn, 1) := by decide +kernel
theorem dX11_about_47 : decode cX11_about 47 = .ok (.iload_n 2, 1) := by decide +kernel
theorem dX11_about_48 : decode cX11_about 48 = .ok (.bipush 6, 2) := by decide +kernel
theorem dX11_about_50 : decode cX11_about 50 = .ok (.if_icmp .ne 9, 3) := by decide +kernel
theorem dX11_about_53 : decode cX11_about 53 = .ok (.aload_n 0, 1) := by decide +kernel
theorem dX11_about_54 : decode cX11_about 54 = .ok (.iload_n 1, 1) := by decide +kernel
theorem dX11_about_55 : decode cX11_about 55 = .ok (.invokevirtual 137, 3) := by decide +kernel
theorem dX11_about_58 : decode cX11_about 58 = .ok (.ireturn, 1) := by decide +kernel
theorem dX11_about_59 : decode cX11_about 59 = .ok (.aload_n 0, 1) := by decide +kernel
theorem dX11_about_60 : decode cX11_about 60 = .ok (.getfield 37, 3) := by decide +kernel
theorem dX11_about_63 : decode cX11_about 63 = .ok (.iload_n 1, 1) := by decide +kernel
theorem dX11_about_64 : decode cX11_about 64 = .ok (.baload, 1) := by decide +kernel
theorem dX11_about_65 : decode cX11_about 65 = .ok (.ifCond .ne 5, 3) := by decide +kernel
theorem dX11_about_68 : decode cX11_about 68 = .ok (.iconst (-1), 1) := by decide +kernel
theorem dX11_about_69 : decode cX11_about 69 = .ok (.ireturn, 1) := by decide +kernel
theorem dX11_about_70 : decode cX11_about 70 = .ok (.iload_n 2, 1) := by decide +kernel
theorem dX11_about_71 : decode cX11_about 71 = .ok (.tableswitch 141 1 5 #[33, 40, 141, 57, 98], 33) := by decide +kernel
theorem dX11_about_104 : decode cX11_about 104 = .ok (.aload_n 0, 1) := by decide +kernel
theorem dX11_about_105 : decode cX11_about 105 = .ok (.getfield 47, 3) := by decide +kernel
theorem dX11_about_108 : decode cX11_about 108 = .ok (.iload_n 1, 1) := by decide +kernel
theorem dX11_about_109 : decode cX11_about 109 = .ok (.iaload, 1) := by decide +kernel
theorem dX11_about_110 : decode cX11_about 110 = .ok (.ireturn, 1) := by decide +kernel
theorem dX11_about_111 : decode cX11_about 111 = .ok (.aload_n 0, 1) := by decide +kernel
theorem dX11_about_112 : decode cX11_about 112 = .ok (.iload_n 1, 1) := by decide +kernel
theorem dX11_about_113 : decode cX11_about 113 = .ok (.iload_n 3, 1) := by decide +kernel
theorem dX11_about_114 : decode cX11_about 114 = .ok (.invokevirtual 205, 3) := by decide +kernel
theorem dX11_about_117 : decode cX11_about 117 = .ok (.ifCond .lt 9, 3) := by decide +kernel
theorem dX11_about_120 : decode cX11_about 120 = .ok (.iinc 3 1, 3) := by decide +kernel
theorem dX11_about_123 : decode cX11_about 123 = .ok (.goto (-12), 3) := by decide +kernel
theorem dX11_about_126 : decode cX11_about 126 = .ok (.iload_n 3, 1) := by decide +kernel
theorem dX11_about_127 : decode cX11_about 127 = .ok (.ireturn, 1) := by decide +kernel
theorem dX11_about_128 : decode cX11_about 128 = .ok (.iconst 0, 1) := by decide +kernel
theorem dX11_about_129 : decode cX11_about 129 = .ok (.istore 4, 2) := by decide +kernel
theorem dX11_about_131 : decode cX11_about 131 = .ok (.iload 4, 2) := by decide +kernel
theorem dX11_about_133 : decode cX11_about 133 = .ok (.bipush 10, 2) := by decide +kernel
theorem dX11_about_135 : decode cX11_about 135 = .ok (.if_icmp .ge 32, 3) := by decide +kernel
theorem dX11_about_138 : decode cX11_about 138 = .ok (.iload_n 3, 1) := by decide +kernel
theorem dX11_about_139 : decode cX11_about 139 = .ok (.aload_n 0, 1) := by decide +kernel
theorem dX11_about_140 : decode cX11_about 140 = .ok (.getfield 53, 3) := by decide +kernel
theorem dX11_about_143 : decode cX11_about 143 = .ok (.bipush 10, 2) := by decide +kernel
theorem dX11_about_145 : decode cX11_about 145 = .ok (.iload_n 1, 1) := by decide +kernel
theorem dX11_about_146 : decode cX11_about 146 = .ok (.imul, 1) := by decide +kernel
theorem dX11_about_147 : decode cX11_about 147 = .ok (.iload 4, 2) := by decide +kernel
theorem dX11_about_149 : decode cX11_about 149 = .ok (.iadd, 1) := by decide +kernel
theorem dX11_about_150 : decode cX11_about 150 = .ok (.baload, 1) := by decide +kernel
theorem dX11_about_151 : decode cX11_about 151 = .ok (.ifCond .eq 7, 3) := by decide +kernel
theorem dX11_about_154 : decode cX11_about 154 = .ok (.iconst 1, 1) := by decide +kernel
theorem dX11_about_155 : decode cX11_about 155 = .ok (.goto 4, 3) := by decide +kernel
theorem dX11_about_158 : decode cX11_about 158 = .ok (.iconst 0, 1) := by decide +kernel
theorem dX11_about_159 : decode cX11_about 159 = .ok (.iadd, 1) := by decide +kernel
theorem dX11_about_160 : decode cX11_about 160 = .ok (.istore_n 3, 1) := by decide +kernel
theorem dX11_about_161 : decode cX11_about 161 = .ok (.iinc 4 1, 3) := by decide +kernel
theorem dX11_about_164 : decode cX11_about 164 = .ok (.goto (-33), 3) := by decide +kernel
theorem dX11_about_167 : decode cX11_about 167 = .ok (.iload_n 3, 1) := by decide +kernel
theorem dX11_about_168 : decode cX11_about 168 = .ok (.ireturn, 1) := by decide +kernel
theorem dX11_about_169 : decode cX11_about 169 = .ok (.iconst 0, 1) := by decide +kernel
theorem dX11_about_170 : decode cX11_about 170 = .ok (.istore 4, 2) := by decide +kernel
theorem dX11_about_172 : decode cX11_about 172 = .ok (.iload 4, 2) := by decide +kernel
theorem dX11_about_174 : decode cX11_about 174 = .ok (.aload_n 0, 1) := by decide +kernel
theorem dX11_about_175 : decode cX11_about 175 = .ok (.getfield 120, 3) := by decide +kernel
theorem dX11_about_178 : decode cX11_about 178 = .ok (.if_icmp .ge 32, 3) := by decide +kernel
theorem dX11_about_181 : decode cX11_about 181 = .ok (.iload_n 3, 1) := by decide +kernel
theorem dX11_about_182 : decode cX11_about 182 = .ok (.aload_n 0, 1) := by decide +kernel
theorem dX11_about_183 : decode cX11_about 183 = .ok (.getfield 50, 3) := by decide +kernel
theorem dX11_about_186 : decode cX11_about 186 = .ok (.bipush 16, 2) := by decide +kernel
theorem dX11_about_188 : decode cX11_about 188 = .ok (.iload_n 1, 1) := by decide +kernel
theorem dX11_about_189 : decode cX11_about 189 = .ok (.imul, 1) := by decide +kernel
theorem dX11_about_190 : decode cX11_about 190 = .ok (.iload 4, 2) := by decide +kernel
theorem dX11_about_192 : decode cX11_about 192 = .ok (.iadd, 1) := by decide +kernel
theorem dX11_about_193 : decode cX11_about 193 = .ok (.baload, 1) := by decide +kernel
theorem dX11_about_194 : decode cX11_about 194 = .ok (.ifCond .eq 7, 3) := by decide +kernel
theorem dX11_about_197 : decode cX11_about 197 = .ok (.iconst 1, 1) := by decide +kernel
theorem dX11_about_198 : decode cX11_about 198 = .ok (.goto 4, 3) := by decide +kernel
theorem dX11_about_201 : decode cX11_about 201 = .ok (.iconst 0, 1) := by decide +kernel
theorem dX11_about_202 : decode cX11_about 202 = .ok (.iadd, 1) := by decide +kernel
theorem dX11_about_203 : decode cX11_about 203 = .ok (.istore_n 3, 1) := by decide +kernel
theorem dX11_about_204 : decode cX11_about 204 = .ok (.iinc 4 1, 3) := by decide +kernel
theorem dX11_about_207 : decode cX11_about 207 = .ok (.goto (-35), 3) := by decide +kernel
theorem dX11_about_210 : decode cX11_about 210 = .ok (.iload_n 3, 1) := by decide +kernel
theorem dX11_about_211 : decode cX11_about 211 = .ok (.ireturn, 1) := by decide +kernel
theorem dX11_about_212 : decode cX11_about 212 = .ok (.iconst (-1), 1) := by decide +kernel
theorem dX11_about_213 : decode cX11_about 213 = .ok (.ireturn, 1) := by decide +kernel
theorem dX11_predecessor_0 : decode cX11_predecessor 0 = .ok (.aload_n 0, 1) := by decide +kernel
theorem dX11_predecessor_1 : decode cX11_predecessor 1 = .ok (.iload_n 1, 1) := by decide +kernel
theorem dX11_predecessor_2 : decode cX11_predecessor 2 = .ok (.invokevirtual 127, 3) := by decide +kernel
theorem dX11_predecessor_5 : decode cX11_predecessor 5 = .ok (.ifCond .ne 5, 3) := by decide +kernel
theorem dX11_predecessor_8 : decode cX11_predecessor 8 = .ok (.iconst (-1), 1) := by decide +kernel
theorem dX11_predecessor_9 : decode cX11_predecessor 9 = .ok (.ireturn, 1) := by decide +kernel
theorem dX11_predecessor_10 : decode cX11_predecessor 10 = .ok (.aload_n 0, 1) := by decide +kernel
theorem dX11_predecessor_11 : decode cX11_predecessor 11 = .ok (.invokevirtual 215, 3) := by decide +kernel
theorem dX11_predecessor_14 : decode cX11_predecessor 14 = .ok (.aload_n 0, 1) := by decide +kernel
theorem dX11_predecessor_15 : decode cX11_predecessor 15 = .ok (.getfield 37, 3) := by decide +kernel
theorem dX11_predecessor_18 : decode cX11_predecessor 18 = .ok (.iload_n 1, 1) := by decide +kernel
theorem dX11_predecessor_19 : decode cX11_predecessor 19 = .ok (.baload, 1) := by decide +kernel
theorem dX11_predecessor_20 : decode cX11_predecessor 20 = .ok (.ifCond .eq 12, 3) := by decide +kernel
theorem dX11_predecessor_23 : decode cX11_predecessor 23 = .ok (.aload_n 0, 1) := by decide +kernel
theorem dX11_predecessor_24 : decode cX11_predecessor 24 = .ok (.iload_n 1, 1) := by decide +kernel
theorem dX11_predecessor_25 : decode cX11_predecessor 25 = .ok (.iload_n 2, 1) := by decide +kernel
theorem dX11_predecessor_26 : decode cX11_predecessor 26 = .ok (.invokevirtual 205, 3) := by decide +kernel
theorem dX11_predecessor_29 : decode cX11_predecessor 29 = .ok (.goto 4, 3) := by decide +kernel
theorem dX11_predecessor_32 : decode cX11_predecessor 32 = .ok (.iconst (-1), 1) := by decide +kernel
theorem dX11_predecessor_33 : decode cX11_predecessor 33 = .ok (.ireturn, 1) := by decide +kernel
theorem dX11_areReached_0 : decode cX11_areReached 0 = .ok (.aload_n 0, 1) := by decide +kernel
theorem dX11_areReached_1 : decode cX11_areReached 1 = .ok (.iload_n 1, 1) := by decide +kernel
theorem dX11_areReached_2 : decode cX11_areReached 2 = .ok (.invokevirtual 127, 3) := by decide +kernel
theorem dX11_areReached_5 : decode cX11_areReached 5 = .ok (.ifCond .eq 11, 3) := by decide +kernel
theorem dX11_areReached_8 : decode cX11_areReached 8 = .ok (.aload_n 0, 1) := by decide +kernel
theorem dX11_areReached_9 : decode cX11_areReached 9 = .ok (.iload_n 2, 1) := by decide +kernel
theorem dX11_areReached_10 : decode cX11_areReached 10 = .ok (.invokevirtual 127, 3) := by decide +kernel
theorem dX11_areReached_13 : decode cX11_areReached 13 = .ok (.ifCond .ne 5, 3) := by decide +kernel
theorem dX11_areReached_16 : decode cX11_areReached 16 = .ok (.iconst 0, 1) := by decide +kernel
theorem dX11_areReached_17 : decode cX11_areReached 17 = .ok (.ireturn, 1) := by decide +kernel
theorem dX11_areReached_18 : decode cX11_areReached 18 = .ok (.aload_n 0, 1) := by decide +kernel
theorem dX11_areReached_19 : decode cX11_areReached 19 = .ok (.invokevirtual 215, 3) := by decide +kernel
theorem dX11_areReached_22 : decode cX11_areReached 22 = .ok (.aload_n 0, 1) := by decide +kernel
theorem dX11_areReached_23 : decode cX11_areReached 23 = .ok (.getfield 37, 3) := by decide +kernel
theorem dX11_areReached_26 : decode cX11_areReached 26 = .ok (.iload_n 1, 1) := by decide +kernel
theorem dX11_areReached_27 : decode cX11_areReached 27 = .ok (.baload, 1) := by decide +kernel
theorem dX11_areReached_28 : decode cX11_areReached 28 = .ok (.ifCond .eq 16, 3) := by decide +kernel
theorem dX11_areReached_31 : decode cX11_areReached 31 = .ok (.aload_n 0, 1) := by decide +kernel
theorem dX11_areReached_32 : decode cX11_areReached 32 = .ok (.getfield 37, 3) := by decide +kernel
theorem dX11_areReached_35 : decode cX11_areReached 35 = .ok (.iload_n 2, 1) := by decide +kernel
theorem dX11_areReached_36 : decode cX11_areReached 36 = .ok (.baload, 1) := by decide +kernel
theorem dX11_areReached_37 : decode cX11_areReached 37 = .ok (.ifCond .eq 7, 3) := by decide +kernel
theorem dX11_areReached_40 : decode cX11_areReached 40 = .ok (.iconst 1, 1) := by decide +kernel
theorem dX11_areReached_41 : decode cX11_areReached 41 = .ok (.goto 4, 3) := by decide +kernel
theorem dX11_areReached_44 : decode cX11_areReached 44 = .ok (.iconst 0, 1) := by decide +kernel
theorem dX11_areReached_45 : decode cX11_areReached 45 = .ok (.ireturn, 1) := by decide +kernel
theorem dX11_dominates_0 : decode cX11_dominates 0 = .ok (.aload_n 0, 1) := by decide +kernel
theorem dX11_dominates_1 : decode cX11_dominates 1 = .ok (.iload_n 1, 1) := by decide +kernel
theorem dX11_dominates_2 : decode cX11_dominates 2 = .ok (.iload_n 2, 1) := by decide +kernel
theorem dX11_dominates_3 : decode cX11_dominates 3 = .ok (.invokevirtual 257, 3) := by decide +kernel
theorem dX11_dominates_6 : decode cX11_dominates 6 = .ok (.ifCond .ne 7, 3) := by decide +kernel
theorem dX11_dominates_9 : decode cX11_dominates 9 = .ok (.iconst (-1), 1) := by decide +kernel
theorem dX11_dominates_10 : decode cX11_dominates 10 = .ok (.goto 17, 3) := by decide +kernel
theorem dX11_dominates_13 : decode cX11_dominates 13 = .ok (.aload_n 0, 1) := by decide +kernel
theorem dX11_dominates_14 : decode cX11_dominates 14 = .ok (.iload_n 1, 1) := by decide +kernel
theorem dX11_dominates_15 : decode cX11_dominates 15 = .ok (.iload_n 2, 1) := by decide +kernel
theorem dX11_dominates_16 : decode cX11_dominates 16 = .ok (.invokevirtual 149, 3) := by decide +kernel
theorem dX11_dominates_19 : decode cX11_dominates 19 = .ok (.ifCond .eq 7, 3) := by decide +kernel
theorem dX11_dominates_22 : decode cX11_dominates 22 = .ok (.iconst 1, 1) := by decide +kernel
theorem dX11_dominates_23 : decode cX11_dominates 23 = .ok (.goto 4, 3) := by decide +kernel
theorem dX11_dominates_26 : decode cX11_dominates 26 = .ok (.iconst 0, 1) := by decide +kernel
theorem dX11_dominates_27 : decode cX11_dominates 27 = .ok (.ireturn, 1) := by decide +kernel
theorem dX11_meets_0 : decode cX11_meets 0 = .ok (.aload_n 0, 1) := by decide +kernel
theorem dX11_meets_1 : decode cX11_meets 1 = .ok (.iload_n 1, 1) := by decide +kernel
theorem dX11_meets_2 : decode cX11_meets 2 = .ok (.iload_n 2, 1) := by decide +kernel
theorem dX11_meets_3 : decode cX11_meets 3 = .ok (.invokevirtual 257, 3) := by decide +kernel
theorem dX11_meets_6 : decode cX11_meets 6 = .ok (.ifCond .ne 7, 3) := by decide +kernel
theorem dX11_meets_9 : decode cX11_meets 9 = .ok (.iconst (-1), 1) := by decide +kernel
theorem dX11_meets_10 : decode cX11_meets 10 = .ok (.goto 22, 3) := by decide +kernel
theorem dX11_meets_13 : decode cX11_meets 13 = .ok (.aload_n 0, 1) := by decide +kernel
theorem dX11_meets_14 : decode cX11_meets 14 = .ok (.getfield 50, 3) := by decide +kernel
theorem dX11_meets_17 : decode cX11_meets 17 = .ok (.bipush 16, 2) := by decide +kernel
theorem dX11_meets_19 : decode cX11_meets 19 = .ok (.iload_n 1, 1) := by decide +kernel
theorem dX11_meets_20 : decode cX11_meets 20 = .ok (.imul, 1) := by decide +kernel
theorem dX11_meets_21 : decode cX11_meets 21 = .ok (.iload_n 2, 1) := by decide +kernel
theorem dX11_meets_22 : decode cX11_meets 22 = .ok (.iadd, 1) := by decide +kernel
theorem dX11_meets_23 : decode cX11_meets 23 = .ok (.baload, 1) := by decide +kernel
theorem dX11_meets_24 : decode cX11_meets 24 = .ok (.ifCond .eq 7, 3) := by decide +kernel
theorem dX11_meets_27 : decode cX11_meets 27 = .ok (.iconst 1, 1) := by decide +kernel
theorem dX11_meets_28 : decode cX11_meets 28 = .ok (.goto 4, 3) := by decide +kernel
theorem dX11_meets_31 : decode cX11_meets 31 = .ok (.iconst 0, 1) := by decide +kernel
theorem dX11_meets_32 : decode cX11_meets 32 = .ok (.ireturn, 1) := by decide +kernel
theorem dX11_isValue_0 : decode cX11_isValue 0 = .ok (.aload_n 0, 1) := by decide +kernel
theorem dX11_isValue_1 : decode cX11_isValue 1 = .ok (.invokevirtual 215, 3) := by decide +kernel
theorem dX11_isValue_4 : decode cX11_isValue 4 = .ok (.iload_n 1, 1) := by decide +kernel
theorem dX11_isValue_5 : decode cX11_isValue 5 = .ok (.ifCond .lt 15, 3) := by decide +kernel
theorem dX11_isValue_8 : decode cX11_isValue 8 = .ok (.iload_n 1, 1) := by decide +kernel
theorem dX11_isValue_9 : decode cX11_isValue 9 = .ok (.aload_n 0, 1) := by decide +kernel
theorem dX11_isValue_10 : decode cX11_isValue 10 = .ok (.getfield 155, 3) := by decide +kernel
theorem dX11_isValue_13 : decode cX11_isValue 13 = .ok (.if_icmp .ge 7, 3) := by decide +kernel
theorem dX11_isValue_16 : decode cX11_isValue 16 = .ok (.iconst 1, 1) := by decide +kernel
theorem dX11_isValue_17 : decode cX11_isValue 17 = .ok (.goto 4, 3) := by decide +kernel
theorem dX11_isValue_20 : decode cX11_isValue 20 = .ok (.iconst 0, 1) := by decide +kernel
theorem dX11_isValue_21 : decode cX11_isValue 21 = .ok (.ireturn, 1) := by decide +kernel
theorem dX11_value_0 : decode cX11_value 0 = .ok (.aload_n 0, 1) := by decide +kernel
theorem dX11_value_1 : decode cX11_value 1 = .ok (.iload_n 1, 1) := by decide +kernel
theorem dX11_value_2 : decode cX11_value 2 = .ok (.invokevirtual 260, 3) := by decide +kernel
theorem dX11_value_5 : decode cX11_value 5 = .ok (.ifCond .ne 5, 3) := by decide +kernel
theorem dX11_value_8 : decode cX11_value 8 = .ok (.iconst (-1), 1) := by decide +kernel
theorem dX11_value_9 : decode cX11_value 9 = .ok (.ireturn, 1) := by decide +kernel
theorem dX11_value_10 : decode cX11_value 10 = .ok (.iload_n 2, 1) := by decide +kernel
theorem dX11_value_11 : decode cX11_value 11 = .ok (.tableswitch 98 0 6 #[41, 48, 55, 62, 69, 84, 91], 41) := by decide +kernel
theorem dX11_value_52 : decode cX11_value 52 = .ok (.aload_n 0, 1) := by decide +kernel
theorem dX11_value_53 : decode cX11_value 53 = .ok (.getfield 56, 3) := by decide +kernel
theorem dX11_value_56 : decode cX11_value 56 = .ok (.iload_n 1, 1) := by decide +kernel
theorem dX11_value_57 : decode cX11_value 57 = .ok (.iaload, 1) := by decide +kernel
theorem dX11_value_58 : decode cX11_value 58 = .ok (.ireturn, 1) := by decide +kernel
theorem dX11_value_59 : decode cX11_value 59 = .ok (.aload_n 0, 1) := by decide +kernel
theorem dX11_value_60 : decode cX11_value 60 = .ok (.getfield 59, 3) := by decide +kernel
theorem dX11_value_63 : decode cX11_value 63 = .ok (.iload_n 1, 1) := by decide +kernel
theorem dX11_value_64 : decode cX11_value 64 = .ok (.iaload, 1) := by decide +kernel
theorem dX11_value_65 : decode cX11_value 65 = .ok (.ireturn, 1) := by decide +kernel
theorem dX11_value_66 : decode cX11_value 66 = .ok (.aload_n 0, 1) := by decide +kernel
theorem dX11_value_67 : decode cX11_value 67 = .ok (.getfield 62, 3) := by decide +kernel
theorem dX11_value_70 : decode cX11_value 70 = .ok (.iload_n 1, 1) := by decide +kernel
theorem dX11_value_71 : decode cX11_value 71 = .ok (.iaload, 1) := by decide +kernel
theorem dX11_value_72 : decode cX11_value 72 = .ok (.ireturn, 1) := by decide +kernel
theorem dX11_value_73 : decode cX11_value 73 = .ok (.aload_n 0, 1) := by decide +kernel
theorem dX11_value_74 : decode cX11_value 74 = .ok (.getfield 92, 3) := by decide +kernel
theorem dX11_value_77 : decode cX11_value 77 = .ok (.iload_n 1, 1) := by decide +kernel
theorem dX11_value_78 : decode cX11_value 78 = .ok (.iaload, 1) := by decide +kernel
theorem dX11_value_79 : decode cX11_value 79 = .ok (.ireturn, 1) := by decide +kernel
theorem dX11_value_80 : decode cX11_value 80 = .ok (.aload_n 0, 1) := by decide +kernel
theorem dX11_value_81 : decode cX11_value 81 = .ok (.getfield 98, 3) := by decide +kernel
theorem dX11_value_84 : decode cX11_value 84 = .ok (.iload_n 1, 1) := by decide +kernel
theorem dX11_value_85 : decode cX11_value 85 = .ok (.baload, 1) := by decide +kernel
theorem dX11_value_86 : decode cX11_value 86 = .ok (.ifCond .eq 7, 3) := by decide +kernel
theorem dX11_value_89 : decode cX11_value 89 = .ok (.iconst 1, 1) := by decide +kernel
theorem dX11_value_90 : decode cX11_value 90 = .ok (.goto 4, 3) := by decide +kernel
theorem dX11_value_93 : decode cX11_value 93 = .ok (.iconst 0, 1) := by decide +kernel
theorem dX11_value_94 : decode cX11_value 94 = .ok (.ireturn, 1) := by decide +kernel
theorem dX11_value_95 : decode cX11_value 95 = .ok (.aload_n 0, 1) := by decide +kernel
theorem dX11_value_96 : decode cX11_value 96 = .ok (.getfield 74, 3) := by decide +kernel
theorem dX11_value_99 : decode cX11_value 99 = .ok (.iload_n 1, 1) := by decide +kernel
theorem dX11_value_100 : decode cX11_value 100 = .ok (.iaload, 1) := by decide +kernel
theorem dX11_value_101 : decode cX11_value 101 = .ok (.ireturn, 1) := by decide +kernel
theorem dX11_value_102 : decode cX11_value 102 = .ok (.aload_n 0, 1) := by decide +kernel
theorem dX11_value_103 : decode cX11_value 103 = .ok (.getfield 65, 3) := by decide +kernel
theorem dX11_value_106 : decode cX11_value 106 = .ok (.iload_n 1, 1) := by decide +kernel
theorem dX11_value_107 : decode cX11_value 107 = .ok (.iaload, 1) := by decide +kernel
theorem dX11_value_108 : decode cX11_value 108 = .ok (.ireturn, 1) := by decide +kernel
theorem dX11_value_109 : decode cX11_value 109 = .ok (.iconst (-1), 1) := by decide +kernel
theorem dX11_value_110 : decode cX11_value 110 = .ok (.ireturn, 1) := by decide +kernel
theorem dX11_isOperand_0 : decode cX11_isOperand 0 = .ok (.aload_n 0, 1) := by decide +kernel
theorem dX11_isOperand_1 : decode cX11_isOperand 1 = .ok (.iload_n 1, 1) := by decide +kernel
theorem dX11_isOperand_2 : decode cX11_isOperand 2 = .ok (.invokevirtual 260, 3) := by decide +kernel
theorem dX11_isOperand_5 : decode cX11_isOperand 5 = .ok (.ifCond .eq 21, 3) := by decide +kernel
theorem dX11_isOperand_8 : decode cX11_isOperand 8 = .ok (.iload_n 2, 1) := by decide +kernel
theorem dX11_isOperand_9 : decode cX11_isOperand 9 = .ok (.ifCond .lt 17, 3) := by decide +kernel
theorem dX11_isOperand_12 : decode cX11_isOperand 12 = .ok (.iload_n 2, 1) := by decide +kernel
theorem dX11_isOperand_13 : decode cX11_isOperand 13 = .ok (.aload_n 0, 1) := by decide +kernel
theorem dX11_isOperand_14 : decode cX11_isOperand 14 = .ok (.getfield 74, 3) := by decide +kernel
theorem dX11_isOperand_17 : decode cX11_isOperand 17 = .ok (.iload_n 1, 1) := by decide +kernel
theorem dX11_isOperand_18 : decode cX11_isOperand 18 = .ok (.iaload, 1) := by decide +kernel
theorem dX11_isOperand_19 : decode cX11_isOperand 19 = .ok (.if_icmp .ge 7, 3) := by decide +kernel
theorem dX11_isOperand_22 : decode cX11_isOperand 22 = .ok (.iconst 1, 1) := by decide +kernel
theorem dX11_isOperand_23 : decode cX11_isOperand 23 = .ok (.goto 4, 3) := by decide +kernel
theorem dX11_isOperand_26 : decode cX11_isOperand 26 = .ok (.iconst 0, 1) := by decide +kernel
theorem dX11_isOperand_27 : decode cX11_isOperand 27 = .ok (.ireturn, 1) := by decide +kernel
theorem dX11_operand_0 : decode cX11_operand 0 = .ok (.aload_n 0, 1) := by decide +kernel
theorem dX11_operand_1 : decode cX11_operand 1 = .ok (.iload_n 1, 1) := by decide +kernel
theorem dX11_operand_2 : decode cX11_operand 2 = .ok (.iload_n 2, 1) := by decide +kernel
theorem dX11_operand_3 : decode cX11_operand 3 = .ok (.invokevirtual 263, 3) := by decide +kernel
theorem dX11_operand_6 : decode cX11_operand 6 = .ok (.ifCond .eq 17, 3) := by decide +kernel
theorem dX11_operand_9 : decode cX11_operand 9 = .ok (.aload_n 0, 1) := by decide +kernel
theorem dX11_operand_10 : decode cX11_operand 10 = .ok (.getfield 71, 3) := by decide +kernel
theorem dX11_operand_13 : decode cX11_operand 13 = .ok (.bipush 20, 2) := by decide +kernel
theorem dX11_operand_15 : decode cX11_operand 15 = .ok (.iload_n 1, 1) := by decide +kernel
theorem dX11_operand_16 : decode cX11_operand 16 = .ok (.imul, 1) := by decide +kernel
theorem dX11_operand_17 : decode cX11_operand 17 = .ok (.iload_n 2, 1) := by decide +kernel
theorem dX11_operand_18 : decode cX11_operand 18 = .ok (.iadd, 1) := by decide +kernel
theorem dX11_operand_19 : decode cX11_operand 19 = .ok (.iaload, 1) := by decide +kernel
theorem dX11_operand_20 : decode cX11_operand 20 = .ok (.goto 4, 3) := by decide +kernel
theorem dX11_operand_23 : decode cX11_operand 23 = .ok (.iconst (-1), 1) := by decide +kernel
theorem dX11_operand_24 : decode cX11_operand 24 = .ok (.ireturn, 1) := by decide +kernel
theorem dX11_led_0 : decode cX11_led 0 = .ok (.aload_n 0, 1) := by decide +kernel
theorem dX11_led_1 : decode cX11_led 1 = .ok (.iload_n 1, 1) := by decide +kernel
theorem dX11_led_2 : decode cX11_led 2 = .ok (.iload_n 2, 1) := by decide +kernel
theorem dX11_led_3 : decode cX11_led 3 = .ok (.invokevirtual 263, 3) := by decide +kernel
theorem dX11_led_6 : decode cX11_led 6 = .ok (.ifCond .eq 21, 3) := by decide +kernel
theorem dX11_led_9 : decode cX11_led 9 = .ok (.aload_n 0, 1) := by decide +kernel
theorem dX11_led_10 : decode cX11_led 10 = .ok (.getfield 98, 3) := by decide +kernel
theorem dX11_led_13 : decode cX11_led 13 = .ok (.iload_n 1, 1) := by decide +kernel
theorem dX11_led_14 : decode cX11_led 14 = .ok (.baload, 1) := by decide +kernel
theorem dX11_led_15 : decode cX11_led 15 = .ok (.ifCond .ne 12, 3) := by decide +kernel
theorem dX11_led_18 : decode cX11_led 18 = .ok (.aload_n 0, 1) := by decide +kernel
theorem dX11_led_19 : decode cX11_led 19 = .ok (.iload_n 1, 1) := by decide +kernel
theorem dX11_led_20 : decode cX11_led 20 = .ok (.iload_n 2, 1) := by decide +kernel
theorem dX11_led_21 : decode cX11_led 21 = .ok (.invokevirtual 245, 3) := by decide +kernel
theorem dX11_led_24 : decode cX11_led 24 = .ok (.goto 4, 3) := by decide +kernel
theorem dX11_led_27 : decode cX11_led 27 = .ok (.iconst (-1), 1) := by decide +kernel
theorem dX11_led_28 : decode cX11_led 28 = .ok (.ireturn, 1) := by decide +kernel
theorem dX11_classOf_0 : decode cX11_classOf 0 = .ok (.aload_n 0, 1) := by decide +kernel
theorem dX11_classOf_1 : decode cX11_classOf 1 = .ok (.iload_n 1, 1) := by decide +kernel
theorem dX11_classOf_2 : decode cX11_classOf 2 = .ok (.invokevirtual 260, 3) := by decide +kernel
theorem dX11_classOf_5 : decode cX11_classOf 5 = .ok (.ifCond .eq 12, 3) := by decide +kernel
theorem dX11_classOf_8 : decode cX11_classOf 8 = .ok (.aload_n 0, 1) := by decide +kernel
theorem dX11_classOf_9 : decode cX11_classOf 9 = .ok (.getfield 92, 3) := by decide +kernel
theorem dX11_classOf_12 : decode cX11_classOf 12 = .ok (.iload_n 1, 1) := by decide +kernel
theorem dX11_classOf_13 : decode cX11_classOf 13 = .ok (.iaload, 1) := by decide +kernel
theorem dX11_classOf_14 : decode cX11_classOf 14 = .ok (.goto 4, 3) := by decide +kernel
theorem dX11_classOf_17 : decode cX11_classOf 17 = .ok (.iconst (-1), 1) := by decide +kernel
theorem dX11_classOf_18 : decode cX11_classOf 18 = .ok (.ireturn, 1) := by decide +kernel
theorem dX11_read_0 : decode cX11_read 0 = .ok (.aload_n 0, 1) := by decide +kernel
theorem dX11_read_1 : decode cX11_read 1 = .ok (.iload_n 1, 1) := by decide +kernel
theorem dX11_read_2 : decode cX11_read 2 = .ok (.invokevirtual 127, 3) := by decide +kernel
theorem dX11_read_5 : decode cX11_read 5 = .ok (.ifCond .ne 5, 3) := by decide +kernel
theorem dX11_read_8 : decode cX11_read 8 = .ok (.iconst (-1), 1) := by decide +kernel
theorem dX11_read_9 : decode cX11_read 9 = .ok (.ireturn, 1) := by decide +kernel
theorem dX11_read_10 : decode cX11_read 10 = .ok (.aload_n 0, 1) := by decide +kernel
theorem dX11_read_11 : decode cX11_read 11 = .ok (.invokevirtual 215, 3) := by decide +kernel
theorem dX11_read_14 : decode cX11_read 14 = .ok (.aload_n 0, 1) := by decide +kernel
theorem dX11_read_15 : decode cX11_read 15 = .ok (.getfield 37, 3) := by decide +kernel
theorem dX11_read_18 : decode cX11_read 18 = .ok (.iload_n 1, 1) := by decide +kernel
theorem dX11_read_19 : decode cX11_read 19 = .ok (.baload, 1) := by decide +kernel
theorem dX11_read_20 : decode cX11_read 20 = .ok (.ifCond .eq 21, 3) := by decide +kernel
theorem dX11_read_23 : decode cX11_read 23 = .ok (.aload_n 0, 1) := by decide +kernel
theorem dX11_read_24 : decode cX11_read 24 = .ok (.iload_n 1, 1) := by decide +kernel
theorem dX11_read_25 : decode cX11_read 25 = .ok (.invokevirtual 137, 3) := by decide +kernel
theorem dX11_read_28 : decode cX11_read 28 = .ok (.iconst 1, 1) := by decide +kernel
theorem dX11_read_29 : decode cX11_read 29 = .ok (.if_icmp .eq 12, 3) := by decide +kernel
theorem dX11_read_32 : decode cX11_read 32 = .ok (.aload_n 0, 1) := by decide +kernel
theorem dX11_read_33 : decode cX11_read 33 = .ok (.iload_n 1, 1) := by decide +kernel
theorem dX11_read_34 : decode cX11_read 34 = .ok (.iload_n 2, 1) := by decide +kernel
theorem dX11_read_35 : decode cX11_read 35 = .ok (.invokevirtual 241, 3) := by decide +kernel
theorem dX11_read_38 : decode cX11_read 38 = .ok (.goto 4, 3) := by decide +kernel
theorem dX11_read_41 : decode cX11_read 41 = .ok (.iconst (-1), 1) := by decide +kernel
theorem dX11_read_42 : decode cX11_read 42 = .ok (.ireturn, 1) := by decide +kernel
theorem dX11_emits_0 : decode cX11_emits 0 = .ok (.aload_n 0, 1) := by decide +kernel
theorem dX11_emits_1 : decode cX11_emits 1 = .ok (.iload_n 1, 1) := by decide +kernel
theorem dX11_emits_2 : decode cX11_emits 2 = .ok (.invokevirtual 127, 3) := by decide +kernel
theorem dX11_emits_5 : decode cX11_emits 5 = .ok (.ifCond .eq 7, 3) := by decide +kernel
theorem dX11_emits_8 : decode cX11_emits 8 = .ok (.iload_n 2, 1) := by decide +kernel
theorem dX11_emits_9 : decode cX11_emits 9 = .ok (.ifCond .ge 5, 3) := by decide +kernel
theorem dX11_emits_12 : decode cX11_emits 12 = .ok (.iconst (-1), 1) := by decide +kernel
theorem dX11_emits_13 : decode cX11_emits 13 = .ok (.ireturn, 1) := by decide +kernel
theorem dX11_emits_14 : decode cX11_emits 14 = .ok (.aload_n 0, 1) := by decide +kernel
theorem dX11_emits_15 : decode cX11_emits 15 = .ok (.invokevirtual 215, 3) := by decide +kernel
theorem dX11_emits_18 : decode cX11_emits 18 = .ok (.aload_n 0, 1) := by decide +kernel
theorem dX11_emits_19 : decode cX11_emits 19 = .ok (.getfield 37, 3) := by decide +kernel
theorem dX11_emits_22 : decode cX11_emits 22 = .ok (.iload_n 1, 1) := by decide +kernel
theorem dX11_emits_23 : decode cX11_emits 23 = .ok (.baload, 1) := by decide +kernel
theorem dX11_emits_24 : decode cX11_emits 24 = .ok (.ifCond .ne 5, 3) := by decide +kernel
theorem dX11_emits_27 : decode cX11_emits 27 = .ok (.iconst (-1), 1) := by decide +kernel
theorem dX11_emits_28 : decode cX11_emits 28 = .ok (.ireturn, 1) := by decide +kernel
theorem dX11_emits_29 : decode cX11_emits 29 = .ok (.iconst 0, 1) := by decide +kernel
theorem dX11_emits_30 : decode cX11_emits 30 = .ok (.istore 4, 2) := by decide +kernel
theorem dX11_emits_32 : decode cX11_emits 32 = .ok (.iconst 0, 1) := by decide +kernel
theorem dX11_emits_33 : decode cX11_emits 33 = .ok (.istore 5, 2) := by decide +kernel
theorem dX11_emits_35 : decode cX11_emits 35 = .ok (.iload 5, 2) := by decide +kernel
theorem dX11_emits_37 : decode cX11_emits 37 = .ok (.aload_n 0, 1) := by decide +kernel
theorem dX11_emits_38 : decode cX11_emits 38 = .ok (.getfield 22, 3) := by decide +kernel
theorem dX11_emits_41 : decode cX11_emits 41 = .ok (.iload_n 1, 1) := by decide +kernel
theorem dX11_emits_42 : decode cX11_emits 42 = .ok (.iaload, 1) := by decide +kernel
theorem dX11_emits_43 : decode cX11_emits 43 = .ok (.if_icmp .ge 78, 3) := by decide +kernel
theorem dX11_emits_46 : decode cX11_emits 46 = .ok (.aload_n 0, 1) := by decide +kernel
theorem dX11_emits_47 : decode cX11_emits 47 = .ok (.getfield 7, 3) := by decide +kernel
theorem dX11_emits_50 : decode cX11_emits 50 = .ok (.bipush 100, 2) := by decide +kernel
theorem dX11_emits_52 : decode cX11_emits 52 = .ok (.iload_n 1, 1) := by decide +kernel
theorem dX11_emits_53 : decode cX11_emits 53 = .ok (.imul, 1) := by decide +kernel
theorem dX11_emits_54 : decode cX11_emits 54 = .ok (.iload 5, 2) := by decide +kernel
theorem dX11_emits_56 : decode cX11_emits 56 = .ok (.iadd, 1) := by decide +kernel
theorem dX11_emits_57 : decode cX11_emits 57 = .ok (.iaload, 1) := by decide +kernel
theorem dX11_emits_58 : decode cX11_emits 58 = .ok (.bipush 14, 2) := by decide +kernel
theorem dX11_emits_60 : decode cX11_emits 60 = .ok (.if_icmp .eq 6, 3) := by decide +kernel
theorem dX11_emits_63 : decode cX11_emits 63 = .ok (.goto 52, 3) := by decide +kernel
theorem dX11_emits_66 : decode cX11_emits 66 = .ok (.iload 4, 2) := by decide +kernel
theorem dX11_emits_68 : decode cX11_emits 68 = .ok (.iload_n 2, 1) := by decide +kernel
theorem dX11_emits_69 : decode cX11_emits 69 = .ok (.if_icmp .ne 43, 3) := by decide +kernel
theorem dX11_emits_72 : decode cX11_emits 72 = .ok (.aload_n 0, 1) := by decide +kernel
theorem dX11_emits_73 : decode cX11_emits 73 = .ok (.iload_n 1, 1) := by decide +kernel
theorem dX11_emits_74 : decode cX11_emits 74 = .ok (.iload 5, 2) := by decide +kernel
theorem dX11_emits_76 : decode cX11_emits 76 = .ok (.aload_n 0, 1) := by decide +kernel
theorem dX11_emits_77 : decode cX11_emits 77 = .ok (.getfield 13, 3) := by decide +kernel
theorem dX11_emits_80 : decode cX11_emits 80 = .ok (.bipush 100, 2) := by decide +kernel
theorem dX11_emits_82 : decode cX11_emits 82 = .ok (.iload_n 1, 1) := by decide +kernel
theorem dX11_emits_83 : decode cX11_emits 83 = .ok (.imul, 1) := by decide +kernel
theorem dX11_emits_84 : decode cX11_emits 84 = .ok (.iload 5, 2) := by decide +kernel
theorem dX11_emits_86 : decode cX11_emits 86 = .ok (.iadd, 1) := by decide +kernel
theorem dX11_emits_87 : decode cX11_emits 87 = .ok (.iaload, 1) := by decide +kernel
theorem dX11_emits_88 : decode cX11_emits 88 = .ok (.invokevirtual 254, 3) := by decide +kernel
theorem dX11_emits_91 : decode cX11_emits 91 = .ok (.istore 6, 2) := by decide +kernel
theorem dX11_emits_93 : decode cX11_emits 93 = .ok (.iload_n 3, 1) := by decide +kernel
theorem dX11_emits_94 : decode cX11_emits 94 = .ok (.ifCond .eq 15, 3) := by decide +kernel
theorem dX11_emits_97 : decode cX11_emits 97 = .ok (.aload_n 0, 1) := by decide +kernel
theorem dX11_emits_98 : decode cX11_emits 98 = .ok (.iload 6, 2) := by decide +kernel
theorem dX11_emits_100 : decode cX11_emits 100 = .ok (.iload_n 1, 1) := by decide +kernel
theorem dX11_emits_101 : decode cX11_emits 101 = .ok (.iload 5, 2) := by decide +kernel
theorem dX11_emits_103 : decode cX11_emits 103 = .ok (.invokevirtual 201, 3) := by decide +kernel
theorem dX11_emits_106 : decode cX11_emits 106 = .ok (.goto 5, 3) := by decide +kernel
theorem dX11_emits_109 : decode cX11_emits 109 = .ok (.iload 6, 2) := by decide +kernel
theorem dX11_emits_111 : decode cX11_emits 111 = .ok (.ireturn, 1) := by decide +kernel
theorem dX11_emits_112 : decode cX11_emits 112 = .ok (.iinc 4 1, 3) := by decide +kernel
theorem dX11_emits_115 : decode cX11_emits 115 = .ok (.iinc 5 1, 3) := by decide +kernel
theorem dX11_emits_118 : decode cX11_emits 118 = .ok (.goto (-83), 3) := by decide +kernel
theorem dX11_emits_121 : decode cX11_emits 121 = .ok (.iconst (-1), 1) := by decide +kernel
theorem dX11_emits_122 : decode cX11_emits 122 = .ok (.ireturn, 1) := by decide +kernel
theorem dX11_count_0 : decode cX11_count 0 = .ok (.aload_n 0, 1) := by decide +kernel
theorem dX11_count_1 : decode cX11_count 1 = .ok (.invokevirtual 215, 3) := by decide +kernel
theorem dX11_count_4 : decode cX11_count 4 = .ok (.iconst 0, 1) := by decide +kernel
theorem dX11_count_5 : decode cX11_count 5 = .ok (.istore_n 2, 1) := by decide +kernel
theorem dX11_count_6 : decode cX11_count 6 = .ok (.iload_n 1, 1) := by decide +kernel
theorem dX11_count_7 : decode cX11_count 7 = .ok (.tableswitch 199 0 6 #[41, 46, 51, 86, 91, 127, 162], 41) := by decide +kernel
theorem dX11_count_48 : decode cX11_count 48 = .ok (.aload_n 0, 1) := by decide +kernel
theorem dX11_count_49 : decode cX11_count 49 = .ok (.getfield 120, 3) := by decide +kernel
theorem dX11_count_52 : decode cX11_count 52 = .ok (.ireturn, 1) := by decide +kernel
theorem dX11_count_53 : decode cX11_count 53 = .ok (.aload_n 0, 1) := by decide +kernel
theorem dX11_count_54 : decode cX11_count 54 = .ok (.getfield 131, 3) := by decide +kernel
theorem dX11_count_57 : decode cX11_count 57 = .ok (.ireturn, 1) := by decide +kernel
theorem dX11_count_58 : decode cX11_count 58 = .ok (.iconst 0, 1) := by decide +kernel
theorem dX11_count_59 : decode cX11_count 59 = .ok (.istore_n 3, 1) := by decide +kernel
theorem dX11_count_60 : decode cX11_count 60 = .ok (.iload_n 3, 1) := by decide +kernel
theorem dX11_count_61 : decode cX11_count 61 = .ok (.aload_n 0, 1) := by decide +kernel
theorem dX11_count_62 : decode cX11_count 62 = .ok (.getfield 120, 3) := by decide +kernel
theorem dX11_count_65 : decode cX11_count 65 = .ok (.if_icmp .ge 26, 3) := by decide +kernel
theorem dX11_count_68 : decode cX11_count 68 = .ok (.iload_n 2, 1) := by decide +kernel
theorem dX11_count_69 : decode cX11_count 69 = .ok (.aload_n 0, 1) := by decide +kernel
theorem dX11_count_70 : decode cX11_count 70 = .ok (.getfield 37, 3) := by decide +kernel
theorem dX11_count_73 : decode cX11_count 73 = .ok (.iload_n 3, 1) := by decide +kernel
theorem dX11_count_74 : decode cX11_count 74 = .ok (.baload, 1) := by decide +kernel
theorem dX11_count_75 : decode cX11_count 75 = .ok (.ifCond .eq 7, 3) := by decide +kernel
theorem dX11_count_78 : decode cX11_count 78 = .ok (.iconst 1, 1) := by decide +kernel
theorem dX11_count_79 : decode cX11_count 79 = .ok (.goto 4, 3) := by decide +kernel
theorem dX11_count_82 : decode cX11_count 82 = .ok (.iconst 0, 1) := by decide +kernel
theorem dX11_count_83 : decode cX11_count 83 = .ok (.iadd, 1) := by decide +kernel
theorem dX11_count_84 : decode cX11_count 84 = .ok (.istore_n 2, 1) := by decide +kernel
theorem dX11_count_85 : decode cX11_count 85 = .ok (.iinc 3 1, 3) := by decide +kernel
theorem dX11_count_88 : decode cX11_count 88 = .ok (.goto (-28), 3) := by decide +kernel
theorem dX11_count_91 : decode cX11_count 91 = .ok (.iload_n 2, 1) := by decide +kernel
theorem dX11_count_92 : decode cX11_count 92 = .ok (.ireturn, 1) := by decide +kernel
theorem dX11_count_93 : decode cX11_count 93 = .ok (.aload_n 0, 1) := by decide +kernel
theorem dX11_count_94 : decode cX11_count 94 = .ok (.getfield 155, 3) := by decide +kernel
theorem dX11_count_97 : decode cX11_count 97 = .ok (.ireturn, 1) := by decide +kernel
theorem dX11_count_98 : decode cX11_count 98 = .ok (.iconst 0, 1) := by decide +kernel
theorem dX11_count_99 : decode cX11_count 99 = .ok (.istore_n 3, 1) := by decide +kernel
theorem dX11_count_100 : decode cX11_count 100 = .ok (.iload_n 3, 1) := by decide +kernel
theorem dX11_count_101 : decode cX11_count 101 = .ok (.aload_n 0, 1) := by decide +kernel
theorem dX11_count_102 : decode cX11_count 102 = .ok (.getfield 155, 3) := by decide +kernel
theorem dX11_count_105 : decode cX11_count 105 = .ok (.if_icmp .ge 27, 3) := by decide +kernel
theorem dX11_count_108 : decode cX11_count 108 = .ok (.iload_n 2, 1) := by decide +kernel
theorem dX11_count_109 : decode cX11_count 109 = .ok (.aload_n 0, 1) := by decide +kernel
theorem dX11_count_110 : decode cX11_count 110 = .ok (.getfield 92, 3) := by decide +kernel
theorem dX11_count_113 : decode cX11_count 113 = .ok (.iload_n 3, 1) := by decide +kernel
theorem dX11_count_114 : decode cX11_count 114 = .ok (.iaload, 1) := by decide +kernel
theorem dX11_count_115 : decode cX11_count 115 = .ok (.iload_n 3, 1) := by decide +kernel
theorem dX11_count_116 : decode cX11_count 116 = .ok (.if_icmp .ne 7, 3) := by decide +kernel
theorem dX11_count_119 : decode cX11_count 119 = .ok (.iconst 1, 1) := by decide +kernel
theorem dX11_count_120 : decode cX11_count 120 = .ok (.goto 4, 3) := by decide +kernel
theorem dX11_count_123 : decode cX11_count 123 = .ok (.iconst 0, 1) := by decide +kernel
theorem dX11_count_124 : decode cX11_count 124 = .ok (.iadd, 1) := by decide +kernel
theorem dX11_count_125 : decode cX11_count 125 = .ok (.istore_n 2, 1) := by decide +kernel
theorem dX11_count_126 : decode cX11_count 126 = .ok (.iinc 3 1, 3) := by decide +kernel
theorem dX11_count_129 : decode cX11_count 129 = .ok (.goto (-29), 3) := by decide +kernel
theorem dX11_count_132 : decode cX11_count 132 = .ok (.iload_n 2, 1) := by decide +kernel
theorem dX11_count_133 : decode cX11_count 133 = .ok (.ireturn, 1) := by decide +kernel
theorem dX11_count_134 : decode cX11_count 134 = .ok (.iconst 0, 1) := by decide +kernel
theorem dX11_count_135 : decode cX11_count 135 = .ok (.istore_n 3, 1) := by decide +kernel
theorem dX11_count_136 : decode cX11_count 136 = .ok (.iload_n 3, 1) := by decide +kernel
theorem dX11_count_137 : decode cX11_count 137 = .ok (.aload_n 0, 1) := by decide +kernel
theorem dX11_count_138 : decode cX11_count 138 = .ok (.getfield 155, 3) := by decide +kernel
theorem dX11_count_141 : decode cX11_count 141 = .ok (.if_icmp .ge 26, 3) := by decide +kernel
theorem dX11_count_144 : decode cX11_count 144 = .ok (.iload_n 2, 1) := by decide +kernel
theorem dX11_count_145 : decode cX11_count 145 = .ok (.aload_n 0, 1) := by decide +kernel
theorem dX11_count_146 : decode cX11_count 146 = .ok (.getfield 98, 3) := by decide +kernel
theorem dX11_count_149 : decode cX11_count 149 = .ok (.iload_n 3, 1) := by decide +kernel
theorem dX11_count_150 : decode cX11_count 150 = .ok (.baload, 1) := by decide +kernel
theorem dX11_count_151 : decode cX11_count 151 = .ok (.ifCond .eq 7, 3) := by decide +kernel
theorem dX11_count_154 : decode cX11_count 154 = .ok (.iconst 1, 1) := by decide +kernel
theorem dX11_count_155 : decode cX11_count 155 = .ok (.goto 4, 3) := by decide +kernel
theorem dX11_count_158 : decode cX11_count 158 = .ok (.iconst 0, 1) := by decide +kernel
theorem dX11_count_159 : decode cX11_count 159 = .ok (.iadd, 1) := by decide +kernel
theorem dX11_count_160 : decode cX11_count 160 = .ok (.istore_n 2, 1) := by decide +kernel
theorem dX11_count_161 : decode cX11_count 161 = .ok (.iinc 3 1, 3) := by decide +kernel
theorem dX11_count_164 : decode cX11_count 164 = .ok (.goto (-28), 3) := by decide +kernel
theorem dX11_count_167 : decode cX11_count 167 = .ok (.iload_n 2, 1) := by decide +kernel
theorem dX11_count_168 : decode cX11_count 168 = .ok (.ireturn, 1) := by decide +kernel
theorem dX11_count_169 : decode cX11_count 169 = .ok (.iconst 0, 1) := by decide +kernel
theorem dX11_count_170 : decode cX11_count 170 = .ok (.istore_n 3, 1) := by decide +kernel
theorem dX11_count_171 : decode cX11_count 171 = .ok (.iload_n 3, 1) := by decide +kernel
theorem dX11_count_172 : decode cX11_count 172 = .ok (.aload_n 0, 1) := by decide +kernel
theorem dX11_count_173 : decode cX11_count 173 = .ok (.getfield 155, 3) := by decide +kernel
theorem dX11_count_176 : decode cX11_count 176 = .ok (.if_icmp .ge 28, 3) := by decide +kernel
theorem dX11_count_179 : decode cX11_count 179 = .ok (.iload_n 2, 1) := by decide +kernel
theorem dX11_count_180 : decode cX11_count 180 = .ok (.aload_n 0, 1) := by decide +kernel
theorem dX11_count_181 : decode cX11_count 181 = .ok (.getfield 56, 3) := by decide +kernel
theorem dX11_count_184 : decode cX11_count 184 = .ok (.iload_n 3, 1) := by decide +kernel
theorem dX11_count_185 : decode cX11_count 185 = .ok (.iaload, 1) := by decide +kernel
theorem dX11_count_186 : decode cX11_count 186 = .ok (.bipush 15, 2) := by decide +kernel
theorem dX11_count_188 : decode cX11_count 188 = .ok (.if_icmp .ne 7, 3) := by decide +kernel
theorem dX11_count_191 : decode cX11_count 191 = .ok (.iconst 1, 1) := by decide +kernel
theorem dX11_count_192 : decode cX11_count 192 = .ok (.goto 4, 3) := by decide +kernel
theorem dX11_count_195 : decode cX11_count 195 = .ok (.iconst 0, 1) := by decide +kernel
theorem dX11_count_196 : decode cX11_count 196 = .ok (.iadd, 1) := by decide +kernel
theorem dX11_count_197 : decode cX11_count 197 = .ok (.istore_n 2, 1) := by decide +kernel
theorem dX11_count_198 : decode cX11_count 198 = .ok (.iinc 3 1, 3) := by decide +kernel
theorem dX11_count_201 : decode cX11_count 201 = .ok (.goto (-30), 3) := by decide +kernel
theorem dX11_count_204 : decode cX11_count 204 = .ok (.iload_n 2, 1) := by decide +kernel
theorem dX11_count_205 : decode cX11_count 205 = .ok (.ireturn, 1) := by decide +kernel
theorem dX11_count_206 : decode cX11_count 206 = .ok (.iconst (-1), 1) := by decide +kernel
theorem dX11_count_207 : decode cX11_count 207 = .ok (.ireturn, 1) := by decide +kernel
