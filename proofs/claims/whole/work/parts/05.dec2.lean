theorem dX9_done_99 : decode cX9_done 99 = .ok (.if_icmp .ge 44, 3) := by decide +kernel
theorem dX9_done_102 : decode cX9_done 102 = .ok (.iload_n 2, 1) := by decide +kernel
theorem dX9_done_103 : decode cX9_done 103 = .ok (.aload_n 0, 1) := by decide +kernel
theorem dX9_done_104 : decode cX9_done 104 = .ok (.getfield 39, 3) := by decide +kernel
theorem dX9_done_107 : decode cX9_done 107 = .ok (.iconst 0, 1) := by decide +kernel
theorem dX9_done_108 : decode cX9_done 108 = .ok (.iconst 4, 1) := by decide +kernel
theorem dX9_done_109 : decode cX9_done 109 = .ok (.iload_n 1, 1) := by decide +kernel
theorem dX9_done_110 : decode cX9_done 110 = .ok (.imul, 1) := by decide +kernel
theorem dX9_done_111 : decode cX9_done 111 = .ok (.iadd, 1) := by decide +kernel
theorem dX9_done_112 : decode cX9_done 112 = .ok (.iload_n 3, 1) := by decide +kernel
theorem dX9_done_113 : decode cX9_done 113 = .ok (.iadd, 1) := by decide +kernel
theorem dX9_done_114 : decode cX9_done 114 = .ok (.iaload, 1) := by decide +kernel
theorem dX9_done_115 : decode cX9_done 115 = .ok (.aload_n 0, 1) := by decide +kernel
theorem dX9_done_116 : decode cX9_done 116 = .ok (.getfield 33, 3) := by decide +kernel
theorem dX9_done_119 : decode cX9_done 119 = .ok (.iconst 0, 1) := by decide +kernel
theorem dX9_done_120 : decode cX9_done 120 = .ok (.iconst 4, 1) := by decide +kernel
theorem dX9_done_121 : decode cX9_done 121 = .ok (.iload_n 1, 1) := by decide +kernel
theorem dX9_done_122 : decode cX9_done 122 = .ok (.imul, 1) := by decide +kernel
theorem dX9_done_123 : decode cX9_done 123 = .ok (.iadd, 1) := by decide +kernel
theorem dX9_done_124 : decode cX9_done 124 = .ok (.iload_n 3, 1) := by decide +kernel
theorem dX9_done_125 : decode cX9_done 125 = .ok (.iadd, 1) := by decide +kernel
theorem dX9_done_126 : decode cX9_done 126 = .ok (.iaload, 1) := by decide +kernel
theorem dX9_done_127 : decode cX9_done 127 = .ok (.if_icmp .ne 7, 3) := by decide +kernel
theorem dX9_done_130 : decode cX9_done 130 = .ok (.iconst 1, 1) := by decide +kernel
theorem dX9_done_131 : decode cX9_done 131 = .ok (.goto 4, 3) := by decide +kernel
theorem dX9_done_134 : decode cX9_done 134 = .ok (.iconst 0, 1) := by decide +kernel
theorem dX9_done_135 : decode cX9_done 135 = .ok (.iand, 1) := by decide +kernel
theorem dX9_done_136 : decode cX9_done 136 = .ok (.istore_n 2, 1) := by decide +kernel
theorem dX9_done_137 : decode cX9_done 137 = .ok (.iinc 3 1, 3) := by decide +kernel
theorem dX9_done_140 : decode cX9_done 140 = .ok (.goto (-43), 3) := by decide +kernel
theorem dX9_done_143 : decode cX9_done 143 = .ok (.iload_n 2, 1) := by decide +kernel
theorem dX9_done_144 : decode cX9_done 144 = .ok (.ifCond .ne 6, 3) := by decide +kernel
theorem dX9_done_147 : decode cX9_done 147 = .ok (.bipush (-3), 2) := by decide +kernel
theorem dX9_done_149 : decode cX9_done 149 = .ok (.ireturn, 1) := by decide +kernel
theorem dX9_done_150 : decode cX9_done 150 = .ok (.iinc 1 1, 3) := by decide +kernel
theorem dX9_done_153 : decode cX9_done 153 = .ok (.goto (-151), 3) := by decide +kernel
theorem dX9_done_156 : decode cX9_done 156 = .ok (.aload_n 0, 1) := by decide +kernel
theorem dX9_done_157 : decode cX9_done 157 = .ok (.getfield 39, 3) := by decide +kernel
theorem dX9_done_160 : decode cX9_done 160 = .ok (.iconst 0, 1) := by decide +kernel
theorem dX9_done_161 : decode cX9_done 161 = .ok (.aload_n 0, 1) := by decide +kernel
theorem dX9_done_162 : decode cX9_done 162 = .ok (.getfield 33, 3) := by decide +kernel
theorem dX9_done_165 : decode cX9_done 165 = .ok (.iconst 0, 1) := by decide +kernel
theorem dX9_done_166 : decode cX9_done 166 = .ok (.sipush 504, 3) := by decide +kernel
theorem dX9_done_169 : decode cX9_done 169 = .ok (.invokestatic 96, 3) := by decide +kernel
theorem dX9_done_172 : decode cX9_done 172 = .ok (.aload_n 0, 1) := by decide +kernel
theorem dX9_done_173 : decode cX9_done 173 = .ok (.getfield 247, 3) := by decide +kernel
theorem dX9_done_176 : decode cX9_done 176 = .ok (.ifCond .eq 15, 3) := by decide +kernel
theorem dX9_done_179 : decode cX9_done 179 = .ok (.aload_n 0, 1) := by decide +kernel
theorem dX9_done_180 : decode cX9_done 180 = .ok (.dup, 1) := by decide +kernel
theorem dX9_done_181 : decode cX9_done 181 = .ok (.getfield 250, 3) := by decide +kernel
theorem dX9_done_184 : decode cX9_done 184 = .ok (.iconst 1, 1) := by decide +kernel
theorem dX9_done_185 : decode cX9_done 185 = .ok (.iadd, 1) := by decide +kernel
theorem dX9_done_186 : decode cX9_done 186 = .ok (.putfield 250, 3) := by decide +kernel
theorem dX9_done_189 : decode cX9_done 189 = .ok (.iconst 0, 1) := by decide +kernel
theorem dX9_done_190 : decode cX9_done 190 = .ok (.ireturn, 1) := by decide +kernel
theorem dX9_done_191 : decode cX9_done 191 = .ok (.aload_n 0, 1) := by decide +kernel
theorem dX9_done_192 : decode cX9_done 192 = .ok (.iconst 0, 1) := by decide +kernel
theorem dX9_done_193 : decode cX9_done 193 = .ok (.invokevirtual 123, 3) := by decide +kernel
theorem dX9_done_196 : decode cX9_done 196 = .ok (.ireturn, 1) := by decide +kernel
theorem dX9_begun_0 : decode cX9_begun 0 = .ok (.aload_n 0, 1) := by decide +kernel
theorem dX9_begun_1 : decode cX9_begun 1 = .ok (.getfield 33, 3) := by decide +kernel
theorem dX9_begun_4 : decode cX9_begun 4 = .ok (.iconst 0, 1) := by decide +kernel
theorem dX9_begun_5 : decode cX9_begun 5 = .ok (.aload_n 0, 1) := by decide +kernel
theorem dX9_begun_6 : decode cX9_begun 6 = .ok (.getfield 39, 3) := by decide +kernel
theorem dX9_begun_9 : decode cX9_begun 9 = .ok (.iconst 0, 1) := by decide +kernel
theorem dX9_begun_10 : decode cX9_begun 10 = .ok (.sipush 504, 3) := by decide +kernel
theorem dX9_begun_13 : decode cX9_begun 13 = .ok (.invokestatic 96, 3) := by decide +kernel
theorem dX9_begun_16 : decode cX9_begun 16 = .ok (.return_, 1) := by decide +kernel
theorem dX9_out_0 : decode cX9_out 0 = .ok (.aload_n 0, 1) := by decide +kernel
theorem dX9_out_1 : decode cX9_out 1 = .ok (.getfield 39, 3) := by decide +kernel
theorem dX9_out_4 : decode cX9_out 4 = .ok (.sipush 212, 3) := by decide +kernel
theorem dX9_out_7 : decode cX9_out 7 = .ok (.iload_n 1, 1) := by decide +kernel
theorem dX9_out_8 : decode cX9_out 8 = .ok (.iadd, 1) := by decide +kernel
theorem dX9_out_9 : decode cX9_out 9 = .ok (.iaload, 1) := by decide +kernel
theorem dX9_out_10 : decode cX9_out 10 = .ok (.istore_n 2, 1) := by decide +kernel
theorem dX9_out_11 : decode cX9_out 11 = .ok (.aload_n 0, 1) := by decide +kernel
theorem dX9_out_12 : decode cX9_out 12 = .ok (.getfield 39, 3) := by decide +kernel
theorem dX9_out_15 : decode cX9_out 15 = .ok (.iload_n 1, 1) := by decide +kernel
theorem dX9_out_16 : decode cX9_out 16 = .ok (.invokestatic 133, 3) := by decide +kernel
theorem dX9_out_19 : decode cX9_out 19 = .ok (.istore_n 3, 1) := by decide +kernel
theorem dX9_out_20 : decode cX9_out 20 = .ok (.aload_n 0, 1) := by decide +kernel
theorem dX9_out_21 : decode cX9_out 21 = .ok (.getfield 39, 3) := by decide +kernel
theorem dX9_out_24 : decode cX9_out 24 = .ok (.sipush 492, 3) := by decide +kernel
theorem dX9_out_27 : decode cX9_out 27 = .ok (.iload_n 2, 1) := by decide +kernel
theorem dX9_out_28 : decode cX9_out 28 = .ok (.iadd, 1) := by decide +kernel
theorem dX9_out_29 : decode cX9_out 29 = .ok (.iaload, 1) := by decide +kernel
theorem dX9_out_30 : decode cX9_out 30 = .ok (.istore 4, 2) := by decide +kernel
theorem dX9_out_32 : decode cX9_out 32 = .ok (.iload_n 3, 1) := by decide +kernel
theorem dX9_out_33 : decode cX9_out 33 = .ok (.istore 5, 2) := by decide +kernel
theorem dX9_out_35 : decode cX9_out 35 = .ok (.iload 5, 2) := by decide +kernel
theorem dX9_out_37 : decode cX9_out 37 = .ok (.iconst 1, 1) := by decide +kernel
theorem dX9_out_38 : decode cX9_out 38 = .ok (.iadd, 1) := by decide +kernel
theorem dX9_out_39 : decode cX9_out 39 = .ok (.iload 4, 2) := by decide +kernel
theorem dX9_out_41 : decode cX9_out 41 = .ok (.if_icmp .ge 43, 3) := by decide +kernel
theorem dX9_out_44 : decode cX9_out 44 = .ok (.aload_n 0, 1) := by decide +kernel
theorem dX9_out_45 : decode cX9_out 45 = .ok (.getfield 39, 3) := by decide +kernel
theorem dX9_out_48 : decode cX9_out 48 = .ok (.sipush 252, 3) := by decide +kernel
theorem dX9_out_51 : decode cX9_out 51 = .ok (.iload_n 2, 1) := by decide +kernel
theorem dX9_out_52 : decode cX9_out 52 = .ok (.bipush 40, 2) := by decide +kernel
theorem dX9_out_54 : decode cX9_out 54 = .ok (.imul, 1) := by decide +kernel
theorem dX9_out_55 : decode cX9_out 55 = .ok (.iadd, 1) := by decide +kernel
theorem dX9_out_56 : decode cX9_out 56 = .ok (.iload 5, 2) := by decide +kernel
theorem dX9_out_58 : decode cX9_out 58 = .ok (.iadd, 1) := by decide +kernel
theorem dX9_out_59 : decode cX9_out 59 = .ok (.aload_n 0, 1) := by decide +kernel
theorem dX9_out_60 : decode cX9_out 60 = .ok (.getfield 39, 3) := by decide +kernel
theorem dX9_out_63 : decode cX9_out 63 = .ok (.sipush 252, 3) := by decide +kernel
theorem dX9_out_66 : decode cX9_out 66 = .ok (.iload_n 2, 1) := by decide +kernel
theorem dX9_out_67 : decode cX9_out 67 = .ok (.bipush 40, 2) := by decide +kernel
theorem dX9_out_69 : decode cX9_out 69 = .ok (.imul, 1) := by decide +kernel
theorem dX9_out_70 : decode cX9_out 70 = .ok (.iadd, 1) := by decide +kernel
theorem dX9_out_71 : decode cX9_out 71 = .ok (.iload 5, 2) := by decide +kernel
theorem dX9_out_73 : decode cX9_out 73 = .ok (.iadd, 1) := by decide +kernel
theorem dX9_out_74 : decode cX9_out 74 = .ok (.iconst 1, 1) := by decide +kernel
theorem dX9_out_75 : decode cX9_out 75 = .ok (.iadd, 1) := by decide +kernel
theorem dX9_out_76 : decode cX9_out 76 = .ok (.iaload, 1) := by decide +kernel
theorem dX9_out_77 : decode cX9_out 77 = .ok (.iastore, 1) := by decide +kernel
theorem dX9_out_78 : decode cX9_out 78 = .ok (.iinc 5 1, 3) := by decide +kernel
theorem dX9_out_81 : decode cX9_out 81 = .ok (.goto (-46), 3) := by decide +kernel
theorem dX9_out_84 : decode cX9_out 84 = .ok (.aload_n 0, 1) := by decide +kernel
theorem dX9_out_85 : decode cX9_out 85 = .ok (.getfield 39, 3) := by decide +kernel
theorem dX9_out_88 : decode cX9_out 88 = .ok (.sipush 492, 3) := by decide +kernel
theorem dX9_out_91 : decode cX9_out 91 = .ok (.iload_n 2, 1) := by decide +kernel
theorem dX9_out_92 : decode cX9_out 92 = .ok (.iadd, 1) := by decide +kernel
theorem dX9_out_93 : decode cX9_out 93 = .ok (.iload 4, 2) := by decide +kernel
theorem dX9_out_95 : decode cX9_out 95 = .ok (.iconst 1, 1) := by decide +kernel
theorem dX9_out_96 : decode cX9_out 96 = .ok (.isub, 1) := by decide +kernel
theorem dX9_out_97 : decode cX9_out 97 = .ok (.iastore, 1) := by decide +kernel
theorem dX9_out_98 : decode cX9_out 98 = .ok (.aload_n 0, 1) := by decide +kernel
theorem dX9_out_99 : decode cX9_out 99 = .ok (.getfield 39, 3) := by decide +kernel
theorem dX9_out_102 : decode cX9_out 102 = .ok (.sipush 212, 3) := by decide +kernel
theorem dX9_out_105 : decode cX9_out 105 = .ok (.iload_n 1, 1) := by decide +kernel
theorem dX9_out_106 : decode cX9_out 106 = .ok (.iadd, 1) := by decide +kernel
theorem dX9_out_107 : decode cX9_out 107 = .ok (.iconst (-1), 1) := by decide +kernel
theorem dX9_out_108 : decode cX9_out 108 = .ok (.iastore, 1) := by decide +kernel
theorem dX9_out_109 : decode cX9_out 109 = .ok (.return_, 1) := by decide +kernel
theorem dX9_in_0 : decode cX9_in 0 = .ok (.aload_n 0, 1) := by decide +kernel
theorem dX9_in_1 : decode cX9_in 1 = .ok (.getfield 39, 3) := by decide +kernel
theorem dX9_in_4 : decode cX9_in 4 = .ok (.sipush 492, 3) := by decide +kernel
theorem dX9_in_7 : decode cX9_in 7 = .ok (.iload_n 2, 1) := by decide +kernel
theorem dX9_in_8 : decode cX9_in 8 = .ok (.iadd, 1) := by decide +kernel
theorem dX9_in_9 : decode cX9_in 9 = .ok (.iaload, 1) := by decide +kernel
theorem dX9_in_10 : decode cX9_in 10 = .ok (.istore 4, 2) := by decide +kernel
theorem dX9_in_12 : decode cX9_in 12 = .ok (.iload 4, 2) := by decide +kernel
theorem dX9_in_14 : decode cX9_in 14 = .ok (.istore 5, 2) := by decide +kernel
theorem dX9_in_16 : decode cX9_in 16 = .ok (.iload 5, 2) := by decide +kernel
theorem dX9_in_18 : decode cX9_in 18 = .ok (.iload_n 3, 1) := by decide +kernel
theorem dX9_in_19 : decode cX9_in 19 = .ok (.if_icmp .le 43, 3) := by decide +kernel
theorem dX9_in_22 : decode cX9_in 22 = .ok (.aload_n 0, 1) := by decide +kernel
theorem dX9_in_23 : decode cX9_in 23 = .ok (.getfield 39, 3) := by decide +kernel
theorem dX9_in_26 : decode cX9_in 26 = .ok (.sipush 252, 3) := by decide +kernel
theorem dX9_in_29 : decode cX9_in 29 = .ok (.iload_n 2, 1) := by decide +kernel
theorem dX9_in_30 : decode cX9_in 30 = .ok (.bipush 40, 2) := by decide +kernel
theorem dX9_in_32 : decode cX9_in 32 = .ok (.imul, 1) := by decide +kernel
theorem dX9_in_33 : decode cX9_in 33 = .ok (.iadd, 1) := by decide +kernel
theorem dX9_in_34 : decode cX9_in 34 = .ok (.iload 5, 2) := by decide +kernel
theorem dX9_in_36 : decode cX9_in 36 = .ok (.iadd, 1) := by decide +kernel
theorem dX9_in_37 : decode cX9_in 37 = .ok (.aload_n 0, 1) := by decide +kernel
theorem dX9_in_38 : decode cX9_in 38 = .ok (.getfield 39, 3) := by decide +kernel
theorem dX9_in_41 : decode cX9_in 41 = .ok (.sipush 252, 3) := by decide +kernel
theorem dX9_in_44 : decode cX9_in 44 = .ok (.iload_n 2, 1) := by decide +kernel
theorem dX9_in_45 : decode cX9_in 45 = .ok (.bipush 40, 2) := by decide +kernel
theorem dX9_in_47 : decode cX9_in 47 = .ok (.imul, 1) := by decide +kernel
theorem dX9_in_48 : decode cX9_in 48 = .ok (.iadd, 1) := by decide +kernel
theorem dX9_in_49 : decode cX9_in 49 = .ok (.iload 5, 2) := by decide +kernel
theorem dX9_in_51 : decode cX9_in 51 = .ok (.iadd, 1) := by decide +kernel
theorem dX9_in_52 : decode cX9_in 52 = .ok (.iconst 1, 1) := by decide +kernel
theorem dX9_in_53 : decode cX9_in 53 = .ok (.isub, 1) := by decide +kernel
theorem dX9_in_54 : decode cX9_in 54 = .ok (.iaload, 1) := by decide +kernel
theorem dX9_in_55 : decode cX9_in 55 = .ok (.iastore, 1) := by decide +kernel
theorem dX9_in_56 : decode cX9_in 56 = .ok (.iinc 5 (-1), 3) := by decide +kernel
theorem dX9_in_59 : decode cX9_in 59 = .ok (.goto (-43), 3) := by decide +kernel
theorem dX9_in_62 : decode cX9_in 62 = .ok (.aload_n 0, 1) := by decide +kernel
theorem dX9_in_63 : decode cX9_in 63 = .ok (.getfield 39, 3) := by decide +kernel
theorem dX9_in_66 : decode cX9_in 66 = .ok (.sipush 252, 3) := by decide +kernel
theorem dX9_in_69 : decode cX9_in 69 = .ok (.iload_n 2, 1) := by decide +kernel
theorem dX9_in_70 : decode cX9_in 70 = .ok (.bipush 40, 2) := by decide +kernel
theorem dX9_in_72 : decode cX9_in 72 = .ok (.imul, 1) := by decide +kernel
theorem dX9_in_73 : decode cX9_in 73 = .ok (.iadd, 1) := by decide +kernel
theorem dX9_in_74 : decode cX9_in 74 = .ok (.iload_n 3, 1) := by decide +kernel
theorem dX9_in_75 : decode cX9_in 75 = .ok (.iadd, 1) := by decide +kernel
theorem dX9_in_76 : decode cX9_in 76 = .ok (.iload_n 1, 1) := by decide +kernel
theorem dX9_in_77 : decode cX9_in 77 = .ok (.iastore, 1) := by decide +kernel
theorem dX9_in_78 : decode cX9_in 78 = .ok (.aload_n 0, 1) := by decide +kernel
theorem dX9_in_79 : decode cX9_in 79 = .ok (.getfield 39, 3) := by decide +kernel
theorem dX9_in_82 : decode cX9_in 82 = .ok (.sipush 492, 3) := by decide +kernel
theorem dX9_in_85 : decode cX9_in 85 = .ok (.iload_n 2, 1) := by decide +kernel
theorem dX9_in_86 : decode cX9_in 86 = .ok (.iadd, 1) := by decide +kernel
theorem dX9_in_87 : decode cX9_in 87 = .ok (.iload 4, 2) := by decide +kernel
theorem dX9_in_89 : decode cX9_in 89 = .ok (.iconst 1, 1) := by decide +kernel
theorem dX9_in_90 : decode cX9_in 90 = .ok (.iadd, 1) := by decide +kernel
theorem dX9_in_91 : decode cX9_in 91 = .ok (.iastore, 1) := by decide +kernel
theorem dX9_in_92 : decode cX9_in 92 = .ok (.aload_n 0, 1) := by decide +kernel
theorem dX9_in_93 : decode cX9_in 93 = .ok (.getfield 39, 3) := by decide +kernel
theorem dX9_in_96 : decode cX9_in 96 = .ok (.sipush 212, 3) := by decide +kernel
theorem dX9_in_99 : decode cX9_in 99 = .ok (.iload_n 1, 1) := by decide +kernel
theorem dX9_in_100 : decode cX9_in 100 = .ok (.iadd, 1) := by decide +kernel
theorem dX9_in_101 : decode cX9_in 101 = .ok (.iload_n 2, 1) := by decide +kernel
theorem dX9_in_102 : decode cX9_in 102 = .ok (.iastore, 1) := by decide +kernel
theorem dX9_in_103 : decode cX9_in 103 = .ok (.return_, 1) := by decide +kernel
theorem dX9_place_0 : decode cX9_place 0 = .ok (.aload_n 0, 1) := by decide +kernel
theorem dX9_place_1 : decode cX9_place 1 = .ok (.iconst 0, 1) := by decide +kernel
theorem dX9_place_2 : decode cX9_place 2 = .ok (.putfield 1, 3) := by decide +kernel
theorem dX9_place_5 : decode cX9_place 5 = .ok (.aload_n 0, 1) := by decide +kernel
theorem dX9_place_6 : decode cX9_place 6 = .ok (.iload_n 1, 1) := by decide +kernel
theorem dX9_place_7 : decode cX9_place 7 = .ok (.invokevirtual 253, 3) := by decide +kernel
theorem dX9_place_10 : decode cX9_place 10 = .ok (.ifCond .eq 11, 3) := by decide +kernel
theorem dX9_place_13 : decode cX9_place 13 = .ok (.aload_n 0, 1) := by decide +kernel
theorem dX9_place_14 : decode cX9_place 14 = .ok (.iload_n 2, 1) := by decide +kernel
theorem dX9_place_15 : decode cX9_place 15 = .ok (.invokevirtual 257, 3) := by decide +kernel
theorem dX9_place_18 : decode cX9_place 18 = .ok (.ifCond .ne 9, 3) := by decide +kernel
theorem dX9_place_21 : decode cX9_place 21 = .ok (.aload_n 0, 1) := by decide +kernel
theorem dX9_place_22 : decode cX9_place 22 = .ok (.iconst 1, 1) := by decide +kernel
theorem dX9_place_23 : decode cX9_place 23 = .ok (.invokevirtual 106, 3) := by decide +kernel
theorem dX9_place_26 : decode cX9_place 26 = .ok (.ireturn, 1) := by decide +kernel
theorem dX9_place_27 : decode cX9_place 27 = .ok (.aload_n 0, 1) := by decide +kernel
theorem dX9_place_28 : decode cX9_place 28 = .ok (.getfield 13, 3) := by decide +kernel
theorem dX9_place_31 : decode cX9_place 31 = .ok (.ifCond .eq 9, 3) := by decide +kernel
theorem dX9_place_34 : decode cX9_place 34 = .ok (.aload_n 0, 1) := by decide +kernel
theorem dX9_place_35 : decode cX9_place 35 = .ok (.iconst 2, 1) := by decide +kernel
theorem dX9_place_36 : decode cX9_place 36 = .ok (.invokevirtual 106, 3) := by decide +kernel
theorem dX9_place_39 : decode cX9_place 39 = .ok (.ireturn, 1) := by decide +kernel
theorem dX9_place_40 : decode cX9_place 40 = .ok (.iload_n 3, 1) := by decide +kernel
theorem dX9_place_41 : decode cX9_place 41 = .ok (.ifCond .lt 17, 3) := by decide +kernel
theorem dX9_place_44 : decode cX9_place 44 = .ok (.iload_n 3, 1) := by decide +kernel
theorem dX9_place_45 : decode cX9_place 45 = .ok (.aload_n 0, 1) := by decide +kernel
theorem dX9_place_46 : decode cX9_place 46 = .ok (.getfield 33, 3) := by decide +kernel
theorem dX9_place_49 : decode cX9_place 49 = .ok (.sipush 492, 3) := by decide +kernel
theorem dX9_place_52 : decode cX9_place 52 = .ok (.iload_n 2, 1) := by decide +kernel
theorem dX9_place_53 : decode cX9_place 53 = .ok (.iadd, 1) := by decide +kernel
theorem dX9_place_54 : decode cX9_place 54 = .ok (.iaload, 1) := by decide +kernel
theorem dX9_place_55 : decode cX9_place 55 = .ok (.if_icmp .le 9, 3) := by decide +kernel
theorem dX9_place_58 : decode cX9_place 58 = .ok (.aload_n 0, 1) := by decide +kernel
theorem dX9_place_59 : decode cX9_place 59 = .ok (.iconst 3, 1) := by decide +kernel
theorem dX9_place_60 : decode cX9_place 60 = .ok (.invokevirtual 106, 3) := by decide +kernel
theorem dX9_place_63 : decode cX9_place 63 = .ok (.ireturn, 1) := by decide +kernel
theorem dX9_place_64 : decode cX9_place 64 = .ok (.aload_n 0, 1) := by decide +kernel
theorem dX9_place_65 : decode cX9_place 65 = .ok (.getfield 33, 3) := by decide +kernel
theorem dX9_place_68 : decode cX9_place 68 = .ok (.sipush 212, 3) := by decide +kernel
theorem dX9_place_71 : decode cX9_place 71 = .ok (.iload_n 1, 1) := by decide +kernel
theorem dX9_place_72 : decode cX9_place 72 = .ok (.iadd, 1) := by decide +kernel
theorem dX9_place_73 : decode cX9_place 73 = .ok (.iaload, 1) := by decide +kernel
theorem dX9_place_74 : decode cX9_place 74 = .ok (.iconst (-1), 1) := by decide +kernel
theorem dX9_place_75 : decode cX9_place 75 = .ok (.if_icmp .eq 6, 3) := by decide +kernel
theorem dX9_place_78 : decode cX9_place 78 = .ok (.bipush (-4), 2) := by decide +kernel
theorem dX9_place_80 : decode cX9_place 80 = .ok (.ireturn, 1) := by decide +kernel
theorem dX9_place_81 : decode cX9_place 81 = .ok (.aload_n 0, 1) := by decide +kernel
theorem dX9_place_82 : decode cX9_place 82 = .ok (.invokevirtual 260, 3) := by decide +kernel
theorem dX9_place_85 : decode cX9_place 85 = .ok (.aload_n 0, 1) := by decide +kernel
theorem dX9_place_86 : decode cX9_place 86 = .ok (.iload_n 1, 1) := by decide +kernel
theorem dX9_place_87 : decode cX9_place 87 = .ok (.iload_n 2, 1) := by decide +kernel
theorem dX9_place_88 : decode cX9_place 88 = .ok (.iload_n 3, 1) := by decide +kernel
theorem dX9_place_89 : decode cX9_place 89 = .ok (.invokevirtual 263, 3) := by decide +kernel
theorem dX9_place_92 : decode cX9_place 92 = .ok (.aload_n 0, 1) := by decide +kernel
theorem dX9_place_93 : decode cX9_place 93 = .ok (.invokevirtual 267, 3) := by decide +kernel
theorem dX9_place_96 : decode cX9_place 96 = .ok (.ireturn, 1) := by decide +kernel
theorem dX9_take_0 : decode cX9_take 0 = .ok (.aload_n 0, 1) := by decide +kernel
theorem dX9_take_1 : decode cX9_take 1 = .ok (.iconst 0, 1) := by decide +kernel
theorem dX9_take_2 : decode cX9_take 2 = .ok (.putfield 1, 3) := by decide +kernel
theorem dX9_take_5 : decode cX9_take 5 = .ok (.aload_n 0, 1) := by decide +kernel
theorem dX9_take_6 : decode cX9_take 6 = .ok (.iload_n 1, 1) := by decide +kernel
theorem dX9_take_7 : decode cX9_take 7 = .ok (.invokevirtual 253, 3) := by decide +kernel
theorem dX9_take_10 : decode cX9_take 10 = .ok (.ifCond .ne 9, 3) := by decide +kernel
theorem dX9_take_13 : decode cX9_take 13 = .ok (.aload_n 0, 1) := by decide +kernel
theorem dX9_take_14 : decode cX9_take 14 = .ok (.iconst 1, 1) := by decide +kernel
theorem dX9_take_15 : decode cX9_take 15 = .ok (.invokevirtual 106, 3) := by decide +kernel
theorem dX9_take_18 : decode cX9_take 18 = .ok (.ireturn, 1) := by decide +kernel
theorem dX9_take_19 : decode cX9_take 19 = .ok (.aload_n 0, 1) := by decide +kernel
theorem dX9_take_20 : decode cX9_take 20 = .ok (.getfield 13, 3) := by decide +kernel
theorem dX9_take_23 : decode cX9_take 23 = .ok (.ifCond .eq 9, 3) := by decide +kernel
theorem dX9_take_26 : decode cX9_take 26 = .ok (.aload_n 0, 1) := by decide +kernel
theorem dX9_take_27 : decode cX9_take 27 = .ok (.iconst 2, 1) := by decide +kernel
theorem dX9_take_28 : decode cX9_take 28 = .ok (.invokevirtual 106, 3) := by decide +kernel
theorem dX9_take_31 : decode cX9_take 31 = .ok (.ireturn, 1) := by decide +kernel
theorem dX9_take_32 : decode cX9_take 32 = .ok (.aload_n 0, 1) := by decide +kernel
theorem dX9_take_33 : decode cX9_take 33 = .ok (.getfield 33, 3) := by decide +kernel
theorem dX9_take_36 : decode cX9_take 36 = .ok (.sipush 212, 3) := by decide +kernel
theorem dX9_take_39 : decode cX9_take 39 = .ok (.iload_n 1, 1) := by decide +kernel
theorem dX9_take_40 : decode cX9_take 40 = .ok (.iadd, 1) := by decide +kernel
theorem dX9_take_41 : decode cX9_take 41 = .ok (.iaload, 1) := by decide +kernel
theorem dX9_take_42 : decode cX9_take 42 = .ok (.iconst (-1), 1) := by decide +kernel
theorem dX9_take_43 : decode cX9_take 43 = .ok (.if_icmp .ne 6, 3) := by decide +kernel
theorem dX9_take_46 : decode cX9_take 46 = .ok (.bipush (-4), 2) := by decide +kernel
theorem dX9_take_48 : decode cX9_take 48 = .ok (.ireturn, 1) := by decide +kernel
theorem dX9_take_49 : decode cX9_take 49 = .ok (.aload_n 0, 1) := by decide +kernel
theorem dX9_take_50 : decode cX9_take 50 = .ok (.invokevirtual 260, 3) := by decide +kernel
theorem dX9_take_53 : decode cX9_take 53 = .ok (.aload_n 0, 1) := by decide +kernel
theorem dX9_take_54 : decode cX9_take 54 = .ok (.iload_n 1, 1) := by decide +kernel
theorem dX9_take_55 : decode cX9_take 55 = .ok (.invokevirtual 271, 3) := by decide +kernel
theorem dX9_take_58 : decode cX9_take 58 = .ok (.aload_n 0, 1) := by decide +kernel
theorem dX9_take_59 : decode cX9_take 59 = .ok (.invokevirtual 267, 3) := by decide +kernel
theorem dX9_take_62 : decode cX9_take 62 = .ok (.ireturn, 1) := by decide +kernel
theorem dX9_move_0 : decode cX9_move 0 = .ok (.aload_n 0, 1) := by decide +kernel
theorem dX9_move_1 : decode cX9_move 1 = .ok (.iconst 0, 1) := by decide +kernel
theorem dX9_move_2 : decode cX9_move 2 = .ok (.putfield 1, 3) := by decide +kernel
theorem dX9_move_5 : decode cX9_move 5 = .ok (.aload_n 0, 1) := by decide +kernel
theorem dX9_move_6 : decode cX9_move 6 = .ok (.iload_n 1, 1) := by decide +kernel
theorem dX9_move_7 : decode cX9_move 7 = .ok (.invokevirtual 253, 3) := by decide +kernel
theorem dX9_move_10 : decode cX9_move 10 = .ok (.ifCond .eq 11, 3) := by decide +kernel
theorem dX9_move_13 : decode cX9_move 13 = .ok (.aload_n 0, 1) := by decide +kernel
theorem dX9_move_14 : decode cX9_move 14 = .ok (.iload_n 2, 1) := by decide +kernel
theorem dX9_move_15 : decode cX9_move 15 = .ok (.invokevirtual 257, 3) := by decide +kernel
theorem dX9_move_18 : decode cX9_move 18 = .ok (.ifCond .ne 9, 3) := by decide +kernel
theorem dX9_move_21 : decode cX9_move 21 = .ok (.aload_n 0, 1) := by decide +kernel
theorem dX9_move_22 : decode cX9_move 22 = .ok (.iconst 1, 1) := by decide +kernel
theorem dX9_move_23 : decode cX9_move 23 = .ok (.invokevirtual 106, 3) := by decide +kernel
theorem dX9_move_26 : decode cX9_move 26 = .ok (.ireturn, 1) := by decide +kernel
theorem dX9_move_27 : decode cX9_move 27 = .ok (.aload_n 0, 1) := by decide +kernel
theorem dX9_move_28 : decode cX9_move 28 = .ok (.getfield 13, 3) := by decide +kernel
theorem dX9_move_31 : decode cX9_move 31 = .ok (.ifCond .eq 9, 3) := by decide +kernel
theorem dX9_move_34 : decode cX9_move 34 = .ok (.aload_n 0, 1) := by decide +kernel
theorem dX9_move_35 : decode cX9_move 35 = .ok (.iconst 2, 1) := by decide +kernel
theorem dX9_move_36 : decode cX9_move 36 = .ok (.invokevirtual 106, 3) := by decide +kernel
theorem dX9_move_39 : decode cX9_move 39 = .ok (.ireturn, 1) := by decide +kernel
theorem dX9_move_40 : decode cX9_move 40 = .ok (.iload_n 3, 1) := by decide +kernel
theorem dX9_move_41 : decode cX9_move 41 = .ok (.ifCond .lt 37, 3) := by decide +kernel
theorem dX9_move_44 : decode cX9_move 44 = .ok (.iload_n 3, 1) := by decide +kernel
theorem dX9_move_45 : decode cX9_move 45 = .ok (.aload_n 0, 1) := by decide +kernel
theorem dX9_move_46 : decode cX9_move 46 = .ok (.getfield 33, 3) := by decide +kernel
theorem dX9_move_49 : decode cX9_move 49 = .ok (.sipush 492, 3) := by decide +kernel
theorem dX9_move_52 : decode cX9_move 52 = .ok (.iload_n 2, 1) := by decide +kernel
theorem dX9_move_53 : decode cX9_move 53 = .ok (.iadd, 1) := by decide +kernel
theorem dX9_move_54 : decode cX9_move 54 = .ok (.iaload, 1) := by decide +kernel
theorem dX9_move_55 : decode cX9_move 55 = .ok (.aload_n 0, 1) := by decide +kernel
theorem dX9_move_56 : decode cX9_move 56 = .ok (.getfield 33, 3) := by decide +kernel
theorem dX9_move_59 : decode cX9_move 59 = .ok (.sipush 212, 3) := by decide +kernel
theorem dX9_move_62 : decode cX9_move 62 = .ok (.iload_n 1, 1) := by decide +kernel
theorem dX9_move_63 : decode cX9_move 63 = .ok (.iadd, 1) := by decide +kernel
theorem dX9_move_64 : decode cX9_move 64 = .ok (.iaload, 1) := by decide +kernel
theorem dX9_move_65 : decode cX9_move 65 = .ok (.iload_n 2, 1) := by decide +kernel
theorem dX9_move_66 : decode cX9_move 66 = .ok (.if_icmp .ne 7, 3) := by decide +kernel
theorem dX9_move_69 : decode cX9_move 69 = .ok (.iconst 1, 1) := by decide +kernel
theorem dX9_move_70 : decode cX9_move 70 = .ok (.goto 4, 3) := by decide +kernel
theorem dX9_move_73 : decode cX9_move 73 = .ok (.iconst 0, 1) := by decide +kernel
theorem dX9_move_74 : decode cX9_move 74 = .ok (.isub, 1) := by decide +kernel
theorem dX9_move_75 : decode cX9_move 75 = .ok (.if_icmp .le 9, 3) := by decide +kernel
theorem dX9_move_78 : decode cX9_move 78 = .ok (.aload_n 0, 1) := by decide +kernel
theorem dX9_move_79 : decode cX9_move 79 = .ok (.iconst 3, 1) := by decide +kernel
theorem dX9_move_80 : decode cX9_move 80 = .ok (.invokevirtual 106, 3) := by decide +kernel
theorem dX9_move_83 : decode cX9_move 83 = .ok (.ireturn, 1) := by decide +kernel
theorem dX9_move_84 : decode cX9_move 84 = .ok (.aload_n 0, 1) := by decide +kernel
theorem dX9_move_85 : decode cX9_move 85 = .ok (.getfield 33, 3) := by decide +kernel
theorem dX9_move_88 : decode cX9_move 88 = .ok (.sipush 212, 3) := by decide +kernel
theorem dX9_move_91 : decode cX9_move 91 = .ok (.iload_n 1, 1) := by decide +kernel
theorem dX9_move_92 : decode cX9_move 92 = .ok (.iadd, 1) := by decide +kernel
theorem dX9_move_93 : decode cX9_move 93 = .ok (.iaload, 1) := by decide +kernel
theorem dX9_move_94 : decode cX9_move 94 = .ok (.iconst (-1), 1) := by decide +kernel
theorem dX9_move_95 : decode cX9_move 95 = .ok (.if_icmp .ne 6, 3) := by decide +kernel
theorem dX9_move_98 : decode cX9_move 98 = .ok (.bipush (-4), 2) := by decide +kernel
theorem dX9_move_100 : decode cX9_move 100 = .ok (.ireturn, 1) := by decide +kernel
theorem dX9_move_101 : decode cX9_move 101 = .ok (.aload_n 0, 1) := by decide +kernel
theorem dX9_move_102 : decode cX9_move 102 = .ok (.invokevirtual 260, 3) := by decide +kernel
theorem dX9_move_105 : decode cX9_move 105 = .ok (.aload_n 0, 1) := by decide +kernel
theorem dX9_move_106 : decode cX9_move 106 = .ok (.iload_n 1, 1) := by decide +kernel
theorem dX9_move_107 : decode cX9_move 107 = .ok (.invokevirtual 271, 3) := by decide +kernel
theorem dX9_move_110 : decode cX9_move 110 = .ok (.aload_n 0, 1) := by decide +kernel
theorem dX9_move_111 : decode cX9_move 111 = .ok (.iload_n 1, 1) := by decide +kernel
theorem dX9_move_112 : decode cX9_move 112 = .ok (.iload_n 2, 1) := by decide +kernel
theorem dX9_move_113 : decode cX9_move 113 = .ok (.iload_n 3, 1) := by decide +kernel
theorem dX9_move_114 : decode cX9_move 114 = .ok (.invokevirtual 263, 3) := by decide +kernel
theorem dX9_move_117 : decode cX9_move 117 = .ok (.aload_n 0, 1) := by decide +kernel
theorem dX9_move_118 : decode cX9_move 118 = .ok (.invokevirtual 267, 3) := by decide +kernel
theorem dX9_move_121 : decode cX9_move 121 = .ok (.ireturn, 1) := by decide +kernel
theorem dX9_swap_0 : decode cX9_swap 0 = .ok (.aload_n 0, 1) := by decide +kernel
theorem dX9_swap_1 : decode cX9_swap 1 = .ok (.iconst 0, 1) := by decide +kernel
theorem dX9_swap_2 : decode cX9_swap 2 = .ok (.putfield 1, 3) := by decide +kernel
theorem dX9_swap_5 : decode cX9_swap 5 = .ok (.aload_n 0, 1) := by decide +kernel
theorem dX9_swap_6 : decode cX9_swap 6 = .ok (.iload_n 1, 1) := by decide +kernel
theorem dX9_swap_7 : decode cX9_swap 7 = .ok (.invokevirtual 253, 3) := by decide +kernel
theorem dX9_swap_10 : decode cX9_swap 10 = .ok (.ifCond .eq 11, 3) := by decide +kernel
theorem dX9_swap_13 : decode cX9_swap 13 = .ok (.aload_n 0, 1) := by decide +kernel
theorem dX9_swap_14 : decode cX9_swap 14 = .ok (.iload_n 2, 1) := by decide +kernel
theorem dX9_swap_15 : decode cX9_swap 15 = .ok (.invokevirtual 253, 3) := by decide +kernel
theorem dX9_swap_18 : decode cX9_swap 18 = .ok (.ifCond .ne 9, 3) := by decide +kernel
theorem dX9_swap_21 : decode cX9_swap 21 = .ok (.aload_n 0, 1) := by decide +kernel
theorem dX9_swap_22 : decode cX9_swap 22 = .ok (.iconst 1, 1) := by decide +kernel
theorem dX9_swap_23 : decode cX9_swap 23 = .ok (.invokevirtual 106, 3) := by decide +kernel
theorem dX9_swap_26 : decode cX9_swap 26 = .ok (.ireturn, 1) := by decide +kernel
theorem dX9_swap_27 : decode cX9_swap 27 = .ok (.aload_n 0, 1) := by decide +kernel
theorem dX9_swap_28 : decode cX9_swap 28 = .ok (.getfield 13, 3) := by decide +kernel
theorem dX9_swap_31 : decode cX9_swap 31 = .ok (.ifCond .eq 9, 3) := by decide +kernel
theorem dX9_swap_34 : decode cX9_swap 34 = .ok (.aload_n 0, 1) := by decide +kernel
theorem dX9_swap_35 : decode cX9_swap 35 = .ok (.iconst 2, 1) := by decide +kernel
theorem dX9_swap_36 : decode cX9_swap 36 = .ok (.invokevirtual 106, 3) := by decide +kernel
theorem dX9_swap_39 : decode cX9_swap 39 = .ok (.ireturn, 1) := by decide +kernel
theorem dX9_swap_40 : decode cX9_swap 40 = .ok (.iload_n 1, 1) := by decide +kernel
theorem dX9_swap_41 : decode cX9_swap 41 = .ok (.iload_n 2, 1) := by decide +kernel
theorem dX9_swap_42 : decode cX9_swap 42 = .ok (.if_icmp .ne 9, 3) := by decide +kernel
theorem dX9_swap_45 : decode cX9_swap 45 = .ok (.aload_n 0, 1) := by decide +kernel
theorem dX9_swap_46 : decode cX9_swap 46 = .ok (.iconst 3, 1) := by decide +kernel
theorem dX9_swap_47 : decode cX9_swap 47 = .ok (.invokevirtual 106, 3) := by decide +kernel
theorem dX9_swap_50 : decode cX9_swap 50 = .ok (.ireturn, 1) := by decide +kernel
theorem dX9_swap_51 : decode cX9_swap 51 = .ok (.aload_n 0, 1) := by decide +kernel
theorem dX9_swap_52 : decode cX9_swap 52 = .ok (.getfield 33, 3) := by decide +kernel
theorem dX9_swap_55 : decode cX9_swap 55 = .ok (.sipush 212, 3) := by decide +kernel
theorem dX9_swap_58 : decode cX9_swap 58 = .ok (.iload_n 1, 1) := by decide +kernel
theorem dX9_swap_59 : decode cX9_swap 59 = .ok (.iadd, 1) := by decide +kernel
theorem dX9_swap_60 : decode cX9_swap 60 = .ok (.iaload, 1) := by decide +kernel
theorem dX9_swap_61 : decode cX9_swap 61 = .ok (.istore_n 3, 1) := by decide +kernel
theorem dX9_swap_62 : decode cX9_swap 62 = .ok (.aload_n 0, 1) := by decide +kernel
theorem dX9_swap_63 : decode cX9_swap 63 = .ok (.getfield 33, 3) := by decide +kernel
theorem dX9_swap_66 : decode cX9_swap 66 = .ok (.sipush 212, 3) := by decide +kernel
theorem dX9_swap_69 : decode cX9_swap 69 = .ok (.iload_n 2, 1) := by decide +kernel
theorem dX9_swap_70 : decode cX9_swap 70 = .ok (.iadd, 1) := by decide +kernel
theorem dX9_swap_71 : decode cX9_swap 71 = .ok (.iaload, 1) := by decide +kernel
theorem dX9_swap_72 : decode cX9_swap 72 = .ok (.istore 4, 2) := by decide +kernel
theorem dX9_swap_74 : decode cX9_swap 74 = .ok (.iload_n 3, 1) := by decide +kernel
theorem dX9_swap_75 : decode cX9_swap 75 = .ok (.iconst (-1), 1) := by decide +kernel
theorem dX9_swap_76 : decode cX9_swap 76 = .ok (.if_icmp .eq 9, 3) := by decide +kernel
theorem dX9_swap_79 : decode cX9_swap 79 = .ok (.iload 4, 2) := by decide +kernel
theorem dX9_swap_81 : decode cX9_swap 81 = .ok (.iconst (-1), 1) := by decide +kernel
theorem dX9_swap_82 : decode cX9_swap 82 = .ok (.if_icmp .ne 6, 3) := by decide +kernel
theorem dX9_swap_85 : decode cX9_swap 85 = .ok (.bipush (-4), 2) := by decide +kernel
theorem dX9_swap_87 : decode cX9_swap 87 = .ok (.ireturn, 1) := by decide +kernel
theorem dX9_swap_88 : decode cX9_swap 88 = .ok (.aload_n 0, 1) := by decide +kernel
theorem dX9_swap_89 : decode cX9_swap 89 = .ok (.invokevirtual 260, 3) := by decide +kernel
theorem dX9_swap_92 : decode cX9_swap 92 = .ok (.aload_n 0, 1) := by decide +kernel
theorem dX9_swap_93 : decode cX9_swap 93 = .ok (.getfield 39, 3) := by decide +kernel
theorem dX9_swap_96 : decode cX9_swap 96 = .ok (.sipush 252, 3) := by decide +kernel
theorem dX9_swap_99 : decode cX9_swap 99 = .ok (.iload_n 3, 1) := by decide +kernel
theorem dX9_swap_100 : decode cX9_swap 100 = .ok (.bipush 40, 2) := by decide +kernel
theorem dX9_swap_102 : decode cX9_swap 102 = .ok (.imul, 1) := by decide +kernel
theorem dX9_swap_103 : decode cX9_swap 103 = .ok (.iadd, 1) := by decide +kernel
theorem dX9_swap_104 : decode cX9_swap 104 = .ok (.aload_n 0, 1) := by decide +kernel
theorem dX9_swap_105 : decode cX9_swap 105 = .ok (.getfield 33, 3) := by decide +kernel
theorem dX9_swap_108 : decode cX9_swap 108 = .ok (.iload_n 1, 1) := by decide +kernel
theorem dX9_swap_109 : decode cX9_swap 109 = .ok (.invokestatic 133, 3) := by decide +kernel
theorem dX9_swap_112 : decode cX9_swap 112 = .ok (.iadd, 1) := by decide +kernel
theorem dX9_swap_113 : decode cX9_swap 113 = .ok (.iload_n 2, 1) := by decide +kernel
theorem dX9_swap_114 : decode cX9_swap 114 = .ok (.iastore, 1) := by decide +kernel
theorem dX9_swap_115 : decode cX9_swap 115 = .ok (.aload_n 0, 1) := by decide +kernel
theorem dX9_swap_116 : decode cX9_swap 116 = .ok (.getfield 39, 3) := by decide +kernel
theorem dX9_swap_119 : decode cX9_swap 119 = .ok (.sipush 252, 3) := by decide +kernel
theorem dX9_swap_122 : decode cX9_swap 122 = .ok (.iload 4, 2) := by decide +kernel
theorem dX9_swap_124 : decode cX9_swap 124 = .ok (.bipush 40, 2) := by decide +kernel
theorem dX9_swap_126 : decode cX9_swap 126 = .ok (.imul, 1) := by decide +kernel
theorem dX9_swap_127 : decode cX9_swap 127 = .ok (.iadd, 1) := by decide +kernel
theorem dX9_swap_128 : decode cX9_swap 128 = .ok (.aload_n 0, 1) := by decide +kernel
theorem dX9_swap_129 : decode cX9_swap 129 = .ok (.getfield 33, 3) := by decide +kernel
theorem dX9_swap_132 : decode cX9_swap 132 = .ok (.iload_n 2, 1) := by decide +kernel
theorem dX9_swap_133 : decode cX9_swap 133 = .ok (.invokestatic 133, 3) := by decide +kernel
theorem dX9_swap_136 : decode cX9_swap 136 = .ok (.iadd, 1) := by decide +kernel
theorem dX9_swap_137 : decode cX9_swap 137 = .ok (.iload_n 1, 1) := by decide +kernel
theorem dX9_swap_138 : decode cX9_swap 138 = .ok (.iastore, 1) := by decide +kernel
theorem dX9_swap_139 : decode cX9_swap 139 = .ok (.aload_n 0, 1) := by decide +kernel
theorem dX9_swap_140 : decode cX9_swap 140 = .ok (.getfield 39, 3) := by decide +kernel
theorem dX9_swap_143 : decode cX9_swap 143 = .ok (.sipush 212, 3) := by decide +kernel
theorem dX9_swap_146 : decode cX9_swap 146 = .ok (.iload_n 1, 1) := by decide +kernel
theorem dX9_swap_147 : decode cX9_swap 147 = .ok (.iadd, 1) := by decide +kernel
theorem dX9_swap_148 : decode cX9_swap 148 = .ok (.iload 4, 2) := by decide +kernel
theorem dX9_swap_150 : decode cX9_swap 150 = .ok (.iastore, 1) := by decide +kernel
theorem dX9_swap_151 : decode cX9_swap 151 = .ok (.aload_n 0, 1) := by decide +kernel
theorem dX9_swap_152 : decode cX9_swap 152 = .ok (.getfield 39, 3) := by decide +kernel
theorem dX9_swap_155 : decode cX9_swap 155 = .ok (.sipush 212, 3) := by decide +kernel
theorem dX9_swap_158 : decode cX9_swap 158 = .ok (.iload_n 2, 1) := by decide +kernel
theorem dX9_swap_159 : decode cX9_swap 159 = .ok (.iadd, 1) := by decide +kernel
theorem dX9_swap_160 : decode cX9_swap 160 = .ok (.iload_n 3, 1) := by decide +kernel
theorem dX9_swap_161 : decode cX9_swap 161 = .ok (.iastore, 1) := by decide +kernel
theorem dX9_swap_162 : decode cX9_swap 162 = .ok (.aload_n 0, 1) := by decide +kernel
theorem dX9_swap_163 : decode cX9_swap 163 = .ok (.invokevirtual 267, 3) := by decide +kernel
theorem dX9_swap_166 : decode cX9_swap 166 = .ok (.ireturn, 1) := by decide +kernel
theorem dX9_turn_0 : decode cX9_turn 0 = .ok (.aload_n 0, 1) := by decide +kernel
theorem dX9_turn_1 : decode cX9_turn 1 = .ok (.iconst 0, 1) := by decide +kernel
theorem dX9_turn_2 : decode cX9_turn 2 = .ok (.putfield 1, 3) := by decide +kernel
theorem dX9_turn_5 : decode cX9_turn 5 = .ok (.aload_n 0, 1) := by decide +kernel
theorem dX9_turn_6 : decode cX9_turn 6 = .ok (.iload_n 1, 1) := by decide +kernel
theorem dX9_turn_7 : decode cX9_turn 7 = .ok (.invokevirtual 257, 3) := by decide +kernel
theorem dX9_turn_10 : decode cX9_turn 10 = .ok (.ifCond .ne 9, 3) := by decide +kernel
theorem dX9_turn_13 : decode cX9_turn 13 = .ok (.aload_n 0, 1) := by decide +kernel
theorem dX9_turn_14 : decode cX9_turn 14 = .ok (.iconst 1, 1) := by decide +kernel
theorem dX9_turn_15 : decode cX9_turn 15 = .ok (.invokevirtual 106, 3) := by decide +kernel
theorem dX9_turn_18 : decode cX9_turn 18 = .ok (.ireturn, 1) := by decide +kernel
theorem dX9_turn_19 : decode cX9_turn 19 = .ok (.aload_n 0, 1) := by decide +kernel
theorem dX9_turn_20 : decode cX9_turn 20 = .ok (.getfield 13, 3) := by decide +kernel
theorem dX9_turn_23 : decode cX9_turn 23 = .ok (.ifCond .eq 9, 3) := by decide +kernel
theorem dX9_turn_26 : decode cX9_turn 26 = .ok (.aload_n 0, 1) := by decide +kernel
theorem dX9_turn_27 : decode cX9_turn 27 = .ok (.iconst 2, 1) := by decide +kernel
theorem dX9_turn_28 : decode cX9_turn 28 = .ok (.invokevirtual 106, 3) := by decide +kernel
theorem dX9_turn_31 : decode cX9_turn 31 = .ok (.ireturn, 1) := by decide +kernel
theorem dX9_turn_32 : decode cX9_turn 32 = .ok (.iload_n 2, 1) := by decide +kernel
theorem dX9_turn_33 : decode cX9_turn 33 = .ok (.ifCond .lt 22, 3) := by decide +kernel
theorem dX9_turn_36 : decode cX9_turn 36 = .ok (.iload_n 3, 1) := by decide +kernel
theorem dX9_turn_37 : decode cX9_turn 37 = .ok (.iload_n 2, 1) := by decide +kernel
theorem dX9_turn_38 : decode cX9_turn 38 = .ok (.if_icmp .lt 17, 3) := by decide +kernel
theorem dX9_turn_41 : decode cX9_turn 41 = .ok (.iload_n 3, 1) := by decide +kernel
theorem dX9_turn_42 : decode cX9_turn 42 = .ok (.aload_n 0, 1) := by decide +kernel
theorem dX9_turn_43 : decode cX9_turn 43 = .ok (.getfield 33, 3) := by decide +kernel
theorem dX9_turn_46 : decode cX9_turn 46 = .ok (.sipush 492, 3) := by decide +kernel
theorem dX9_turn_49 : decode cX9_turn 49 = .ok (.iload_n 1, 1) := by decide +kernel
theorem dX9_turn_50 : decode cX9_turn 50 = .ok (.iadd, 1) := by decide +kernel
theorem dX9_turn_51 : decode cX9_turn 51 = .ok (.iaload, 1) := by decide +kernel
theorem dX9_turn_52 : decode cX9_turn 52 = .ok (.if_icmp .lt 9, 3) := by decide +kernel
theorem dX9_turn_55 : decode cX9_turn 55 = .ok (.aload_n 0, 1) := by decide +kernel
theorem dX9_turn_56 : decode cX9_turn 56 = .ok (.iconst 3, 1) := by decide +kernel
theorem dX9_turn_57 : decode cX9_turn 57 = .ok (.invokevirtual 106, 3) := by decide +kernel
theorem dX9_turn_60 : decode cX9_turn 60 = .ok (.ireturn, 1) := by decide +kernel
theorem dX9_turn_61 : decode cX9_turn 61 = .ok (.aload_n 0, 1) := by decide +kernel
theorem dX9_turn_62 : decode cX9_turn 62 = .ok (.invokevirtual 260, 3) := by decide +kernel
theorem dX9_turn_65 : decode cX9_turn 65 = .ok (.iload_n 2, 1) := by decide +kernel
theorem dX9_turn_66 : decode cX9_turn 66 = .ok (.istore 4, 2) := by decide +kernel
theorem dX9_turn_68 : decode cX9_turn 68 = .ok (.iload 4, 2) := by decide +kernel
theorem dX9_turn_70 : decode cX9_turn 70 = .ok (.iload_n 3, 1) := by decide +kernel
theorem dX9_turn_71 : decode cX9_turn 71 = .ok (.if_icmp .gt 45, 3) := by decide +kernel
theorem dX9_turn_74 : decode cX9_turn 74 = .ok (.aload_n 0, 1) := by decide +kernel
theorem dX9_turn_75 : decode cX9_turn 75 = .ok (.getfield 39, 3) := by decide +kernel
theorem dX9_turn_78 : decode cX9_turn 78 = .ok (.sipush 252, 3) := by decide +kernel
theorem dX9_turn_81 : decode cX9_turn 81 = .ok (.iload_n 1, 1) := by decide +kernel
theorem dX9_turn_82 : decode cX9_turn 82 = .ok (.bipush 40, 2) := by decide +kernel
theorem dX9_turn_84 : decode cX9_turn 84 = .ok (.imul, 1) := by decide +kernel
theorem dX9_turn_85 : decode cX9_turn 85 = .ok (.iadd, 1) := by decide +kernel
theorem dX9_turn_86 : decode cX9_turn 86 = .ok (.iload 4, 2) := by decide +kernel
theorem dX9_turn_88 : decode cX9_turn 88 = .ok (.iadd, 1) := by decide +kernel
theorem dX9_turn_89 : decode cX9_turn 89 = .ok (.aload_n 0, 1) := by decide +kernel
theorem dX9_turn_90 : decode cX9_turn 90 = .ok (.getfield 33, 3) := by decide +kernel
theorem dX9_turn_93 : decode cX9_turn 93 = .ok (.sipush 252, 3) := by decide +kernel
theorem dX9_turn_96 : decode cX9_turn 96 = .ok (.iload_n 1, 1) := by decide +kernel
theorem dX9_turn_97 : decode cX9_turn 97 = .ok (.bipush 40, 2) := by decide +kernel
theorem dX9_turn_99 : decode cX9_turn 99 = .ok (.imul, 1) := by decide +kernel
theorem dX9_turn_100 : decode cX9_turn 100 = .ok (.iadd, 1) := by decide +kernel
theorem dX9_turn_101 : decode cX9_turn 101 = .ok (.iload_n 2, 1) := by decide +kernel
theorem dX9_turn_102 : decode cX9_turn 102 = .ok (.iadd, 1) := by decide +kernel
theorem dX9_turn_103 : decode cX9_turn 103 = .ok (.iload_n 3, 1) := by decide +kernel
theorem dX9_turn_104 : decode cX9_turn 104 = .ok (.iadd, 1) := by decide +kernel
theorem dX9_turn_105 : decode cX9_turn 105 = .ok (.iload 4, 2) := by decide +kernel
theorem dX9_turn_107 : decode cX9_turn 107 = .ok (.isub, 1) := by decide +kernel
theorem dX9_turn_108 : decode cX9_turn 108 = .ok (.iaload, 1) := by decide +kernel
theorem dX9_turn_109 : decode cX9_turn 109 = .ok (.iastore, 1) := by decide +kernel
theorem dX9_turn_110 : decode cX9_turn 110 = .ok (.iinc 4 1, 3) := by decide +kernel
theorem dX9_turn_113 : decode cX9_turn 113 = .ok (.goto (-45), 3) := by decide +kernel
theorem dX9_turn_116 : decode cX9_turn 116 = .ok (.aload_n 0, 1) := by decide +kernel
theorem dX9_turn_117 : decode cX9_turn 117 = .ok (.invokevirtual 267, 3) := by decide +kernel
theorem dX9_turn_120 : decode cX9_turn 120 = .ok (.ireturn, 1) := by decide +kernel
theorem dX9_tails_0 : decode cX9_tails 0 = .ok (.aload_n 0, 1) := by decide +kernel
theorem dX9_tails_1 : decode cX9_tails 1 = .ok (.iconst 0, 1) := by decide +kernel
theorem dX9_tails_2 : decode cX9_tails 2 = .ok (.putfield 1, 3) := by decide +kernel
theorem dX9_tails_5 : decode cX9_tails 5 = .ok (.aload_n 0, 1) := by decide +kernel
theorem dX9_tails_6 : decode cX9_tails 6 = .ok (.iload_n 1, 1) := by decide +kernel
theorem dX9_tails_7 : decode cX9_tails 7 = .ok (.invokevirtual 257, 3) := by decide +kernel
theorem dX9_tails_10 : decode cX9_tails 10 = .ok (.ifCond .eq 11, 3) := by decide +kernel
theorem dX9_tails_13 : decode cX9_tails 13 = .ok (.aload_n 0, 1) := by decide +kernel
theorem dX9_tails_14 : decode cX9_tails 14 = .ok (.iload_n 3, 1) := by decide +kernel
theorem dX9_tails_15 : decode cX9_tails 15 = .ok (.invokevirtual 257, 3) := by decide +kernel
theorem dX9_tails_18 : decode cX9_tails 18 = .ok (.ifCond .ne 9, 3) := by decide +kernel
theorem dX9_tails_21 : decode cX9_tails 21 = .ok (.aload_n 0, 1) := by decide +kernel
theorem dX9_tails_22 : decode cX9_tails 22 = .ok (.iconst 1, 1) := by decide +kernel
theorem dX9_tails_23 : decode cX9_tails 23 = .ok (.invokevirtual 106, 3) := by decide +kernel
theorem dX9_tails_26 : decode cX9_tails 26 = .ok (.ireturn, 1) := by decide +kernel
theorem dX9_tails_27 : decode cX9_tails 27 = .ok (.aload_n 0, 1) := by decide +kernel
theorem dX9_tails_28 : decode cX9_tails 28 = .ok (.getfield 13, 3) := by decide +kernel
theorem dX9_tails_31 : decode cX9_tails 31 = .ok (.ifCond .eq 9, 3) := by decide +kernel
theorem dX9_tails_34 : decode cX9_tails 34 = .ok (.aload_n 0, 1) := by decide +kernel
theorem dX9_tails_35 : decode cX9_tails 35 = .ok (.iconst 2, 1) := by decide +kernel
theorem dX9_tails_36 : decode cX9_tails 36 = .ok (.invokevirtual 106, 3) := by decide +kernel
theorem dX9_tails_39 : decode cX9_tails 39 = .ok (.ireturn, 1) := by decide +kernel
theorem dX9_tails_40 : decode cX9_tails 40 = .ok (.aload_n 0, 1) := by decide +kernel
theorem dX9_tails_41 : decode cX9_tails 41 = .ok (.getfield 33, 3) := by decide +kernel
theorem dX9_tails_44 : decode cX9_tails 44 = .ok (.sipush 492, 3) := by decide +kernel
theorem dX9_tails_47 : decode cX9_tails 47 = .ok (.iload_n 1, 1) := by decide +kernel
theorem dX9_tails_48 : decode cX9_tails 48 = .ok (.iadd, 1) := by decide +kernel
theorem dX9_tails_49 : decode cX9_tails 49 = .ok (.iaload, 1) := by decide +kernel
theorem dX9_tails_50 : decode cX9_tails 50 = .ok (.istore 5, 2) := by decide +kernel
theorem dX9_tails_52 : decode cX9_tails 52 = .ok (.aload_n 0, 1) := by decide +kernel
theorem dX9_tails_53 : decode cX9_tails 53 = .ok (.getfield 33, 3) := by decide +kernel
theorem dX9_tails_56 : decode cX9_tails 56 = .ok (.sipush 492, 3) := by decide +kernel
theorem dX9_tails_59 : decode cX9_tails 59 = .ok (.iload_n 3, 1) := by decide +kernel
theorem dX9_tails_60 : decode cX9_tails 60 = .ok (.iadd, 1) := by decide +kernel
theorem dX9_tails_61 : decode cX9_tails 61 = .ok (.iaload, 1) := by decide +kernel
theorem dX9_tails_62 : decode cX9_tails 62 = .ok (.istore 6, 2) := by decide +kernel
theorem dX9_tails_64 : decode cX9_tails 64 = .ok (.iload_n 1, 1) := by decide +kernel
theorem dX9_tails_65 : decode cX9_tails 65 = .ok (.iload_n 3, 1) := by decide +kernel
theorem dX9_tails_66 : decode cX9_tails 66 = .ok (.if_icmp .eq 25, 3) := by decide +kernel
theorem dX9_tails_69 : decode cX9_tails 69 = .ok (.iload_n 2, 1) := by decide +kernel
theorem dX9_tails_70 : decode cX9_tails 70 = .ok (.ifCond .lt 21, 3) := by decide +kernel
theorem dX9_tails_73 : decode cX9_tails 73 = .ok (.iload_n 2, 1) := by decide +kernel
theorem dX9_tails_74 : decode cX9_tails 74 = .ok (.iload 5, 2) := by decide +kernel
theorem dX9_tails_76 : decode cX9_tails 76 = .ok (.if_icmp .gt 15, 3) := by decide +kernel
theorem dX9_tails_79 : decode cX9_tails 79 = .ok (.iload 4, 2) := by decide +kernel
theorem dX9_tails_81 : decode cX9_tails 81 = .ok (.ifCond .lt 10, 3) := by decide +kernel
theorem dX9_tails_84 : decode cX9_tails 84 = .ok (.iload 4, 2) := by decide +kernel
theorem dX9_tails_86 : decode cX9_tails 86 = .ok (.iload 6, 2) := by decide +kernel
theorem dX9_tails_88 : decode cX9_tails 88 = .ok (.if_icmp .le 9, 3) := by decide +kernel
theorem dX9_tails_91 : decode cX9_tails 91 = .ok (.aload_n 0, 1) := by decide +kernel
theorem dX9_tails_92 : decode cX9_tails 92 = .ok (.iconst 3, 1) := by decide +kernel
theorem dX9_tails_93 : decode cX9_tails 93 = .ok (.invokevirtual 106, 3) := by decide +kernel
theorem dX9_tails_96 : decode cX9_tails 96 = .ok (.ireturn, 1) := by decide +kernel
theorem dX9_tails_97 : decode cX9_tails 97 = .ok (.aload_n 0, 1) := by decide +kernel
theorem dX9_tails_98 : decode cX9_tails 98 = .ok (.invokevirtual 260, 3) := by decide +kernel
theorem dX9_tails_101 : decode cX9_tails 101 = .ok (.iload 4, 2) := by decide +kernel
theorem dX9_tails_103 : decode cX9_tails 103 = .ok (.istore 7, 2) := by decide +kernel
theorem dX9_tails_105 : decode cX9_tails 105 = .ok (.iload 7, 2) := by decide +kernel
theorem dX9_tails_107 : decode cX9_tails 107 = .ok (.iload 6, 2) := by decide +kernel
theorem dX9_tails_109 : decode cX9_tails 109 = .ok (.if_icmp .ge 72, 3) := by decide +kernel
theorem dX9_tails_112 : decode cX9_tails 112 = .ok (.aload_n 0, 1) := by decide +kernel
theorem dX9_tails_113 : decode cX9_tails 113 = .ok (.getfield 39, 3) := by decide +kernel
theorem dX9_tails_116 : decode cX9_tails 116 = .ok (.sipush 252, 3) := by decide +kernel
theorem dX9_tails_119 : decode cX9_tails 119 = .ok (.iload_n 1, 1) := by decide +kernel
theorem dX9_tails_120 : decode cX9_tails 120 = .ok (.bipush 40, 2) := by decide +kernel
theorem dX9_tails_122 : decode cX9_tails 122 = .ok (.imul, 1) := by decide +kernel
theorem dX9_tails_123 : decode cX9_tails 123 = .ok (.iadd, 1) := by decide +kernel
theorem dX9_tails_124 : decode cX9_tails 124 = .ok (.iload_n 2, 1) := by decide +kernel
theorem dX9_tails_125 : decode cX9_tails 125 = .ok (.iadd, 1) := by decide +kernel
theorem dX9_tails_126 : decode cX9_tails 126 = .ok (.iload 7, 2) := by decide +kernel
theorem dX9_tails_128 : decode cX9_tails 128 = .ok (.iadd, 1) := by decide +kernel
theorem dX9_tails_129 : decode cX9_tails 129 = .ok (.iload 4, 2) := by decide +kernel
theorem dX9_tails_131 : decode cX9_tails 131 = .ok (.isub, 1) := by decide +kernel
theorem dX9_tails_132 : decode cX9_tails 132 = .ok (.aload_n 0, 1) := by decide +kernel
theorem dX9_tails_133 : decode cX9_tails 133 = .ok (.getfield 33, 3) := by decide +kernel
theorem dX9_tails_136 : decode cX9_tails 136 = .ok (.sipush 252, 3) := by decide +kernel
theorem dX9_tails_139 : decode cX9_tails 139 = .ok (.iload_n 3, 1) := by decide +kernel
theorem dX9_tails_140 : decode cX9_tails 140 = .ok (.bipush 40, 2) := by decide +kernel
theorem dX9_tails_142 : decode cX9_tails 142 = .ok (.imul, 1) := by decide +kernel
theorem dX9_tails_143 : decode cX9_tails 143 = .ok (.iadd, 1) := by decide +kernel
theorem dX9_tails_144 : decode cX9_tails 144 = .ok (.iload 7, 2) := by decide +kernel
theorem dX9_tails_146 : decode cX9_tails 146 = .ok (.iadd, 1) := by decide +kernel
theorem dX9_tails_147 : decode cX9_tails 147 = .ok (.iaload, 1) := by decide +kernel
theorem dX9_tails_148 : decode cX9_tails 148 = .ok (.iastore, 1) := by decide +kernel
theorem dX9_tails_149 : decode cX9_tails 149 = .ok (.aload_n 0, 1) := by decide +kernel
theorem dX9_tails_150 : decode cX9_tails 150 = .ok (.getfield 39, 3) := by decide +kernel
theorem dX9_tails_153 : decode cX9_tails 153 = .ok (.sipush 212, 3) := by decide +kernel
theorem dX9_tails_156 : decode cX9_tails 156 = .ok (.aload_n 0, 1) := by decide +kernel
theorem dX9_tails_157 : decode cX9_tails 157 = .ok (.getfield 33, 3) := by decide +kernel
theorem dX9_tails_160 : decode cX9_tails 160 = .ok (.sipush 252, 3) := by decide +kernel
theorem dX9_tails_163 : decode cX9_tails 163 = .ok (.iload_n 3, 1) := by decide +kernel
theorem dX9_tails_164 : decode cX9_tails 164 = .ok (.bipush 40, 2) := by decide +kernel
theorem dX9_tails_166 : decode cX9_tails 166 = .ok (.imul, 1) := by decide +kernel
theorem dX9_tails_167 : decode cX9_tails 167 = .ok (.iadd, 1) := by decide +kernel
theorem dX9_tails_168 : decode cX9_tails 168 = .ok (.iload 7, 2) := by decide +kernel
theorem dX9_tails_170 : decode cX9_tails 170 = .ok (.iadd, 1) := by decide +kernel
theorem dX9_tails_171 : decode cX9_tails 171 = .ok (.iaload, 1) := by decide +kernel
theorem dX9_tails_172 : decode cX9_tails 172 = .ok (.iadd, 1) := by decide +kernel
theorem dX9_tails_173 : decode cX9_tails 173 = .ok (.iload_n 1, 1) := by decide +kernel
theorem dX9_tails_174 : decode cX9_tails 174 = .ok (.iastore, 1) := by decide +kernel
theorem dX9_tails_175 : decode cX9_tails 175 = .ok (.iinc 7 1, 3) := by decide +kernel
theorem dX9_tails_178 : decode cX9_tails 178 = .ok (.goto (-73), 3) := by decide +kernel
theorem dX9_tails_181 : decode cX9_tails 181 = .ok (.iload_n 2, 1) := by decide +kernel
theorem dX9_tails_182 : decode cX9_tails 182 = .ok (.istore 7, 2) := by decide +kernel
theorem dX9_tails_184 : decode cX9_tails 184 = .ok (.iload 7, 2) := by decide +kernel
theorem dX9_tails_186 : decode cX9_tails 186 = .ok (.iload 5, 2) := by decide +kernel
theorem dX9_tails_188 : decode cX9_tails 188 = .ok (.if_icmp .ge 72, 3) := by decide +kernel
theorem dX9_tails_191 : decode cX9_tails 191 = .ok (.aload_n 0, 1) := by decide +kernel
theorem dX9_tails_192 : decode cX9_tails 192 = .ok (.getfield 39, 3) := by decide +kernel
theorem dX9_tails_195 : decode cX9_tails 195 = .ok (.sipush 252, 3) := by decide +kernel
theorem dX9_tails_198 : decode cX9_tails 198 = .ok (.iload_n 3, 1) := by decide +kernel
theorem dX9_tails_199 : decode cX9_tails 199 = .ok (.bipush 40, 2) := by decide +kernel
theorem dX9_tails_201 : decode cX9_tails 201 = .ok (.imul, 1) := by decide +kernel
theorem dX9_tails_202 : decode cX9_tails 202 = .ok (.iadd, 1) := by decide +kernel
theorem dX9_tails_203 : decode cX9_tails 203 = .ok (.iload 4, 2) := by decide +kernel
theorem dX9_tails_205 : decode cX9_tails 205 = .ok (.iadd, 1) := by decide +kernel
theorem dX9_tails_206 : decode cX9_tails 206 = .ok (.iload 7, 2) := by decide +kernel
theorem dX9_tails_208 : decode cX9_tails 208 = .ok (.iadd, 1) := by decide +kernel
theorem dX9_tails_209 : decode cX9_tails 209 = .ok (.iload_n 2, 1) := by decide +kernel
theorem dX9_tails_210 : decode cX9_tails 210 = .ok (.isub, 1) := by decide +kernel
theorem dX9_tails_211 : decode cX9_tails 211 = .ok (.aload_n 0, 1) := by decide +kernel
theorem dX9_tails_212 : decode cX9_tails 212 = .ok (.getfield 33, 3) := by decide +kernel
theorem dX9_tails_215 : decode cX9_tails 215 = .ok (.sipush 252, 3) := by decide +kernel
theorem dX9_tails_218 : decode cX9_tails 218 = .ok (.iload_n 1, 1) := by decide +kernel
theorem dX9_tails_219 : decode cX9_tails 219 = .ok (.bipush 40, 2) := by decide +kernel
theorem dX9_tails_221 : decode cX9_tails 221 = .ok (.imul, 1) := by decide +kernel
theorem dX9_tails_222 : decode cX9_tails 222 = .ok (.iadd, 1) := by decide +kernel
theorem dX9_tails_223 : decode cX9_tails 223 = .ok (.iload 7, 2) := by decide +kernel
theorem dX9_tails_225 : decode cX9_tails 225 = .ok (.iadd, 1) := by decide +kernel
theorem dX9_tails_226 : decode cX9_tails 226 = .ok (.iaload, 1) := by decide +kernel
theorem dX9_tails_227 : decode cX9_tails 227 = .ok (.iastore, 1) := by decide +kernel
theorem dX9_tails_228 : decode cX9_tails 228 = .ok (.aload_n 0, 1) := by decide +kernel
theorem dX9_tails_229 : decode cX9_tails 229 = .ok (.getfield 39, 3) := by decide +kernel
theorem dX9_tails_232 : decode cX9_tails 232 = .ok (.sipush 212, 3) := by decide +kernel
theorem dX9_tails_235 : decode cX9_tails 235 = .ok (.aload_n 0, 1) := by decide +kernel
theorem dX9_tails_236 : decode cX9_tails 236 = .ok (.getfield 33, 3) := by decide +kernel
theorem dX9_tails_239 : decode cX9_tails 239 = .ok (.sipush 252, 3) := by decide +kernel
theorem dX9_tails_242 : decode cX9_tails 242 = .ok (.iload_n 1, 1) := by decide +kernel
theorem dX9_tails_243 : decode cX9_tails 243 = .ok (.bipush 40, 2) := by decide +kernel
theorem dX9_tails_245 : decode cX9_tails 245 = .ok (.imul, 1) := by decide +kernel
theorem dX9_tails_246 : decode cX9_tails 246 = .ok (.iadd, 1) := by decide +kernel
theorem dX9_tails_247 : decode cX9_tails 247 = .ok (.iload 7, 2) := by decide +kernel
theorem dX9_tails_249 : decode cX9_tails 249 = .ok (.iadd, 1) := by decide +kernel
theorem dX9_tails_250 : decode cX9_tails 250 = .ok (.iaload, 1) := by decide +kernel
theorem dX9_tails_251 : decode cX9_tails 251 = .ok (.iadd, 1) := by decide +kernel
theorem dX9_tails_252 : decode cX9_tails 252 = .ok (.iload_n 3, 1) := by decide +kernel
theorem dX9_tails_253 : decode cX9_tails 253 = .ok (.iastore, 1) := by decide +kernel
theorem dX9_tails_254 : decode cX9_tails 254 = .ok (.iinc 7 1, 3) := by decide +kernel
theorem dX9_tails_257 : decode cX9_tails 257 = .ok (.goto (-73), 3) := by decide +kernel
theorem dX9_tails_260 : decode cX9_tails 260 = .ok (.aload_n 0, 1) := by decide +kernel
theorem dX9_tails_261 : decode cX9_tails 261 = .ok (.getfield 39, 3) := by decide +kernel
theorem dX9_tails_264 : decode cX9_tails 264 = .ok (.sipush 492, 3) := by decide +kernel
theorem dX9_tails_267 : decode cX9_tails 267 = .ok (.iload_n 1, 1) := by decide +kernel
theorem dX9_tails_268 : decode cX9_tails 268 = .ok (.iadd, 1) := by decide +kernel
theorem dX9_tails_269 : decode cX9_tails 269 = .ok (.iload_n 2, 1) := by decide +kernel
theorem dX9_tails_270 : decode cX9_tails 270 = .ok (.iload 6, 2) := by decide +kernel
theorem dX9_tails_272 : decode cX9_tails 272 = .ok (.iadd, 1) := by decide +kernel
theorem dX9_tails_273 : decode cX9_tails 273 = .ok (.iload 4, 2) := by decide +kernel
theorem dX9_tails_275 : decode cX9_tails 275 = .ok (.isub, 1) := by decide +kernel
theorem dX9_tails_276 : decode cX9_tails 276 = .ok (.iastore, 1) := by decide +kernel
theorem dX9_tails_277 : decode cX9_tails 277 = .ok (.aload_n 0, 1) := by decide +kernel
theorem dX9_tails_278 : decode cX9_tails 278 = .ok (.getfield 39, 3) := by decide +kernel
theorem dX9_tails_281 : decode cX9_tails 281 = .ok (.sipush 492, 3) := by decide +kernel
theorem dX9_tails_284 : decode cX9_tails 284 = .ok (.iload_n 3, 1) := by decide +kernel
theorem dX9_tails_285 : decode cX9_tails 285 = .ok (.iadd, 1) := by decide +kernel
theorem dX9_tails_286 : decode cX9_tails 286 = .ok (.iload 4, 2) := by decide +kernel
theorem dX9_tails_288 : decode cX9_tails 288 = .ok (.iload 5, 2) := by decide +kernel
theorem dX9_tails_290 : decode cX9_tails 290 = .ok (.iadd, 1) := by decide +kernel
theorem dX9_tails_291 : decode cX9_tails 291 = .ok (.iload_n 2, 1) := by decide +kernel
theorem dX9_tails_292 : decode cX9_tails 292 = .ok (.isub, 1) := by decide +kernel
theorem dX9_tails_293 : decode cX9_tails 293 = .ok (.iastore, 1) := by decide +kernel
theorem dX9_tails_294 : decode cX9_tails 294 = .ok (.aload_n 0, 1) := by decide +kernel
theorem dX9_tails_295 : decode cX9_tails 295 = .ok (.invokevirtual 267, 3) := by decide +kernel
theorem dX9_tails_298 : decode cX9_tails 298 = .ok (.ireturn, 1) := by decide +kernel
theorem dX9_fact_0 : decode cX9_fact 0 = .ok (.aload_n 0, 1) := by decide +kernel
theorem dX9_fact_1 : decode cX9_fact 1 = .ok (.iconst 0, 1) := by decide +kernel
theorem dX9_fact_2 : decode cX9_fact 2 = .ok (.putfield 1, 3) := by decide +kernel
theorem dX9_fact_5 : decode cX9_fact 5 = .ok (.aload_n 0, 1) := by decide +kernel
theorem dX9_fact_6 : decode cX9_fact 6 = .ok (.iload_n 1, 1) := by decide +kernel
theorem dX9_fact_7 : decode cX9_fact 7 = .ok (.invokevirtual 253, 3) := by decide +kernel
theorem dX9_fact_10 : decode cX9_fact 10 = .ok (.ifCond .ne 9, 3) := by decide +kernel
theorem dX9_fact_13 : decode cX9_fact 13 = .ok (.aload_n 0, 1) := by decide +kernel
theorem dX9_fact_14 : decode cX9_fact 14 = .ok (.iconst 1, 1) := by decide +kernel
theorem dX9_fact_15 : decode cX9_fact 15 = .ok (.invokevirtual 106, 3) := by decide +kernel
theorem dX9_fact_18 : decode cX9_fact 18 = .ok (.ireturn, 1) := by decide +kernel
theorem dX9_fact_19 : decode cX9_fact 19 = .ok (.aload_n 0, 1) := by decide +kernel
theorem dX9_fact_20 : decode cX9_fact 20 = .ok (.getfield 13, 3) := by decide +kernel
theorem dX9_fact_23 : decode cX9_fact 23 = .ok (.ifCond .eq 9, 3) := by decide +kernel
theorem dX9_fact_26 : decode cX9_fact 26 = .ok (.aload_n 0, 1) := by decide +kernel
theorem dX9_fact_27 : decode cX9_fact 27 = .ok (.iconst 2, 1) := by decide +kernel
theorem dX9_fact_28 : decode cX9_fact 28 = .ok (.invokevirtual 106, 3) := by decide +kernel
theorem dX9_fact_31 : decode cX9_fact 31 = .ok (.ireturn, 1) := by decide +kernel
theorem dX9_fact_32 : decode cX9_fact 32 = .ok (.iload_n 2, 1) := by decide +kernel
theorem dX9_fact_33 : decode cX9_fact 33 = .ok (.ifCond .lt 8, 3) := by decide +kernel
theorem dX9_fact_36 : decode cX9_fact 36 = .ok (.iload_n 2, 1) := by decide +kernel
theorem dX9_fact_37 : decode cX9_fact 37 = .ok (.iconst 3, 1) := by decide +kernel
theorem dX9_fact_38 : decode cX9_fact 38 = .ok (.if_icmp .le 9, 3) := by decide +kernel
theorem dX9_fact_41 : decode cX9_fact 41 = .ok (.aload_n 0, 1) := by decide +kernel
theorem dX9_fact_42 : decode cX9_fact 42 = .ok (.iconst 3, 1) := by decide +kernel
theorem dX9_fact_43 : decode cX9_fact 43 = .ok (.invokevirtual 106, 3) := by decide +kernel
theorem dX9_fact_46 : decode cX9_fact 46 = .ok (.ireturn, 1) := by decide +kernel
theorem dX9_fact_47 : decode cX9_fact 47 = .ok (.aload_n 0, 1) := by decide +kernel
theorem dX9_fact_48 : decode cX9_fact 48 = .ok (.invokevirtual 260, 3) := by decide +kernel
theorem dX9_fact_51 : decode cX9_fact 51 = .ok (.aload_n 0, 1) := by decide +kernel
theorem dX9_fact_52 : decode cX9_fact 52 = .ok (.getfield 39, 3) := by decide +kernel
theorem dX9_fact_55 : decode cX9_fact 55 = .ok (.iconst 0, 1) := by decide +kernel
theorem dX9_fact_56 : decode cX9_fact 56 = .ok (.iconst 4, 1) := by decide +kernel
theorem dX9_fact_57 : decode cX9_fact 57 = .ok (.iload_n 1, 1) := by decide +kernel
theorem dX9_fact_58 : decode cX9_fact 58 = .ok (.imul, 1) := by decide +kernel
theorem dX9_fact_59 : decode cX9_fact 59 = .ok (.iadd, 1) := by decide +kernel
theorem dX9_fact_60 : decode cX9_fact 60 = .ok (.iload_n 2, 1) := by decide +kernel
theorem dX9_fact_61 : decode cX9_fact 61 = .ok (.iadd, 1) := by decide +kernel
theorem dX9_fact_62 : decode cX9_fact 62 = .ok (.iload_n 3, 1) := by decide +kernel
theorem dX9_fact_63 : decode cX9_fact 63 = .ok (.iastore, 1) := by decide +kernel
theorem dX9_fact_64 : decode cX9_fact 64 = .ok (.aload_n 0, 1) := by decide +kernel
theorem dX9_fact_65 : decode cX9_fact 65 = .ok (.invokevirtual 267, 3) := by decide +kernel
theorem dX9_fact_68 : decode cX9_fact 68 = .ok (.ireturn, 1) := by decide +kernel
theorem dX9_listFact_0 : decode cX9_listFact 0 = .ok (.aload_n 0, 1) := by decide +kernel
theorem dX9_listFact_1 : decode cX9_listFact 1 = .ok (.iconst 0, 1) := by decide +kernel
theorem dX9_listFact_2 : decode cX9_listFact 2 = .ok (.putfield 1, 3) := by decide +kernel
theorem dX9_listFact_5 : decode cX9_listFact 5 = .ok (.aload_n 0, 1) := by decide +kernel
theorem dX9_listFact_6 : decode cX9_listFact 6 = .ok (.iload_n 1, 1) := by decide +kernel
theorem dX9_listFact_7 : decode cX9_listFact 7 = .ok (.invokevirtual 257, 3) := by decide +kernel
theorem dX9_listFact_10 : decode cX9_listFact 10 = .ok (.ifCond .ne 9, 3) := by decide +kernel
theorem dX9_listFact_13 : decode cX9_listFact 13 = .ok (.aload_n 0, 1) := by decide +kernel
theorem dX9_listFact_14 : decode cX9_listFact 14 = .ok (.iconst 1, 1) := by decide +kernel
theorem dX9_listFact_15 : decode cX9_listFact 15 = .ok (.invokevirtual 106, 3) := by decide +kernel
theorem dX9_listFact_18 : decode cX9_listFact 18 = .ok (.ireturn, 1) := by decide +kernel
theorem dX9_listFact_19 : decode cX9_listFact 19 = .ok (.aload_n 0, 1) := by decide +kernel
theorem dX9_listFact_20 : decode cX9_listFact 20 = .ok (.getfield 13, 3) := by decide +kernel
theorem dX9_listFact_23 : decode cX9_listFact 23 = .ok (.ifCond .eq 9, 3) := by decide +kernel
theorem dX9_listFact_26 : decode cX9_listFact 26 = .ok (.aload_n 0, 1) := by decide +kernel
theorem dX9_listFact_27 : decode cX9_listFact 27 = .ok (.iconst 2, 1) := by decide +kernel
theorem dX9_listFact_28 : decode cX9_listFact 28 = .ok (.invokevirtual 106, 3) := by decide +kernel
theorem dX9_listFact_31 : decode cX9_listFact 31 = .ok (.ireturn, 1) := by decide +kernel
theorem dX9_listFact_32 : decode cX9_listFact 32 = .ok (.iload_n 2, 1) := by decide +kernel
theorem dX9_listFact_33 : decode cX9_listFact 33 = .ok (.ifCond .lt 8, 3) := by decide +kernel
theorem dX9_listFact_36 : decode cX9_listFact 36 = .ok (.iload_n 2, 1) := by decide +kernel
theorem dX9_listFact_37 : decode cX9_listFact 37 = .ok (.iconst 1, 1) := by decide +kernel
theorem dX9_listFact_38 : decode cX9_listFact 38 = .ok (.if_icmp .le 9, 3) := by decide +kernel
theorem dX9_listFact_41 : decode cX9_listFact 41 = .ok (.aload_n 0, 1) := by decide +kernel
theorem dX9_listFact_42 : decode cX9_listFact 42 = .ok (.iconst 3, 1) := by decide +kernel
theorem dX9_listFact_43 : decode cX9_listFact 43 = .ok (.invokevirtual 106, 3) := by decide +kernel
theorem dX9_listFact_46 : decode cX9_listFact 46 = .ok (.ireturn, 1) := by decide +kernel
theorem dX9_listFact_47 : decode cX9_listFact 47 = .ok (.aload_n 0, 1) := by decide +kernel
theorem dX9_listFact_48 : decode cX9_listFact 48 = .ok (.invokevirtual 260, 3) := by decide +kernel
theorem dX9_listFact_51 : decode cX9_listFact 51 = .ok (.aload_n 0, 1) := by decide +kernel
theorem dX9_listFact_52 : decode cX9_listFact 52 = .ok (.getfield 39, 3) := by decide +kernel
theorem dX9_listFact_55 : decode cX9_listFact 55 = .ok (.sipush 160, 3) := by decide +kernel
theorem dX9_listFact_58 : decode cX9_listFact 58 = .ok (.iconst 2, 1) := by decide +kernel
theorem dX9_listFact_59 : decode cX9_listFact 59 = .ok (.iload_n 1, 1) := by decide +kernel
theorem dX9_listFact_60 : decode cX9_listFact 60 = .ok (.imul, 1) := by decide +kernel
theorem dX9_listFact_61 : decode cX9_listFact 61 = .ok (.iadd, 1) := by decide +kernel
theorem dX9_listFact_62 : decode cX9_listFact 62 = .ok (.iload_n 2, 1) := by decide +kernel
theorem dX9_listFact_63 : decode cX9_listFact 63 = .ok (.iadd, 1) := by decide +kernel
theorem dX9_listFact_64 : decode cX9_listFact 64 = .ok (.iload_n 3, 1) := by decide +kernel
theorem dX9_listFact_65 : decode cX9_listFact 65 = .ok (.iastore, 1) := by decide +kernel
theorem dX9_listFact_66 : decode cX9_listFact 66 = .ok (.aload_n 0, 1) := by decide +kernel
theorem dX9_listFact_67 : decode cX9_listFact 67 = .ok (.invokevirtual 267, 3) := by decide +kernel
theorem dX9_listFact_70 : decode cX9_listFact 70 = .ok (.ireturn, 1) := by decide +kernel
theorem dX9_link_0 : decode cX9_link 0 = .ok (.aload_n 0, 1) := by decide +kernel
theorem dX9_link_1 : decode cX9_link 1 = .ok (.iconst 0, 1) := by decide +kernel
theorem dX9_link_2 : decode cX9_link 2 = .ok (.putfield 1, 3) := by decide +kernel
theorem dX9_link_5 : decode cX9_link 5 = .ok (.aload_n 0, 1) := by decide +kernel
theorem dX9_link_6 : decode cX9_link 6 = .ok (.iload_n 1, 1) := by decide +kernel
theorem dX9_link_7 : decode cX9_link 7 = .ok (.invokevirtual 253, 3) := by decide +kernel
theorem dX9_link_10 : decode cX9_link 10 = .ok (.ifCond .eq 16, 3) := by decide +kernel
theorem dX9_link_13 : decode cX9_link 13 = .ok (.iload_n 2, 1) := by decide +kernel
theorem dX9_link_14 : decode cX9_link 14 = .ok (.iconst (-1), 1) := by decide +kernel
theorem dX9_link_15 : decode cX9_link 15 = .ok (.if_icmp .eq 17, 3) := by decide +kernel
theorem dX9_link_18 : decode cX9_link 18 = .ok (.aload_n 0, 1) := by decide +kernel
theorem dX9_link_19 : decode cX9_link 19 = .ok (.iload_n 2, 1) := by decide +kernel
theorem dX9_link_20 : decode cX9_link 20 = .ok (.invokevirtual 253, 3) := by decide +kernel
theorem dX9_link_23 : decode cX9_link 23 = .ok (.ifCond .ne 9, 3) := by decide +kernel
theorem dX9_link_26 : decode cX9_link 26 = .ok (.aload_n 0, 1) := by decide +kernel
theorem dX9_link_27 : decode cX9_link 27 = .ok (.iconst 1, 1) := by decide +kernel
theorem dX9_link_28 : decode cX9_link 28 = .ok (.invokevirtual 106, 3) := by decide +kernel
theorem dX9_link_31 : decode cX9_link 31 = .ok (.ireturn, 1) := by decide +kernel
theorem dX9_link_32 : decode cX9_link 32 = .ok (.aload_n 0, 1) := by decide +kernel
theorem dX9_link_33 : decode cX9_link 33 = .ok (.getfield 13, 3) := by decide +kernel
theorem dX9_link_36 : decode cX9_link 36 = .ok (.ifCond .eq 9, 3) := by decide +kernel
theorem dX9_link_39 : decode cX9_link 39 = .ok (.aload_n 0, 1) := by decide +kernel
theorem dX9_link_40 : decode cX9_link 40 = .ok (.iconst 2, 1) := by decide +kernel
theorem dX9_link_41 : decode cX9_link 41 = .ok (.invokevirtual 106, 3) := by decide +kernel
theorem dX9_link_44 : decode cX9_link 44 = .ok (.ireturn, 1) := by decide +kernel
theorem dX9_link_45 : decode cX9_link 45 = .ok (.iload_n 1, 1) := by decide +kernel
theorem dX9_link_46 : decode cX9_link 46 = .ok (.iload_n 2, 1) := by decide +kernel
theorem dX9_link_47 : decode cX9_link 47 = .ok (.if_icmp .ne 9, 3) := by decide +kernel
theorem dX9_link_50 : decode cX9_link 50 = .ok (.aload_n 0, 1) := by decide +kernel
theorem dX9_link_51 : decode cX9_link 51 = .ok (.iconst 3, 1) := by decide +kernel
theorem dX9_link_52 : decode cX9_link 52 = .ok (.invokevirtual 106, 3) := by decide +kernel
theorem dX9_link_55 : decode cX9_link 55 = .ok (.ireturn, 1) := by decide +kernel
theorem dX9_link_56 : decode cX9_link 56 = .ok (.aload_n 0, 1) := by decide +kernel
theorem dX9_link_57 : decode cX9_link 57 = .ok (.invokevirtual 260, 3) := by decide +kernel
theorem dX9_link_60 : decode cX9_link 60 = .ok (.aload_n 0, 1) := by decide +kernel
theorem dX9_link_61 : decode cX9_link 61 = .ok (.getfield 39, 3) := by decide +kernel
theorem dX9_link_64 : decode cX9_link 64 = .ok (.sipush 172, 3) := by decide +kernel
theorem dX9_link_67 : decode cX9_link 67 = .ok (.iload_n 1, 1) := by decide +kernel
theorem dX9_link_68 : decode cX9_link 68 = .ok (.iadd, 1) := by decide +kernel
theorem dX9_link_69 : decode cX9_link 69 = .ok (.iload_n 2, 1) := by decide +kernel
theorem dX9_link_70 : decode cX9_link 70 = .ok (.iastore, 1) := by decide +kernel
theorem dX9_link_71 : decode cX9_link 71 = .ok (.aload_n 0, 1) := by decide +kernel
theorem dX9_link_72 : decode cX9_link 72 = .ok (.invokevirtual 267, 3) := by decide +kernel
theorem dX9_link_75 : decode cX9_link 75 = .ok (.ireturn, 1) := by decide +kernel
theorem dX9_freeze_0 : decode cX9_freeze 0 = .ok (.aload_n 0, 1) := by decide +kernel
theorem dX9_freeze_1 : decode cX9_freeze 1 = .ok (.iconst 0, 1) := by decide +kernel
theorem dX9_freeze_2 : decode cX9_freeze 2 = .ok (.putfield 1, 3) := by decide +kernel
theorem dX9_freeze_5 : decode cX9_freeze 5 = .ok (.aload_n 0, 1) := by decide +kernel
theorem dX9_freeze_6 : decode cX9_freeze 6 = .ok (.iload_n 1, 1) := by decide +kernel
theorem dX9_freeze_7 : decode cX9_freeze 7 = .ok (.invokevirtual 257, 3) := by decide +kernel
theorem dX9_freeze_10 : decode cX9_freeze 10 = .ok (.ifCond .ne 9, 3) := by decide +kernel
theorem dX9_freeze_13 : decode cX9_freeze 13 = .ok (.aload_n 0, 1) := by decide +kernel
theorem dX9_freeze_14 : decode cX9_freeze 14 = .ok (.iconst 1, 1) := by decide +kernel
theorem dX9_freeze_15 : decode cX9_freeze 15 = .ok (.invokevirtual 106, 3) := by decide +kernel
theorem dX9_freeze_18 : decode cX9_freeze 18 = .ok (.ireturn, 1) := by decide +kernel
theorem dX9_freeze_19 : decode cX9_freeze 19 = .ok (.aload_n 0, 1) := by decide +kernel
theorem dX9_freeze_20 : decode cX9_freeze 20 = .ok (.getfield 13, 3) := by decide +kernel
theorem dX9_freeze_23 : decode cX9_freeze 23 = .ok (.ifCond .eq 9, 3) := by decide +kernel
theorem dX9_freeze_26 : decode cX9_freeze 26 = .ok (.aload_n 0, 1) := by decide +kernel
theorem dX9_freeze_27 : decode cX9_freeze 27 = .ok (.iconst 2, 1) := by decide +kernel
theorem dX9_freeze_28 : decode cX9_freeze 28 = .ok (.invokevirtual 106, 3) := by decide +kernel
theorem dX9_freeze_31 : decode cX9_freeze 31 = .ok (.ireturn, 1) := by decide +kernel
theorem dX9_freeze_32 : decode cX9_freeze 32 = .ok (.iload_n 2, 1) := by decide +kernel
theorem dX9_freeze_33 : decode cX9_freeze 33 = .ok (.ifCond .lt 17, 3) := by decide +kernel
theorem dX9_freeze_36 : decode cX9_freeze 36 = .ok (.iload_n 2, 1) := by decide +kernel
theorem dX9_freeze_37 : decode cX9_freeze 37 = .ok (.aload_n 0, 1) := by decide +kernel
theorem dX9_freeze_38 : decode cX9_freeze 38 = .ok (.getfield 33, 3) := by decide +kernel
theorem dX9_freeze_41 : decode cX9_freeze 41 = .ok (.sipush 492, 3) := by decide +kernel
theorem dX9_freeze_44 : decode cX9_freeze 44 = .ok (.iload_n 1, 1) := by decide +kernel
theorem dX9_freeze_45 : decode cX9_freeze 45 = .ok (.iadd, 1) := by decide +kernel
theorem dX9_freeze_46 : decode cX9_freeze 46 = .ok (.iaload, 1) := by decide +kernel
theorem dX9_freeze_47 : decode cX9_freeze 47 = .ok (.if_icmp .le 9, 3) := by decide +kernel
theorem dX9_freeze_50 : decode cX9_freeze 50 = .ok (.aload_n 0, 1) := by decide +kernel
theorem dX9_freeze_51 : decode cX9_freeze 51 = .ok (.iconst 3, 1) := by decide +kernel
theorem dX9_freeze_52 : decode cX9_freeze 52 = .ok (.invokevirtual 106, 3) := by decide +kernel
theorem dX9_freeze_55 : decode cX9_freeze 55 = .ok (.ireturn, 1) := by decide +kernel
theorem dX9_freeze_56 : decode cX9_freeze 56 = .ok (.aload_n 0, 1) := by decide +kernel
theorem dX9_freeze_57 : decode cX9_freeze 57 = .ok (.invokevirtual 260, 3) := by decide +kernel
theorem dX9_freeze_60 : decode cX9_freeze 60 = .ok (.aload_n 0, 1) := by decide +kernel
theorem dX9_freeze_61 : decode cX9_freeze 61 = .ok (.getfield 39, 3) := by decide +kernel
theorem dX9_freeze_64 : decode cX9_freeze 64 = .ok (.sipush 498, 3) := by decide +kernel
theorem dX9_freeze_67 : decode cX9_freeze 67 = .ok (.iload_n 1, 1) := by decide +kernel
theorem dX9_freeze_68 : decode cX9_freeze 68 = .ok (.iadd, 1) := by decide +kernel
theorem dX9_freeze_69 : decode cX9_freeze 69 = .ok (.iload_n 2, 1) := by decide +kernel
theorem dX9_freeze_70 : decode cX9_freeze 70 = .ok (.iastore, 1) := by decide +kernel
theorem dX9_freeze_71 : decode cX9_freeze 71 = .ok (.aload_n 0, 1) := by decide +kernel
theorem dX9_freeze_72 : decode cX9_freeze 72 = .ok (.invokevirtual 267, 3) := by decide +kernel
theorem dX9_freeze_75 : decode cX9_freeze 75 = .ok (.ireturn, 1) := by decide +kernel
theorem dX9_begin_0 : decode cX9_begin 0 = .ok (.aload_n 0, 1) := by decide +kernel
theorem dX9_begin_1 : decode cX9_begin 1 = .ok (.aload_n 0, 1) := by decide +kernel
theorem dX9_begin_2 : decode cX9_begin 2 = .ok (.getfield 13, 3) := by decide +kernel
theorem dX9_begin_5 : decode cX9_begin 5 = .ok (.ifCond .ne 10, 3) := by decide +kernel
theorem dX9_begin_8 : decode cX9_begin 8 = .ok (.aload_n 0, 1) := by decide +kernel
theorem dX9_begin_9 : decode cX9_begin 9 = .ok (.getfield 247, 3) := by decide +kernel
theorem dX9_begin_12 : decode cX9_begin 12 = .ok (.ifCond .eq 7, 3) := by decide +kernel
theorem dX9_begin_15 : decode cX9_begin 15 = .ok (.iconst 1, 1) := by decide +kernel
theorem dX9_begin_16 : decode cX9_begin 16 = .ok (.goto 4, 3) := by decide +kernel
theorem dX9_begin_19 : decode cX9_begin 19 = .ok (.iconst 0, 1) := by decide +kernel
theorem dX9_begin_20 : decode cX9_begin 20 = .ok (.putfield 1, 3) := by decide +kernel
theorem dX9_begin_23 : decode cX9_begin 23 = .ok (.aload_n 0, 1) := by decide +kernel
theorem dX9_begin_24 : decode cX9_begin 24 = .ok (.getfield 1, 3) := by decide +kernel
theorem dX9_begin_27 : decode cX9_begin 27 = .ok (.ifCond .eq 4, 3) := by decide +kernel
theorem dX9_begin_30 : decode cX9_begin 30 = .ok (.return_, 1) := by decide +kernel
theorem dX9_begin_31 : decode cX9_begin 31 = .ok (.aload_n 0, 1) := by decide +kernel
theorem dX9_begin_32 : decode cX9_begin 32 = .ok (.iconst 1, 1) := by decide +kernel
theorem dX9_begin_33 : decode cX9_begin 33 = .ok (.putfield 247, 3) := by decide +kernel
theorem dX9_begin_36 : decode cX9_begin 36 = .ok (.aload_n 0, 1) := by decide +kernel
theorem dX9_begin_37 : decode cX9_begin 37 = .ok (.iconst 0, 1) := by decide +kernel
theorem dX9_begin_38 : decode cX9_begin 38 = .ok (.putfield 250, 3) := by decide +kernel
theorem dX9_begin_41 : decode cX9_begin 41 = .ok (.return_, 1) := by decide +kernel
theorem dX9_end_0 : decode cX9_end 0 = .ok (.aload_n 0, 1) := by decide +kernel
theorem dX9_end_1 : decode cX9_end 1 = .ok (.iconst 0, 1) := by decide +kernel
theorem dX9_end_2 : decode cX9_end 2 = .ok (.putfield 1, 3) := by decide +kernel
theorem dX9_end_5 : decode cX9_end 5 = .ok (.aload_n 0, 1) := by decide +kernel
theorem dX9_end_6 : decode cX9_end 6 = .ok (.getfield 13, 3) := by decide +kernel
theorem dX9_end_9 : decode cX9_end 9 = .ok (.ifCond .ne 10, 3) := by decide +kernel
theorem dX9_end_12 : decode cX9_end 12 = .ok (.aload_n 0, 1) := by decide +kernel
theorem dX9_end_13 : decode cX9_end 13 = .ok (.getfield 247, 3) := by decide +kernel
theorem dX9_end_16 : decode cX9_end 16 = .ok (.ifCond .ne 9, 3) := by decide +kernel
theorem dX9_end_19 : decode cX9_end 19 = .ok (.aload_n 0, 1) := by decide +kernel
theorem dX9_end_20 : decode cX9_end 20 = .ok (.iconst 1, 1) := by decide +kernel
theorem dX9_end_21 : decode cX9_end 21 = .ok (.invokevirtual 106, 3) := by decide +kernel
theorem dX9_end_24 : decode cX9_end 24 = .ok (.ireturn, 1) := by decide +kernel
theorem dX9_end_25 : decode cX9_end 25 = .ok (.aload_n 0, 1) := by decide +kernel
theorem dX9_end_26 : decode cX9_end 26 = .ok (.iconst 0, 1) := by decide +kernel
theorem dX9_end_27 : decode cX9_end 27 = .ok (.putfield 247, 3) := by decide +kernel
theorem dX9_end_30 : decode cX9_end 30 = .ok (.aload_n 0, 1) := by decide +kernel
theorem dX9_end_31 : decode cX9_end 31 = .ok (.iconst 0, 1) := by decide +kernel
theorem dX9_end_32 : decode cX9_end 32 = .ok (.invokevirtual 123, 3) := by decide +kernel
theorem dX9_end_35 : decode cX9_end 35 = .ok (.ireturn, 1) := by decide +kernel
theorem dX9_drop_0 : decode cX9_drop 0 = .ok (.aload_n 0, 1) := by decide +kernel
theorem dX9_drop_1 : decode cX9_drop 1 = .ok (.iconst 0, 1) := by decide +kernel
theorem dX9_drop_2 : decode cX9_drop 2 = .ok (.putfield 1, 3) := by decide +kernel
theorem dX9_drop_5 : decode cX9_drop 5 = .ok (.aload_n 0, 1) := by decide +kernel
theorem dX9_drop_6 : decode cX9_drop 6 = .ok (.getfield 13, 3) := by decide +kernel
theorem dX9_drop_9 : decode cX9_drop 9 = .ok (.ifCond .ne 10, 3) := by decide +kernel
theorem dX9_drop_12 : decode cX9_drop 12 = .ok (.aload_n 0, 1) := by decide +kernel
theorem dX9_drop_13 : decode cX9_drop 13 = .ok (.getfield 247, 3) := by decide +kernel
theorem dX9_drop_16 : decode cX9_drop 16 = .ok (.ifCond .ne 9, 3) := by decide +kernel
theorem dX9_drop_19 : decode cX9_drop 19 = .ok (.aload_n 0, 1) := by decide +kernel
theorem dX9_drop_20 : decode cX9_drop 20 = .ok (.iconst 1, 1) := by decide +kernel
theorem dX9_drop_21 : decode cX9_drop 21 = .ok (.invokevirtual 106, 3) := by decide +kernel
theorem dX9_drop_24 : decode cX9_drop 24 = .ok (.ireturn, 1) := by decide +kernel
theorem dX9_drop_25 : decode cX9_drop 25 = .ok (.aload_n 0, 1) := by decide +kernel
theorem dX9_drop_26 : decode cX9_drop 26 = .ok (.iconst 0, 1) := by decide +kernel
theorem dX9_drop_27 : decode cX9_drop 27 = .ok (.putfield 247, 3) := by decide +kernel
theorem dX9_drop_30 : decode cX9_drop 30 = .ok (.aload_n 0, 1) := by decide +kernel
theorem dX9_drop_31 : decode cX9_drop 31 = .ok (.getfield 36, 3) := by decide +kernel
theorem dX9_drop_34 : decode cX9_drop 34 = .ok (.iconst 0, 1) := by decide +kernel
theorem dX9_drop_35 : decode cX9_drop 35 = .ok (.aload_n 0, 1) := by decide +kernel
theorem dX9_drop_36 : decode cX9_drop 36 = .ok (.getfield 33, 3) := by decide +kernel
theorem dX9_drop_39 : decode cX9_drop 39 = .ok (.iconst 0, 1) := by decide +kernel
theorem dX9_drop_40 : decode cX9_drop 40 = .ok (.sipush 504, 3) := by decide +kernel
theorem dX9_drop_43 : decode cX9_drop 43 = .ok (.invokestatic 96, 3) := by decide +kernel
theorem dX9_drop_46 : decode cX9_drop 46 = .ok (.aload_n 0, 1) := by decide +kernel
theorem dX9_drop_47 : decode cX9_drop 47 = .ok (.getfield 250, 3) := by decide +kernel
theorem dX9_drop_50 : decode cX9_drop 50 = .ok (.ireturn, 1) := by decide +kernel
theorem dX9_undo_0 : decode cX9_undo 0 = .ok (.aload_n 0, 1) := by decide +kernel
theorem dX9_undo_1 : decode cX9_undo 1 = .ok (.iconst 0, 1) := by decide +kernel
theorem dX9_undo_2 : decode cX9_undo 2 = .ok (.putfield 1, 3) := by decide +kernel
theorem dX9_undo_5 : decode cX9_undo 5 = .ok (.aload_n 0, 1) := by decide +kernel
theorem dX9_undo_6 : decode cX9_undo 6 = .ok (.getfield 13, 3) := by decide +kernel
theorem dX9_undo_9 : decode cX9_undo 9 = .ok (.ifCond .ne 10, 3) := by decide +kernel
theorem dX9_undo_12 : decode cX9_undo 12 = .ok (.aload_n 0, 1) := by decide +kernel
theorem dX9_undo_13 : decode cX9_undo 13 = .ok (.getfield 247, 3) := by decide +kernel
theorem dX9_undo_16 : decode cX9_undo 16 = .ok (.ifCond .eq 9, 3) := by decide +kernel
theorem dX9_undo_19 : decode cX9_undo 19 = .ok (.aload_n 0, 1) := by decide +kernel
theorem dX9_undo_20 : decode cX9_undo 20 = .ok (.iconst 1, 1) := by decide +kernel
theorem dX9_undo_21 : decode cX9_undo 21 = .ok (.invokevirtual 106, 3) := by decide +kernel
theorem dX9_undo_24 : decode cX9_undo 24 = .ok (.ireturn, 1) := by decide +kernel
theorem dX9_undo_25 : decode cX9_undo 25 = .ok (.aload_n 0, 1) := by decide +kernel
theorem dX9_undo_26 : decode cX9_undo 26 = .ok (.getfield 244, 3) := by decide +kernel
theorem dX9_undo_29 : decode cX9_undo 29 = .ok (.ifCond .ne 5, 3) := by decide +kernel
theorem dX9_undo_32 : decode cX9_undo 32 = .ok (.iconst (-1), 1) := by decide +kernel
theorem dX9_undo_33 : decode cX9_undo 33 = .ok (.ireturn, 1) := by decide +kernel
theorem dX9_undo_34 : decode cX9_undo 34 = .ok (.aload_n 0, 1) := by decide +kernel
theorem dX9_undo_35 : decode cX9_undo 35 = .ok (.dup, 1) := by decide +kernel
theorem dX9_undo_36 : decode cX9_undo 36 = .ok (.getfield 244, 3) := by decide +kernel
theorem dX9_undo_39 : decode cX9_undo 39 = .ok (.iconst 1, 1) := by decide +kernel
theorem dX9_undo_40 : decode cX9_undo 40 = .ok (.isub, 1) := by decide +kernel
theorem dX9_undo_41 : decode cX9_undo 41 = .ok (.putfield 244, 3) := by decide +kernel
theorem dX9_undo_44 : decode cX9_undo 44 = .ok (.aload_n 0, 1) := by decide +kernel
theorem dX9_undo_45 : decode cX9_undo 45 = .ok (.getfield 49, 3) := by decide +kernel
theorem dX9_undo_48 : decode cX9_undo 48 = .ok (.aload_n 0, 1) := by decide +kernel
theorem dX9_undo_49 : decode cX9_undo 49 = .ok (.getfield 244, 3) := by decide +kernel
theorem dX9_undo_52 : decode cX9_undo 52 = .ok (.sipush 504, 3) := by decide +kernel
theorem dX9_undo_55 : decode cX9_undo 55 = .ok (.imul, 1) := by decide +kernel
theorem dX9_undo_56 : decode cX9_undo 56 = .ok (.aload_n 0, 1) := by decide +kernel
theorem dX9_undo_57 : decode cX9_undo 57 = .ok (.getfield 39, 3) := by decide +kernel
theorem dX9_undo_60 : decode cX9_undo 60 = .ok (.iconst 0, 1) := by decide +kernel
theorem dX9_undo_61 : decode cX9_undo 61 = .ok (.sipush 504, 3) := by decide +kernel
theorem dX9_undo_64 : decode cX9_undo 64 = .ok (.invokestatic 96, 3) := by decide +kernel
theorem dX9_undo_67 : decode cX9_undo 67 = .ok (.iconst 0, 1) := by decide +kernel
theorem dX9_undo_68 : decode cX9_undo 68 = .ok (.istore_n 1, 1) := by decide +kernel
theorem dX9_undo_69 : decode cX9_undo 69 = .ok (.iconst 0, 1) := by decide +kernel
theorem dX9_undo_70 : decode cX9_undo 70 = .ok (.istore_n 2, 1) := by decide +kernel
theorem dX9_undo_71 : decode cX9_undo 71 = .ok (.iload_n 2, 1) := by decide +kernel
theorem dX9_undo_72 : decode cX9_undo 72 = .ok (.sipush 258, 3) := by decide +kernel
theorem dX9_undo_75 : decode cX9_undo 75 = .ok (.if_icmp .ge 74, 3) := by decide +kernel
theorem dX9_undo_78 : decode cX9_undo 78 = .ok (.aload_n 0, 1) := by decide +kernel
theorem dX9_undo_79 : decode cX9_undo 79 = .ok (.aload_n 0, 1) := by decide +kernel
theorem dX9_undo_80 : decode cX9_undo 80 = .ok (.getfield 36, 3) := by decide +kernel
theorem dX9_undo_83 : decode cX9_undo 83 = .ok (.iload_n 2, 1) := by decide +kernel
theorem dX9_undo_84 : decode cX9_undo 84 = .ok (.invokevirtual 162, 3) := by decide +kernel
theorem dX9_undo_87 : decode cX9_undo 87 = .ok (.istore_n 3, 1) := by decide +kernel
theorem dX9_undo_88 : decode cX9_undo 88 = .ok (.aload_n 0, 1) := by decide +kernel
theorem dX9_undo_89 : decode cX9_undo 89 = .ok (.aload_n 0, 1) := by decide +kernel
theorem dX9_undo_90 : decode cX9_undo 90 = .ok (.getfield 39, 3) := by decide +kernel
theorem dX9_undo_93 : decode cX9_undo 93 = .ok (.iload_n 2, 1) := by decide +kernel
theorem dX9_undo_94 : decode cX9_undo 94 = .ok (.invokevirtual 162, 3) := by decide +kernel
theorem dX9_undo_97 : decode cX9_undo 97 = .ok (.istore 4, 2) := by decide +kernel
theorem dX9_undo_99 : decode cX9_undo 99 = .ok (.iload_n 1, 1) := by decide +kernel
theorem dX9_undo_100 : decode cX9_undo 100 = .ok (.iload_n 3, 1) := by decide +kernel
theorem dX9_undo_101 : decode cX9_undo 101 = .ok (.iload 4, 2) := by decide +kernel
theorem dX9_undo_103 : decode cX9_undo 103 = .ok (.if_icmp .ne 33, 3) := by decide +kernel
theorem dX9_undo_106 : decode cX9_undo 106 = .ok (.iload 4, 2) := by decide +kernel
theorem dX9_undo_108 : decode cX9_undo 108 = .ok (.ifCond .eq 32, 3) := by decide +kernel
theorem dX9_undo_111 : decode cX9_undo 111 = .ok (.aload_n 0, 1) := by decide +kernel
theorem dX9_undo_112 : decode cX9_undo 112 = .ok (.getfield 42, 3) := by decide +kernel
theorem dX9_undo_115 : decode cX9_undo 115 = .ok (.iload_n 2, 1) := by decide +kernel
theorem dX9_undo_116 : decode cX9_undo 116 = .ok (.laload, 1) := by decide +kernel
theorem dX9_undo_117 : decode cX9_undo 117 = .ok (.aload_n 0, 1) := by decide +kernel
theorem dX9_undo_118 : decode cX9_undo 118 = .ok (.getfield 52, 3) := by decide +kernel
theorem dX9_undo_121 : decode cX9_undo 121 = .ok (.aload_n 0, 1) := by decide +kernel
theorem dX9_undo_122 : decode cX9_undo 122 = .ok (.getfield 244, 3) := by decide +kernel
theorem dX9_undo_125 : decode cX9_undo 125 = .ok (.sipush 258, 3) := by decide +kernel
theorem dX9_undo_128 : decode cX9_undo 128 = .ok (.imul, 1) := by decide +kernel
theorem dX9_undo_129 : decode cX9_undo 129 = .ok (.iload_n 2, 1) := by decide +kernel
theorem dX9_undo_130 : decode cX9_undo 130 = .ok (.iadd, 1) := by decide +kernel
theorem dX9_undo_131 : decode cX9_undo 131 = .ok (.laload, 1) := by decide +kernel
theorem dX9_undo_132 : decode cX9_undo 132 = .ok (.lcmp, 1) := by decide +kernel
theorem dX9_undo_133 : decode cX9_undo 133 = .ok (.ifCond .eq 7, 3) := by decide +kernel
theorem dX9_undo_136 : decode cX9_undo 136 = .ok (.iconst 1, 1) := by decide +kernel
theorem dX9_undo_137 : decode cX9_undo 137 = .ok (.goto 4, 3) := by decide +kernel
theorem dX9_undo_140 : decode cX9_undo 140 = .ok (.iconst 0, 1) := by decide +kernel
theorem dX9_undo_141 : decode cX9_undo 141 = .ok (.iadd, 1) := by decide +kernel
theorem dX9_undo_142 : decode cX9_undo 142 = .ok (.istore_n 1, 1) := by decide +kernel
theorem dX9_undo_143 : decode cX9_undo 143 = .ok (.iinc 2 1, 3) := by decide +kernel
theorem dX9_undo_146 : decode cX9_undo 146 = .ok (.goto (-75), 3) := by decide +kernel
theorem dX9_undo_149 : decode cX9_undo 149 = .ok (.aload_n 0, 1) := by decide +kernel
theorem dX9_undo_150 : decode cX9_undo 150 = .ok (.getfield 39, 3) := by decide +kernel
theorem dX9_undo_153 : decode cX9_undo 153 = .ok (.iconst 0, 1) := by decide +kernel
theorem dX9_undo_154 : decode cX9_undo 154 = .ok (.aload_n 0, 1) := by decide +kernel
theorem dX9_undo_155 : decode cX9_undo 155 = .ok (.getfield 36, 3) := by decide +kernel
theorem dX9_undo_158 : decode cX9_undo 158 = .ok (.iconst 0, 1) := by decide +kernel
theorem dX9_undo_159 : decode cX9_undo 159 = .ok (.sipush 504, 3) := by decide +kernel
theorem dX9_undo_162 : decode cX9_undo 162 = .ok (.invokestatic 96, 3) := by decide +kernel
theorem dX9_undo_165 : decode cX9_undo 165 = .ok (.aload_n 0, 1) := by decide +kernel
theorem dX9_undo_166 : decode cX9_undo 166 = .ok (.getfield 39, 3) := by decide +kernel
theorem dX9_undo_169 : decode cX9_undo 169 = .ok (.iconst 0, 1) := by decide +kernel
theorem dX9_undo_170 : decode cX9_undo 170 = .ok (.aload_n 0, 1) := by decide +kernel
theorem dX9_undo_171 : decode cX9_undo 171 = .ok (.getfield 33, 3) := by decide +kernel
theorem dX9_undo_174 : decode cX9_undo 174 = .ok (.iconst 0, 1) := by decide +kernel
theorem dX9_undo_175 : decode cX9_undo 175 = .ok (.sipush 504, 3) := by decide +kernel
theorem dX9_undo_178 : decode cX9_undo 178 = .ok (.invokestatic 96, 3) := by decide +kernel
theorem dX9_undo_181 : decode cX9_undo 181 = .ok (.aload_n 0, 1) := by decide +kernel
theorem dX9_undo_182 : decode cX9_undo 182 = .ok (.getfield 52, 3) := by decide +kernel
theorem dX9_undo_185 : decode cX9_undo 185 = .ok (.aload_n 0, 1) := by decide +kernel
theorem dX9_undo_186 : decode cX9_undo 186 = .ok (.getfield 244, 3) := by decide +kernel
theorem dX9_undo_189 : decode cX9_undo 189 = .ok (.sipush 258, 3) := by decide +kernel
theorem dX9_undo_192 : decode cX9_undo 192 = .ok (.imul, 1) := by decide +kernel
theorem dX9_undo_193 : decode cX9_undo 193 = .ok (.aload_n 0, 1) := by decide +kernel
theorem dX9_undo_194 : decode cX9_undo 194 = .ok (.getfield 42, 3) := by decide +kernel
theorem dX9_undo_197 : decode cX9_undo 197 = .ok (.iconst 0, 1) := by decide +kernel
theorem dX9_undo_198 : decode cX9_undo 198 = .ok (.sipush 258, 3) := by decide +kernel
theorem dX9_undo_201 : decode cX9_undo 201 = .ok (.invokestatic 231, 3) := by decide +kernel
theorem dX9_undo_204 : decode cX9_undo 204 = .ok (.aload_n 0, 1) := by decide +kernel
theorem dX9_undo_205 : decode cX9_undo 205 = .ok (.iconst 0, 1) := by decide +kernel
theorem dX9_undo_206 : decode cX9_undo 206 = .ok (.putfield 235, 3) := by decide +kernel
theorem dX9_undo_209 : decode cX9_undo 209 = .ok (.iload_n 1, 1) := by decide +kernel
theorem dX9_undo_210 : decode cX9_undo 210 = .ok (.ireturn, 1) := by decide +kernel
theorem dX9_shadow_0 : decode cX9_shadow 0 = .ok (.aload_n 0, 1) := by decide +kernel
theorem dX9_shadow_1 : decode cX9_shadow 1 = .ok (.iconst 0, 1) := by decide +kernel
theorem dX9_shadow_2 : decode cX9_shadow 2 = .ok (.putfield 1, 3) := by decide +kernel
theorem dX9_shadow_5 : decode cX9_shadow 5 = .ok (.aload_n 0, 1) := by decide +kernel
theorem dX9_shadow_6 : decode cX9_shadow 6 = .ok (.iload_n 1, 1) := by decide +kernel
theorem dX9_shadow_7 : decode cX9_shadow 7 = .ok (.invokevirtual 253, 3) := by decide +kernel
theorem dX9_shadow_10 : decode cX9_shadow 10 = .ok (.ifCond .ne 10, 3) := by decide +kernel
theorem dX9_shadow_13 : decode cX9_shadow 13 = .ok (.aload_n 0, 1) := by decide +kernel
theorem dX9_shadow_14 : decode cX9_shadow 14 = .ok (.iconst 1, 1) := by decide +kernel
theorem dX9_shadow_15 : decode cX9_shadow 15 = .ok (.invokevirtual 106, 3) := by decide +kernel
theorem dX9_shadow_18 : decode cX9_shadow 18 = .ok (.i2l, 1) := by decide +kernel
theorem dX9_shadow_19 : decode cX9_shadow 19 = .ok (.lreturn, 1) := by decide +kernel
theorem dX9_shadow_20 : decode cX9_shadow 20 = .ok (.iload_n 2, 1) := by decide +kernel
theorem dX9_shadow_21 : decode cX9_shadow 21 = .ok (.ifCond .lt 8, 3) := by decide +kernel
theorem dX9_shadow_24 : decode cX9_shadow 24 = .ok (.iload_n 2, 1) := by decide +kernel
theorem dX9_shadow_25 : decode cX9_shadow 25 = .ok (.iconst 5, 1) := by decide +kernel
theorem dX9_shadow_26 : decode cX9_shadow 26 = .ok (.if_icmp .le 10, 3) := by decide +kernel
theorem dX9_shadow_29 : decode cX9_shadow 29 = .ok (.aload_n 0, 1) := by decide +kernel
theorem dX9_shadow_30 : decode cX9_shadow 30 = .ok (.iconst 2, 1) := by decide +kernel
theorem dX9_shadow_31 : decode cX9_shadow 31 = .ok (.invokevirtual 106, 3) := by decide +kernel
theorem dX9_shadow_34 : decode cX9_shadow 34 = .ok (.i2l, 1) := by decide +kernel
theorem dX9_shadow_35 : decode cX9_shadow 35 = .ok (.lreturn, 1) := by decide +kernel
theorem dX9_shadow_36 : decode cX9_shadow 36 = .ok (.aload_n 0, 1) := by decide +kernel
theorem dX9_shadow_37 : decode cX9_shadow 37 = .ok (.aload_n 0, 1) := by decide +kernel
theorem dX9_shadow_38 : decode cX9_shadow 38 = .ok (.getfield 36, 3) := by decide +kernel
theorem dX9_shadow_41 : decode cX9_shadow 41 = .ok (.bipush 6, 2) := by decide +kernel
theorem dX9_shadow_43 : decode cX9_shadow 43 = .ok (.iload_n 1, 1) := by decide +kernel
theorem dX9_shadow_44 : decode cX9_shadow 44 = .ok (.imul, 1) := by decide +kernel
theorem dX9_shadow_45 : decode cX9_shadow 45 = .ok (.iload_n 2, 1) := by decide +kernel
theorem dX9_shadow_46 : decode cX9_shadow 46 = .ok (.iadd, 1) := by decide +kernel
theorem dX9_shadow_47 : decode cX9_shadow 47 = .ok (.invokevirtual 162, 3) := by decide +kernel
theorem dX9_shadow_50 : decode cX9_shadow 50 = .ok (.ifCond .eq 17, 3) := by decide +kernel
theorem dX9_shadow_53 : decode cX9_shadow 53 = .ok (.aload_n 0, 1) := by decide +kernel
theorem dX9_shadow_54 : decode cX9_shadow 54 = .ok (.getfield 42, 3) := by decide +kernel
theorem dX9_shadow_57 : decode cX9_shadow 57 = .ok (.bipush 6, 2) := by decide +kernel
theorem dX9_shadow_59 : decode cX9_shadow 59 = .ok (.iload_n 1, 1) := by decide +kernel
theorem dX9_shadow_60 : decode cX9_shadow 60 = .ok (.imul, 1) := by decide +kernel
theorem dX9_shadow_61 : decode cX9_shadow 61 = .ok (.iload_n 2, 1) := by decide +kernel
theorem dX9_shadow_62 : decode cX9_shadow 62 = .ok (.iadd, 1) := by decide +kernel
theorem dX9_shadow_63 : decode cX9_shadow 63 = .ok (.laload, 1) := by decide +kernel
theorem dX9_shadow_64 : decode cX9_shadow 64 = .ok (.goto 4, 3) := by decide +kernel
theorem dX9_shadow_67 : decode cX9_shadow 67 = .ok (.lconst 0, 1) := by decide +kernel
theorem dX9_shadow_68 : decode cX9_shadow 68 = .ok (.lreturn, 1) := by decide +kernel
theorem dX9_listShadow_0 : decode cX9_listShadow 0 = .ok (.aload_n 0, 1) := by decide +kernel
theorem dX9_listShadow_1 : decode cX9_listShadow 1 = .ok (.iconst 0, 1) := by decide +kernel
theorem dX9_listShadow_2 : decode cX9_listShadow 2 = .ok (.putfield 1, 3) := by decide +kernel
theorem dX9_listShadow_5 : decode cX9_listShadow 5 = .ok (.aload_n 0, 1) := by decide +kernel
theorem dX9_listShadow_6 : decode cX9_listShadow 6 = .ok (.iload_n 1, 1) := by decide +kernel
theorem dX9_listShadow_7 : decode cX9_listShadow 7 = .ok (.invokevirtual 257, 3) := by decide +kernel
theorem dX9_listShadow_10 : decode cX9_listShadow 10 = .ok (.ifCond .ne 10, 3) := by decide +kernel
theorem dX9_listShadow_13 : decode cX9_listShadow 13 = .ok (.aload_n 0, 1) := by decide +kernel
theorem dX9_listShadow_14 : decode cX9_listShadow 14 = .ok (.iconst 1, 1) := by decide +kernel
theorem dX9_listShadow_15 : decode cX9_listShadow 15 = .ok (.invokevirtual 106, 3) := by decide +kernel
theorem dX9_listShadow_18 : decode cX9_listShadow 18 = .ok (.i2l, 1) := by decide +kernel
theorem dX9_listShadow_19 : decode cX9_listShadow 19 = .ok (.lreturn, 1) := by decide +kernel
theorem dX9_listShadow_20 : decode cX9_listShadow 20 = .ok (.iload_n 2, 1) := by decide +kernel
theorem dX9_listShadow_21 : decode cX9_listShadow 21 = .ok (.bipush 6, 2) := by decide +kernel
theorem dX9_listShadow_23 : decode cX9_listShadow 23 = .ok (.if_icmp .lt 9, 3) := by decide +kernel
theorem dX9_listShadow_26 : decode cX9_listShadow 26 = .ok (.iload_n 2, 1) := by decide +kernel
theorem dX9_listShadow_27 : decode cX9_listShadow 27 = .ok (.bipush 8, 2) := by decide +kernel
theorem dX9_listShadow_29 : decode cX9_listShadow 29 = .ok (.if_icmp .le 10, 3) := by decide +kernel
theorem dX9_listShadow_32 : decode cX9_listShadow 32 = .ok (.aload_n 0, 1) := by decide +kernel
theorem dX9_listShadow_33 : decode cX9_listShadow 33 = .ok (.iconst 2, 1) := by decide +kernel
theorem dX9_listShadow_34 : decode cX9_listShadow 34 = .ok (.invokevirtual 106, 3) := by decide +kernel
theorem dX9_listShadow_37 : decode cX9_listShadow 37 = .ok (.i2l, 1) := by decide +kernel
theorem dX9_listShadow_38 : decode cX9_listShadow 38 = .ok (.lreturn, 1) := by decide +kernel
theorem dX9_listShadow_39 : decode cX9_listShadow 39 = .ok (.sipush 240, 3) := by decide +kernel
theorem dX9_listShadow_42 : decode cX9_listShadow 42 = .ok (.iconst 3, 1) := by decide +kernel
theorem dX9_listShadow_43 : decode cX9_listShadow 43 = .ok (.iload_n 1, 1) := by decide +kernel
theorem dX9_listShadow_44 : decode cX9_listShadow 44 = .ok (.imul, 1) := by decide +kernel
theorem dX9_listShadow_45 : decode cX9_listShadow 45 = .ok (.iadd, 1) := by decide +kernel
theorem dX9_listShadow_46 : decode cX9_listShadow 46 = .ok (.iload_n 2, 1) := by decide +kernel
theorem dX9_listShadow_47 : decode cX9_listShadow 47 = .ok (.iadd, 1) := by decide +kernel
theorem dX9_listShadow_48 : decode cX9_listShadow 48 = .ok (.bipush 6, 2) := by decide +kernel
theorem dX9_listShadow_50 : decode cX9_listShadow 50 = .ok (.isub, 1) := by decide +kernel
theorem dX9_listShadow_51 : decode cX9_listShadow 51 = .ok (.istore_n 3, 1) := by decide +kernel
theorem dX9_listShadow_52 : decode cX9_listShadow 52 = .ok (.aload_n 0, 1) := by decide +kernel
theorem dX9_listShadow_53 : decode cX9_listShadow 53 = .ok (.getfield 13, 3) := by decide +kernel
theorem dX9_listShadow_56 : decode cX9_listShadow 56 = .ok (.ifCond .ne 24, 3) := by decide +kernel
theorem dX9_listShadow_59 : decode cX9_listShadow 59 = .ok (.aload_n 0, 1) := by decide +kernel
theorem dX9_listShadow_60 : decode cX9_listShadow 60 = .ok (.aload_n 0, 1) := by decide +kernel
theorem dX9_listShadow_61 : decode cX9_listShadow 61 = .ok (.getfield 36, 3) := by decide +kernel
theorem dX9_listShadow_64 : decode cX9_listShadow 64 = .ok (.iload_n 3, 1) := by decide +kernel
theorem dX9_listShadow_65 : decode cX9_listShadow 65 = .ok (.invokevirtual 162, 3) := by decide +kernel
theorem dX9_listShadow_68 : decode cX9_listShadow 68 = .ok (.ifCond .eq 12, 3) := by decide +kernel
theorem dX9_listShadow_71 : decode cX9_listShadow 71 = .ok (.aload_n 0, 1) := by decide +kernel
theorem dX9_listShadow_72 : decode cX9_listShadow 72 = .ok (.getfield 42, 3) := by decide +kernel
theorem dX9_listShadow_75 : decode cX9_listShadow 75 = .ok (.iload_n 3, 1) := by decide +kernel
theorem dX9_listShadow_76 : decode cX9_listShadow 76 = .ok (.laload, 1) := by decide +kernel
theorem dX9_listShadow_77 : decode cX9_listShadow 77 = .ok (.goto 4, 3) := by decide +kernel
theorem dX9_listShadow_80 : decode cX9_listShadow 80 = .ok (.lconst 0, 1) := by decide +kernel
theorem dX9_listShadow_81 : decode cX9_listShadow 81 = .ok (.lreturn, 1) := by decide +kernel
theorem dX9_where_0 : decode cX9_where 0 = .ok (.aload_n 0, 1) := by decide +kernel
theorem dX9_where_1 : decode cX9_where 1 = .ok (.iconst 0, 1) := by decide +kernel
theorem dX9_where_2 : decode cX9_where 2 = .ok (.putfield 1, 3) := by decide +kernel
theorem dX9_where_5 : decode cX9_where 5 = .ok (.aload_n 0, 1) := by decide +kernel
theorem dX9_where_6 : decode cX9_where 6 = .ok (.iload_n 1, 1) := by decide +kernel
theorem dX9_where_7 : decode cX9_where 7 = .ok (.invokevirtual 253, 3) := by decide +kernel
theorem dX9_where_10 : decode cX9_where 10 = .ok (.ifCond .ne 9, 3) := by decide +kernel
theorem dX9_where_13 : decode cX9_where 13 = .ok (.aload_n 0, 1) := by decide +kernel
theorem dX9_where_14 : decode cX9_where 14 = .ok (.iconst 1, 1) := by decide +kernel
theorem dX9_where_15 : decode cX9_where 15 = .ok (.invokevirtual 106, 3) := by decide +kernel
theorem dX9_where_18 : decode cX9_where 18 = .ok (.ireturn, 1) := by decide +kernel
theorem dX9_where_19 : decode cX9_where 19 = .ok (.iload_n 2, 1) := by decide +kernel
theorem dX9_where_20 : decode cX9_where 20 = .ok (.ifCond .lt 9, 3) := by decide +kernel
theorem dX9_where_23 : decode cX9_where 23 = .ok (.iload_n 2, 1) := by decide +kernel
theorem dX9_where_24 : decode cX9_where 24 = .ok (.bipush 9, 2) := by decide +kernel
theorem dX9_where_26 : decode cX9_where 26 = .ok (.if_icmp .le 9, 3) := by decide +kernel
theorem dX9_where_29 : decode cX9_where 29 = .ok (.aload_n 0, 1) := by decide +kernel
theorem dX9_where_30 : decode cX9_where 30 = .ok (.iconst 2, 1) := by decide +kernel
theorem dX9_where_31 : decode cX9_where 31 = .ok (.invokevirtual 106, 3) := by decide +kernel
theorem dX9_where_34 : decode cX9_where 34 = .ok (.ireturn, 1) := by decide +kernel
theorem dX9_where_35 : decode cX9_where 35 = .ok (.aload_n 0, 1) := by decide +kernel
theorem dX9_where_36 : decode cX9_where 36 = .ok (.getfield 33, 3) := by decide +kernel
theorem dX9_where_39 : decode cX9_where 39 = .ok (.sipush 212, 3) := by decide +kernel
theorem dX9_where_42 : decode cX9_where 42 = .ok (.iload_n 1, 1) := by decide +kernel
theorem dX9_where_43 : decode cX9_where 43 = .ok (.iadd, 1) := by decide +kernel
theorem dX9_where_44 : decode cX9_where 44 = .ok (.iaload, 1) := by decide +kernel
theorem dX9_where_45 : decode cX9_where 45 = .ok (.iconst (-1), 1) := by decide +kernel
theorem dX9_where_46 : decode cX9_where 46 = .ok (.if_icmp .eq 7, 3) := by decide +kernel
theorem dX9_where_49 : decode cX9_where 49 = .ok (.iconst 1, 1) := by decide +kernel
theorem dX9_where_50 : decode cX9_where 50 = .ok (.goto 4, 3) := by decide +kernel
theorem dX9_where_53 : decode cX9_where 53 = .ok (.iconst 0, 1) := by decide +kernel
theorem dX9_where_54 : decode cX9_where 54 = .ok (.istore_n 3, 1) := by decide +kernel
theorem dX9_where_55 : decode cX9_where 55 = .ok (.iload_n 2, 1) := by decide +kernel
theorem dX9_where_56 : decode cX9_where 56 = .ok (.tableswitch 132 0 5 #[40, 51, 68, 86, 104, 115], 40) := by decide +kernel
theorem dX9_where_96 : decode cX9_where 96 = .ok (.aload_n 0, 1) := by decide +kernel
theorem dX9_where_97 : decode cX9_where 97 = .ok (.getfield 33, 3) := by decide +kernel
theorem dX9_where_100 : decode cX9_where 100 = .ok (.sipush 212, 3) := by decide +kernel
theorem dX9_where_103 : decode cX9_where 103 = .ok (.iload_n 1, 1) := by decide +kernel
theorem dX9_where_104 : decode cX9_where 104 = .ok (.iadd, 1) := by decide +kernel
theorem dX9_where_105 : decode cX9_where 105 = .ok (.iaload, 1) := by decide +kernel
theorem dX9_where_106 : decode cX9_where 106 = .ok (.ireturn, 1) := by decide +kernel
theorem dX9_where_107 : decode cX9_where 107 = .ok (.iload_n 3, 1) := by decide +kernel
theorem dX9_where_108 : decode cX9_where 108 = .ok (.ifCond .eq 14, 3) := by decide +kernel
theorem dX9_where_111 : decode cX9_where 111 = .ok (.aload_n 0, 1) := by decide +kernel
theorem dX9_where_112 : decode cX9_where 112 = .ok (.getfield 33, 3) := by decide +kernel
theorem dX9_where_115 : decode cX9_where 115 = .ok (.iload_n 1, 1) := by decide +kernel
theorem dX9_where_116 : decode cX9_where 116 = .ok (.invokestatic 133, 3) := by decide +kernel
theorem dX9_where_119 : decode cX9_where 119 = .ok (.goto 4, 3) := by decide +kernel
theorem dX9_where_122 : decode cX9_where 122 = .ok (.iconst (-1), 1) := by decide +kernel
theorem dX9_where_123 : decode cX9_where 123 = .ok (.ireturn, 1) := by decide +kernel
theorem dX9_where_124 : decode cX9_where 124 = .ok (.iload_n 3, 1) := by decide +kernel
theorem dX9_where_125 : decode cX9_where 125 = .ok (.ifCond .eq 15, 3) := by decide +kernel
theorem dX9_where_128 : decode cX9_where 128 = .ok (.aload_n 0, 1) := by decide +kernel
theorem dX9_where_129 : decode cX9_where 129 = .ok (.getfield 33, 3) := by decide +kernel
theorem dX9_where_132 : decode cX9_where 132 = .ok (.iload_n 1, 1) := by decide +kernel
theorem dX9_where_133 : decode cX9_where 133 = .ok (.iconst (-1), 1) := by decide +kernel
theorem dX9_where_134 : decode cX9_where 134 = .ok (.invokestatic 151, 3) := by decide +kernel
theorem dX9_where_137 : decode cX9_where 137 = .ok (.goto 4, 3) := by decide +kernel
theorem dX9_where_140 : decode cX9_where 140 = .ok (.iconst (-1), 1) := by decide +kernel
theorem dX9_where_141 : decode cX9_where 141 = .ok (.ireturn, 1) := by decide +kernel
theorem dX9_where_142 : decode cX9_where 142 = .ok (.iload_n 3, 1) := by decide +kernel
theorem dX9_where_143 : decode cX9_where 143 = .ok (.ifCond .eq 15, 3) := by decide +kernel
theorem dX9_where_146 : decode cX9_where 146 = .ok (.aload_n 0, 1) := by decide +kernel
theorem dX9_where_147 : decode cX9_where 147 = .ok (.getfield 33, 3) := by decide +kernel
theorem dX9_where_150 : decode cX9_where 150 = .ok (.iload_n 1, 1) := by decide +kernel
theorem dX9_where_151 : decode cX9_where 151 = .ok (.iconst 1, 1) := by decide +kernel
theorem dX9_where_152 : decode cX9_where 152 = .ok (.invokestatic 151, 3) := by decide +kernel
theorem dX9_where_155 : decode cX9_where 155 = .ok (.goto 4, 3) := by decide +kernel
theorem dX9_where_158 : decode cX9_where 158 = .ok (.iconst (-1), 1) := by decide +kernel
theorem dX9_where_159 : decode cX9_where 159 = .ok (.ireturn, 1) := by decide +kernel
theorem dX9_where_160 : decode cX9_where 160 = .ok (.aload_n 0, 1) := by decide +kernel
theorem dX9_where_161 : decode cX9_where 161 = .ok (.getfield 33, 3) := by decide +kernel
theorem dX9_where_164 : decode cX9_where 164 = .ok (.sipush 172, 3) := by decide +kernel
theorem dX9_where_167 : decode cX9_where 167 = .ok (.iload_n 1, 1) := by decide +kernel
theorem dX9_where_168 : decode cX9_where 168 = .ok (.iadd, 1) := by decide +kernel
theorem dX9_where_169 : decode cX9_where 169 = .ok (.iaload, 1) := by decide +kernel
theorem dX9_where_170 : decode cX9_where 170 = .ok (.ireturn, 1) := by decide +kernel
theorem dX9_where_171 : decode cX9_where 171 = .ok (.aload_n 0, 1) := by decide +kernel
theorem dX9_where_172 : decode cX9_where 172 = .ok (.getfield 33, 3) := by decide +kernel
theorem dX9_where_175 : decode cX9_where 175 = .ok (.iload_n 1, 1) := by decide +kernel
theorem dX9_where_176 : decode cX9_where 176 = .ok (.invokestatic 137, 3) := by decide +kernel
theorem dX9_where_179 : decode cX9_where 179 = .ok (.ifCond .eq 7, 3) := by decide +kernel
theorem dX9_where_182 : decode cX9_where 182 = .ok (.iconst 1, 1) := by decide +kernel
theorem dX9_where_183 : decode cX9_where 183 = .ok (.goto 4, 3) := by decide +kernel
theorem dX9_where_186 : decode cX9_where 186 = .ok (.iconst 0, 1) := by decide +kernel
theorem dX9_where_187 : decode cX9_where 187 = .ok (.ireturn, 1) := by decide +kernel
theorem dX9_where_188 : decode cX9_where 188 = .ok (.aload_n 0, 1) := by decide +kernel
theorem dX9_where_189 : decode cX9_where 189 = .ok (.getfield 33, 3) := by decide +kernel
theorem dX9_where_192 : decode cX9_where 192 = .ok (.iconst 0, 1) := by decide +kernel
theorem dX9_where_193 : decode cX9_where 193 = .ok (.iconst 4, 1) := by decide +kernel
theorem dX9_where_194 : decode cX9_where 194 = .ok (.iload_n 1, 1) := by decide +kernel
theorem dX9_where_195 : decode cX9_where 195 = .ok (.imul, 1) := by decide +kernel
theorem dX9_where_196 : decode cX9_where 196 = .ok (.iadd, 1) := by decide +kernel
theorem dX9_where_197 : decode cX9_where 197 = .ok (.iload_n 2, 1) := by decide +kernel
theorem dX9_where_198 : decode cX9_where 198 = .ok (.iadd, 1) := by decide +kernel
theorem dX9_where_199 : decode cX9_where 199 = .ok (.bipush 6, 2) := by decide +kernel
theorem dX9_where_201 : decode cX9_where 201 = .ok (.isub, 1) := by decide +kernel
theorem dX9_where_202 : decode cX9_where 202 = .ok (.iaload, 1) := by decide +kernel
theorem dX9_where_203 : decode cX9_where 203 = .ok (.ireturn, 1) := by decide +kernel
theorem dX9_at_0 : decode cX9_at 0 = .ok (.aload_n 0, 1) := by decide +kernel
theorem dX9_at_1 : decode cX9_at 1 = .ok (.iconst 0, 1) := by decide +kernel
theorem dX9_at_2 : decode cX9_at 2 = .ok (.putfield 1, 3) := by decide +kernel
theorem dX9_at_5 : decode cX9_at 5 = .ok (.aload_n 0, 1) := by decide +kernel
theorem dX9_at_6 : decode cX9_at 6 = .ok (.iload_n 1, 1) := by decide +kernel
theorem dX9_at_7 : decode cX9_at 7 = .ok (.invokevirtual 257, 3) := by decide +kernel
theorem dX9_at_10 : decode cX9_at 10 = .ok (.ifCond .ne 9, 3) := by decide +kernel
theorem dX9_at_13 : decode cX9_at 13 = .ok (.aload_n 0, 1) := by decide +kernel
theorem dX9_at_14 : decode cX9_at 14 = .ok (.iconst 1, 1) := by decide +kernel
theorem dX9_at_15 : decode cX9_at 15 = .ok (.invokevirtual 106, 3) := by decide +kernel
theorem dX9_at_18 : decode cX9_at 18 = .ok (.ireturn, 1) := by decide +kernel
theorem dX9_at_19 : decode cX9_at 19 = .ok (.iload_n 2, 1) := by decide +kernel
theorem dX9_at_20 : decode cX9_at 20 = .ok (.ifCond .lt 35, 3) := by decide +kernel
theorem dX9_at_23 : decode cX9_at 23 = .ok (.iload_n 2, 1) := by decide +kernel
theorem dX9_at_24 : decode cX9_at 24 = .ok (.aload_n 0, 1) := by decide +kernel
theorem dX9_at_25 : decode cX9_at 25 = .ok (.getfield 33, 3) := by decide +kernel
theorem dX9_at_28 : decode cX9_at 28 = .ok (.sipush 492, 3) := by decide +kernel
theorem dX9_at_31 : decode cX9_at 31 = .ok (.iload_n 1, 1) := by decide +kernel
theorem dX9_at_32 : decode cX9_at 32 = .ok (.iadd, 1) := by decide +kernel
theorem dX9_at_33 : decode cX9_at 33 = .ok (.iaload, 1) := by decide +kernel
theorem dX9_at_34 : decode cX9_at 34 = .ok (.if_icmp .ge 21, 3) := by decide +kernel
theorem dX9_at_37 : decode cX9_at 37 = .ok (.aload_n 0, 1) := by decide +kernel
theorem dX9_at_38 : decode cX9_at 38 = .ok (.getfield 33, 3) := by decide +kernel
theorem dX9_at_41 : decode cX9_at 41 = .ok (.sipush 252, 3) := by decide +kernel
theorem dX9_at_44 : decode cX9_at 44 = .ok (.iload_n 1, 1) := by decide +kernel
theorem dX9_at_45 : decode cX9_at 45 = .ok (.bipush 40, 2) := by decide +kernel
theorem dX9_at_47 : decode cX9_at 47 = .ok (.imul, 1) := by decide +kernel
theorem dX9_at_48 : decode cX9_at 48 = .ok (.iadd, 1) := by decide +kernel
theorem dX9_at_49 : decode cX9_at 49 = .ok (.iload_n 2, 1) := by decide +kernel
theorem dX9_at_50 : decode cX9_at 50 = .ok (.iadd, 1) := by decide +kernel
theorem dX9_at_51 : decode cX9_at 51 = .ok (.iaload, 1) := by decide +kernel
theorem dX9_at_52 : decode cX9_at 52 = .ok (.goto 4, 3) := by decide +kernel
theorem dX9_at_55 : decode cX9_at 55 = .ok (.iconst (-1), 1) := by decide +kernel
theorem dX9_at_56 : decode cX9_at 56 = .ok (.ireturn, 1) := by decide +kernel
theorem dX9_worked_0 : decode cX9_worked 0 = .ok (.aload_n 0, 1) := by decide +kernel
theorem dX9_worked_1 : decode cX9_worked 1 = .ok (.iconst 0, 1) := by decide +kernel
theorem dX9_worked_2 : decode cX9_worked 2 = .ok (.putfield 1, 3) := by decide +kernel
theorem dX9_worked_5 : decode cX9_worked 5 = .ok (.iload_n 1, 1) := by decide +kernel
theorem dX9_worked_6 : decode cX9_worked 6 = .ok (.ifCond .lt 20, 3) := by decide +kernel
theorem dX9_worked_9 : decode cX9_worked 9 = .ok (.iload_n 1, 1) := by decide +kernel
theorem dX9_worked_10 : decode cX9_worked 10 = .ok (.aload_n 0, 1) := by decide +kernel
theorem dX9_worked_11 : decode cX9_worked 11 = .ok (.getfield 235, 3) := by decide +kernel
theorem dX9_worked_14 : decode cX9_worked 14 = .ok (.if_icmp .ge 12, 3) := by decide +kernel
theorem dX9_worked_17 : decode cX9_worked 17 = .ok (.aload_n 0, 1) := by decide +kernel
theorem dX9_worked_18 : decode cX9_worked 18 = .ok (.getfield 55, 3) := by decide +kernel
theorem dX9_worked_21 : decode cX9_worked 21 = .ok (.iload_n 1, 1) := by decide +kernel
theorem dX9_worked_22 : decode cX9_worked 22 = .ok (.iaload, 1) := by decide +kernel
theorem dX9_worked_23 : decode cX9_worked 23 = .ok (.goto 4, 3) := by decide +kernel
theorem dX9_worked_26 : decode cX9_worked 26 = .ok (.iconst (-1), 1) := by decide +kernel
theorem dX9_worked_27 : decode cX9_worked 27 = .ok (.ireturn, 1) := by decide +kernel
theorem dX9_order_0 : decode cX9_order 0 = .ok (.aload_n 0, 1) := by decide +kernel
theorem dX9_order_1 : decode cX9_order 1 = .ok (.iconst 0, 1) := by decide +kernel
theorem dX9_order_2 : decode cX9_order 2 = .ok (.putfield 1, 3) := by decide +kernel
theorem dX9_order_5 : decode cX9_order 5 = .ok (.aload_n 0, 1) := by decide +kernel
theorem dX9_order_6 : decode cX9_order 6 = .ok (.getfield 13, 3) := by decide +kernel
theorem dX9_order_9 : decode cX9_order 9 = .ok (.ifCond .ne 7, 3) := by decide +kernel
theorem dX9_order_12 : decode cX9_order 12 = .ok (.iload_n 1, 1) := by decide +kernel
theorem dX9_order_13 : decode cX9_order 13 = .ok (.ifCond .ge 5, 3) := by decide +kernel
theorem dX9_order_16 : decode cX9_order 16 = .ok (.iconst (-1), 1) := by decide +kernel
theorem dX9_order_17 : decode cX9_order 17 = .ok (.ireturn, 1) := by decide +kernel
theorem dX9_order_18 : decode cX9_order 18 = .ok (.aload_n 0, 1) := by decide +kernel
theorem dX9_order_19 : decode cX9_order 19 = .ok (.aload_n 0, 1) := by decide +kernel
theorem dX9_order_20 : decode cX9_order 20 = .ok (.getfield 36, 3) := by decide +kernel
theorem dX9_order_23 : decode cX9_order 23 = .ok (.invokevirtual 209, 3) := by decide +kernel
theorem dX9_order_26 : decode cX9_order 26 = .ok (.istore_n 2, 1) := by decide +kernel
theorem dX9_order_27 : decode cX9_order 27 = .ok (.iload_n 2, 1) := by decide +kernel
theorem dX9_order_28 : decode cX9_order 28 = .ok (.ifCond .eq 20, 3) := by decide +kernel
theorem dX9_order_31 : decode cX9_order 31 = .ok (.iload_n 1, 1) := by decide +kernel
theorem dX9_order_32 : decode cX9_order 32 = .ok (.aload_n 0, 1) := by decide +kernel
theorem dX9_order_33 : decode cX9_order 33 = .ok (.getfield 172, 3) := by decide +kernel
theorem dX9_order_36 : decode cX9_order 36 = .ok (.if_icmp .ge 12, 3) := by decide +kernel
theorem dX9_order_39 : decode cX9_order 39 = .ok (.aload_n 0, 1) := by decide +kernel
theorem dX9_order_40 : decode cX9_order 40 = .ok (.getfield 79, 3) := by decide +kernel
theorem dX9_order_43 : decode cX9_order 43 = .ok (.iload_n 1, 1) := by decide +kernel
theorem dX9_order_44 : decode cX9_order 44 = .ok (.iaload, 1) := by decide +kernel
theorem dX9_order_45 : decode cX9_order 45 = .ok (.goto 4, 3) := by decide +kernel
theorem dX9_order_48 : decode cX9_order 48 = .ok (.iconst (-1), 1) := by decide +kernel
theorem dX9_order_49 : decode cX9_order 49 = .ok (.ireturn, 1) := by decide +kernel
theorem dX9_ring_0 : decode cX9_ring 0 = .ok (.aload_n 0, 1) := by decide +kernel
theorem dX9_ring_1 : decode cX9_ring 1 = .ok (.iconst 0, 1) := by decide +kernel
theorem dX9_ring_2 : decode cX9_ring 2 = .ok (.putfield 1, 3) := by decide +kernel
theorem dX9_ring_5 : decode cX9_ring 5 = .ok (.iload_n 1, 1) := by decide +kernel
theorem dX9_ring_6 : decode cX9_ring 6 = .ok (.ifCond .lt 20, 3) := by decide +kernel
theorem dX9_ring_9 : decode cX9_ring 9 = .ok (.iload_n 1, 1) := by decide +kernel
theorem dX9_ring_10 : decode cX9_ring 10 = .ok (.aload_n 0, 1) := by decide +kernel
theorem dX9_ring_11 : decode cX9_ring 11 = .ok (.getfield 181, 3) := by decide +kernel
theorem dX9_ring_14 : decode cX9_ring 14 = .ok (.if_icmp .ge 12, 3) := by decide +kernel
theorem dX9_ring_17 : decode cX9_ring 17 = .ok (.aload_n 0, 1) := by decide +kernel
theorem dX9_ring_18 : decode cX9_ring 18 = .ok (.getfield 61, 3) := by decide +kernel
theorem dX9_ring_21 : decode cX9_ring 21 = .ok (.iload_n 1, 1) := by decide +kernel
theorem dX9_ring_22 : decode cX9_ring 22 = .ok (.iaload, 1) := by decide +kernel
theorem dX9_ring_23 : decode cX9_ring 23 = .ok (.goto 4, 3) := by decide +kernel
theorem dX9_ring_26 : decode cX9_ring 26 = .ok (.iconst (-1), 1) := by decide +kernel
theorem dX9_ring_27 : decode cX9_ring 27 = .ok (.ireturn, 1) := by decide +kernel
theorem dX9_cause_0 : decode cX9_cause 0 = .ok (.aload_n 0, 1) := by decide +kernel
theorem dX9_cause_1 : decode cX9_cause 1 = .ok (.iconst 0, 1) := by decide +kernel
theorem dX9_cause_2 : decode cX9_cause 2 = .ok (.putfield 1, 3) := by decide +kernel
theorem dX9_cause_5 : decode cX9_cause 5 = .ok (.iload_n 1, 1) := by decide +kernel
theorem dX9_cause_6 : decode cX9_cause 6 = .ok (.ifCond .lt 8, 3) := by decide +kernel
theorem dX9_cause_9 : decode cX9_cause 9 = .ok (.iload_n 1, 1) := by decide +kernel
theorem dX9_cause_10 : decode cX9_cause 10 = .ok (.iconst 3, 1) := by decide +kernel
theorem dX9_cause_11 : decode cX9_cause 11 = .ok (.if_icmp .le 9, 3) := by decide +kernel
theorem dX9_cause_14 : decode cX9_cause 14 = .ok (.aload_n 0, 1) := by decide +kernel
theorem dX9_cause_15 : decode cX9_cause 15 = .ok (.iconst 1, 1) := by decide +kernel
theorem dX9_cause_16 : decode cX9_cause 16 = .ok (.invokevirtual 106, 3) := by decide +kernel
theorem dX9_cause_19 : decode cX9_cause 19 = .ok (.ireturn, 1) := by decide +kernel
theorem dX9_cause_20 : decode cX9_cause 20 = .ok (.iload_n 1, 1) := by decide +kernel
theorem dX9_cause_21 : decode cX9_cause 21 = .ok (.ifCond .ne 10, 3) := by decide +kernel
theorem dX9_cause_24 : decode cX9_cause 24 = .ok (.aload_n 0, 1) := by decide +kernel
theorem dX9_cause_25 : decode cX9_cause 25 = .ok (.getfield 203, 3) := by decide +kernel
theorem dX9_cause_28 : decode cX9_cause 28 = .ok (.goto 31, 3) := by decide +kernel
theorem dX9_cause_31 : decode cX9_cause 31 = .ok (.iload_n 1, 1) := by decide +kernel
theorem dX9_cause_32 : decode cX9_cause 32 = .ok (.iconst 1, 1) := by decide +kernel
theorem dX9_cause_33 : decode cX9_cause 33 = .ok (.if_icmp .ne 10, 3) := by decide +kernel
theorem dX9_cause_36 : decode cX9_cause 36 = .ok (.aload_n 0, 1) := by decide +kernel
theorem dX9_cause_37 : decode cX9_cause 37 = .ok (.getfield 64, 3) := by decide +kernel
theorem dX9_cause_40 : decode cX9_cause 40 = .ok (.goto 19, 3) := by decide +kernel
theorem dX9_cause_43 : decode cX9_cause 43 = .ok (.iload_n 1, 1) := by decide +kernel
theorem dX9_cause_44 : decode cX9_cause 44 = .ok (.iconst 2, 1) := by decide +kernel
theorem dX9_cause_45 : decode cX9_cause 45 = .ok (.if_icmp .ne 10, 3) := by decide +kernel
theorem dX9_cause_48 : decode cX9_cause 48 = .ok (.aload_n 0, 1) := by decide +kernel
theorem dX9_cause_49 : decode cX9_cause 49 = .ok (.getfield 67, 3) := by decide +kernel
theorem dX9_cause_52 : decode cX9_cause 52 = .ok (.goto 7, 3) := by decide +kernel
theorem dX9_cause_55 : decode cX9_cause 55 = .ok (.aload_n 0, 1) := by decide +kernel
theorem dX9_cause_56 : decode cX9_cause 56 = .ok (.getfield 70, 3) := by decide +kernel
theorem dX9_cause_59 : decode cX9_cause 59 = .ok (.ireturn, 1) := by decide +kernel
theorem dX9_count_0 : decode cX9_count 0 = .ok (.aload_n 0, 1) := by decide +kernel
theorem dX9_count_1 : decode cX9_count 1 = .ok (.iconst 0, 1) := by decide +kernel
theorem dX9_count_2 : decode cX9_count 2 = .ok (.putfield 1, 3) := by decide +kernel
theorem dX9_count_5 : decode cX9_count 5 = .ok (.iload_n 1, 1) := by decide +kernel
theorem dX9_count_6 : decode cX9_count 6 = .ok (.ifCond .lt 9, 3) := by decide +kernel
theorem dX9_count_9 : decode cX9_count 9 = .ok (.iload_n 1, 1) := by decide +kernel
theorem dX9_count_10 : decode cX9_count 10 = .ok (.bipush 6, 2) := by decide +kernel
theorem dX9_count_12 : decode cX9_count 12 = .ok (.if_icmp .le 9, 3) := by decide +kernel
theorem dX9_count_15 : decode cX9_count 15 = .ok (.aload_n 0, 1) := by decide +kernel
theorem dX9_count_16 : decode cX9_count 16 = .ok (.iconst 1, 1) := by decide +kernel
theorem dX9_count_17 : decode cX9_count 17 = .ok (.invokevirtual 106, 3) := by decide +kernel
theorem dX9_count_20 : decode cX9_count 20 = .ok (.ireturn, 1) := by decide +kernel
theorem dX9_count_21 : decode cX9_count 21 = .ok (.iconst 0, 1) := by decide +kernel
theorem dX9_count_22 : decode cX9_count 22 = .ok (.istore_n 2, 1) := by decide +kernel
theorem dX9_count_23 : decode cX9_count 23 = .ok (.iconst 0, 1) := by decide +kernel
theorem dX9_count_24 : decode cX9_count 24 = .ok (.istore_n 3, 1) := by decide +kernel
theorem dX9_count_25 : decode cX9_count 25 = .ok (.iload_n 3, 1) := by decide +kernel
theorem dX9_count_26 : decode cX9_count 26 = .ok (.sipush 258, 3) := by decide +kernel
theorem dX9_count_29 : decode cX9_count 29 = .ok (.if_icmp .ge 36, 3) := by decide +kernel
theorem dX9_count_32 : decode cX9_count 32 = .ok (.iload_n 2, 1) := by decide +kernel
theorem dX9_count_33 : decode cX9_count 33 = .ok (.aload_n 0, 1) := by decide +kernel
theorem dX9_count_34 : decode cX9_count 34 = .ok (.getfield 13, 3) := by decide +kernel
theorem dX9_count_37 : decode cX9_count 37 = .ok (.ifCond .ne 19, 3) := by decide +kernel
theorem dX9_count_40 : decode cX9_count 40 = .ok (.aload_n 0, 1) := by decide +kernel
theorem dX9_count_41 : decode cX9_count 41 = .ok (.aload_n 0, 1) := by decide +kernel
theorem dX9_count_42 : decode cX9_count 42 = .ok (.getfield 36, 3) := by decide +kernel
theorem dX9_count_45 : decode cX9_count 45 = .ok (.iload_n 3, 1) := by decide +kernel
theorem dX9_count_46 : decode cX9_count 46 = .ok (.invokevirtual 162, 3) := by decide +kernel
theorem dX9_count_49 : decode cX9_count 49 = .ok (.ifCond .eq 7, 3) := by decide +kernel
theorem dX9_count_52 : decode cX9_count 52 = .ok (.iconst 1, 1) := by decide +kernel
theorem dX9_count_53 : decode cX9_count 53 = .ok (.goto 4, 3) := by decide +kernel
theorem dX9_count_56 : decode cX9_count 56 = .ok (.iconst 0, 1) := by decide +kernel
theorem dX9_count_57 : decode cX9_count 57 = .ok (.iadd, 1) := by decide +kernel
theorem dX9_count_58 : decode cX9_count 58 = .ok (.istore_n 2, 1) := by decide +kernel
theorem dX9_count_59 : decode cX9_count 59 = .ok (.iinc 3 1, 3) := by decide +kernel
theorem dX9_count_62 : decode cX9_count 62 = .ok (.goto (-37), 3) := by decide +kernel
theorem dX9_count_65 : decode cX9_count 65 = .ok (.iload_n 1, 1) := by decide +kernel
theorem dX9_count_66 : decode cX9_count 66 = .ok (.ifCond .ne 10, 3) := by decide +kernel
theorem dX9_count_69 : decode cX9_count 69 = .ok (.aload_n 0, 1) := by decide +kernel
theorem dX9_count_70 : decode cX9_count 70 = .ok (.getfield 100, 3) := by decide +kernel
theorem dX9_count_73 : decode cX9_count 73 = .ok (.goto 75, 3) := by decide +kernel
theorem dX9_count_76 : decode cX9_count 76 = .ok (.iload_n 1, 1) := by decide +kernel
theorem dX9_count_77 : decode cX9_count 77 = .ok (.iconst 1, 1) := by decide +kernel
theorem dX9_count_78 : decode cX9_count 78 = .ok (.if_icmp .ne 10, 3) := by decide +kernel
theorem dX9_count_81 : decode cX9_count 81 = .ok (.aload_n 0, 1) := by decide +kernel
theorem dX9_count_82 : decode cX9_count 82 = .ok (.getfield 103, 3) := by decide +kernel
theorem dX9_count_85 : decode cX9_count 85 = .ok (.goto 63, 3) := by decide +kernel
theorem dX9_count_88 : decode cX9_count 88 = .ok (.iload_n 1, 1) := by decide +kernel
theorem dX9_count_89 : decode cX9_count 89 = .ok (.iconst 2, 1) := by decide +kernel
theorem dX9_count_90 : decode cX9_count 90 = .ok (.if_icmp .ne 7, 3) := by decide +kernel
theorem dX9_count_93 : decode cX9_count 93 = .ok (.iload_n 2, 1) := by decide +kernel
theorem dX9_count_94 : decode cX9_count 94 = .ok (.goto 54, 3) := by decide +kernel
theorem dX9_count_97 : decode cX9_count 97 = .ok (.iload_n 1, 1) := by decide +kernel
theorem dX9_count_98 : decode cX9_count 98 = .ok (.iconst 3, 1) := by decide +kernel
theorem dX9_count_99 : decode cX9_count 99 = .ok (.if_icmp .ne 10, 3) := by decide +kernel
theorem dX9_count_102 : decode cX9_count 102 = .ok (.aload_n 0, 1) := by decide +kernel
theorem dX9_count_103 : decode cX9_count 103 = .ok (.getfield 244, 3) := by decide +kernel
theorem dX9_count_106 : decode cX9_count 106 = .ok (.goto 42, 3) := by decide +kernel
theorem dX9_count_109 : decode cX9_count 109 = .ok (.iload_n 1, 1) := by decide +kernel
theorem dX9_count_110 : decode cX9_count 110 = .ok (.iconst 4, 1) := by decide +kernel
theorem dX9_count_111 : decode cX9_count 111 = .ok (.if_icmp .ne 10, 3) := by decide +kernel
theorem dX9_count_114 : decode cX9_count 114 = .ok (.aload_n 0, 1) := by decide +kernel
theorem dX9_count_115 : decode cX9_count 115 = .ok (.getfield 238, 3) := by decide +kernel
theorem dX9_count_118 : decode cX9_count 118 = .ok (.goto 30, 3) := by decide +kernel
theorem dX9_count_121 : decode cX9_count 121 = .ok (.iload_n 1, 1) := by decide +kernel
theorem dX9_count_122 : decode cX9_count 122 = .ok (.iconst 5, 1) := by decide +kernel
theorem dX9_count_123 : decode cX9_count 123 = .ok (.if_icmp .ne 10, 3) := by decide +kernel
theorem dX9_count_126 : decode cX9_count 126 = .ok (.aload_n 0, 1) := by decide +kernel
theorem dX9_count_127 : decode cX9_count 127 = .ok (.getfield 241, 3) := by decide +kernel
theorem dX9_count_130 : decode cX9_count 130 = .ok (.goto 18, 3) := by decide +kernel
theorem dX9_count_133 : decode cX9_count 133 = .ok (.aload_n 0, 1) := by decide +kernel
theorem dX9_count_134 : decode cX9_count 134 = .ok (.getfield 247, 3) := by decide +kernel
theorem dX9_count_137 : decode cX9_count 137 = .ok (.ifCond .eq 10, 3) := by decide +kernel
theorem dX9_count_140 : decode cX9_count 140 = .ok (.aload_n 0, 1) := by decide +kernel
theorem dX9_count_141 : decode cX9_count 141 = .ok (.getfield 250, 3) := by decide +kernel
theorem dX9_count_144 : decode cX9_count 144 = .ok (.goto 4, 3) := by decide +kernel
theorem dX9_count_147 : decode cX9_count 147 = .ok (.iconst 0, 1) := by decide +kernel
theorem dX9_count_148 : decode cX9_count 148 = .ok (.ireturn, 1) := by decide +kernel
theorem dX9_isSame_0 : decode cX9_isSame 0 = .ok (.aload_n 0, 1) := by decide +kernel
theorem dX9_isSame_1 : decode cX9_isSame 1 = .ok (.iconst 0, 1) := by decide +kernel
theorem dX9_isSame_2 : decode cX9_isSame 2 = .ok (.putfield 1, 3) := by decide +kernel
theorem dX9_isSame_5 : decode cX9_isSame 5 = .ok (.aload_n 0, 1) := by decide +kernel
theorem dX9_isSame_6 : decode cX9_isSame 6 = .ok (.getfield 13, 3) := by decide +kernel
theorem dX9_isSame_9 : decode cX9_isSame 9 = .ok (.ifCond .eq 5, 3) := by decide +kernel
theorem dX9_isSame_12 : decode cX9_isSame 12 = .ok (.iconst 1, 1) := by decide +kernel
theorem dX9_isSame_13 : decode cX9_isSame 13 = .ok (.ireturn, 1) := by decide +kernel
theorem dX9_isSame_14 : decode cX9_isSame 14 = .ok (.aload_n 0, 1) := by decide +kernel
theorem dX9_isSame_15 : decode cX9_isSame 15 = .ok (.aload_n 0, 1) := by decide +kernel
theorem dX9_isSame_16 : decode cX9_isSame 16 = .ok (.getfield 36, 3) := by decide +kernel
theorem dX9_isSame_19 : decode cX9_isSame 19 = .ok (.invokevirtual 209, 3) := by decide +kernel
theorem dX9_isSame_22 : decode cX9_isSame 22 = .ok (.istore_n 1, 1) := by decide +kernel
theorem dX9_isSame_23 : decode cX9_isSame 23 = .ok (.iconst 0, 1) := by decide +kernel
theorem dX9_isSame_24 : decode cX9_isSame 24 = .ok (.istore_n 2, 1) := by decide +kernel
theorem dX9_isSame_25 : decode cX9_isSame 25 = .ok (.iload_n 2, 1) := by decide +kernel
theorem dX9_isSame_26 : decode cX9_isSame 26 = .ok (.sipush 258, 3) := by decide +kernel
theorem dX9_isSame_29 : decode cX9_isSame 29 = .ok (.if_icmp .ge 37, 3) := by decide +kernel
theorem dX9_isSame_32 : decode cX9_isSame 32 = .ok (.aload_n 0, 1) := by decide +kernel
theorem dX9_isSame_33 : decode cX9_isSame 33 = .ok (.getfield 46, 3) := by decide +kernel
theorem dX9_isSame_36 : decode cX9_isSame 36 = .ok (.iload_n 2, 1) := by decide +kernel
theorem dX9_isSame_37 : decode cX9_isSame 37 = .ok (.aload_n 0, 1) := by decide +kernel
theorem dX9_isSame_38 : decode cX9_isSame 38 = .ok (.aload_n 0, 1) := by decide +kernel
theorem dX9_isSame_39 : decode cX9_isSame 39 = .ok (.getfield 36, 3) := by decide +kernel
theorem dX9_isSame_42 : decode cX9_isSame 42 = .ok (.iload_n 2, 1) := by decide +kernel
theorem dX9_isSame_43 : decode cX9_isSame 43 = .ok (.invokevirtual 162, 3) := by decide +kernel
theorem dX9_isSame_46 : decode cX9_isSame 46 = .ok (.ifCond .eq 12, 3) := by decide +kernel
theorem dX9_isSame_49 : decode cX9_isSame 49 = .ok (.aload_n 0, 1) := by decide +kernel
theorem dX9_isSame_50 : decode cX9_isSame 50 = .ok (.getfield 42, 3) := by decide +kernel
theorem dX9_isSame_53 : decode cX9_isSame 53 = .ok (.iload_n 2, 1) := by decide +kernel
theorem dX9_isSame_54 : decode cX9_isSame 54 = .ok (.laload, 1) := by decide +kernel
theorem dX9_isSame_55 : decode cX9_isSame 55 = .ok (.goto 4, 3) := by decide +kernel
theorem dX9_isSame_58 : decode cX9_isSame 58 = .ok (.lconst 0, 1) := by decide +kernel
theorem dX9_isSame_59 : decode cX9_isSame 59 = .ok (.lastore, 1) := by decide +kernel
theorem dX9_isSame_60 : decode cX9_isSame 60 = .ok (.iinc 2 1, 3) := by decide +kernel
theorem dX9_isSame_63 : decode cX9_isSame 63 = .ok (.goto (-38), 3) := by decide +kernel
theorem dX9_isSame_66 : decode cX9_isSame 66 = .ok (.aload_n 0, 1) := by decide +kernel
theorem dX9_isSame_67 : decode cX9_isSame 67 = .ok (.getfield 67, 3) := by decide +kernel
theorem dX9_isSame_70 : decode cX9_isSame 70 = .ok (.istore_n 2, 1) := by decide +kernel
theorem dX9_isSame_71 : decode cX9_isSame 71 = .ok (.aload_n 0, 1) := by decide +kernel
theorem dX9_isSame_72 : decode cX9_isSame 72 = .ok (.getfield 70, 3) := by decide +kernel
theorem dX9_isSame_75 : decode cX9_isSame 75 = .ok (.istore_n 3, 1) := by decide +kernel
theorem dX9_isSame_76 : decode cX9_isSame 76 = .ok (.aload_n 0, 1) := by decide +kernel
theorem dX9_isSame_77 : decode cX9_isSame 77 = .ok (.iconst (-1), 1) := by decide +kernel
theorem dX9_isSame_78 : decode cX9_isSame 78 = .ok (.putfield 67, 3) := by decide +kernel
theorem dX9_isSame_81 : decode cX9_isSame 81 = .ok (.iconst 0, 1) := by decide +kernel
theorem dX9_isSame_82 : decode cX9_isSame 82 = .ok (.istore 4, 2) := by decide +kernel
theorem dX9_isSame_84 : decode cX9_isSame 84 = .ok (.iload 4, 2) := by decide +kernel
theorem dX9_isSame_86 : decode cX9_isSame 86 = .ok (.aload_n 0, 1) := by decide +kernel
theorem dX9_isSame_87 : decode cX9_isSame 87 = .ok (.getfield 172, 3) := by decide +kernel
theorem dX9_isSame_90 : decode cX9_isSame 90 = .ok (.if_icmp .ge 80, 3) := by decide +kernel
theorem dX9_isSame_93 : decode cX9_isSame 93 = .ok (.aload_n 0, 1) := by decide +kernel
theorem dX9_isSame_94 : decode cX9_isSame 94 = .ok (.getfield 79, 3) := by decide +kernel
theorem dX9_isSame_97 : decode cX9_isSame 97 = .ok (.iload 4, 2) := by decide +kernel
theorem dX9_isSame_99 : decode cX9_isSame 99 = .ok (.iaload, 1) := by decide +kernel
theorem dX9_isSame_100 : decode cX9_isSame 100 = .ok (.istore 5, 2) := by decide +kernel
theorem dX9_isSame_102 : decode cX9_isSame 102 = .ok (.aload_n 0, 1) := by decide +kernel
theorem dX9_isSame_103 : decode cX9_isSame 103 = .ok (.getfield 36, 3) := by decide +kernel
theorem dX9_isSame_106 : decode cX9_isSame 106 = .ok (.iload 5, 2) := by decide +kernel
theorem dX9_isSame_108 : decode cX9_isSame 108 = .ok (.invokestatic 148, 3) := by decide +kernel
theorem dX9_isSame_111 : decode cX9_isSame 111 = .ok (.ifCond .ne 53, 3) := by decide +kernel
theorem dX9_isSame_114 : decode cX9_isSame 114 = .ok (.aload_n 0, 1) := by decide +kernel
theorem dX9_isSame_115 : decode cX9_isSame 115 = .ok (.aload_n 0, 1) := by decide +kernel
theorem dX9_isSame_116 : decode cX9_isSame 116 = .ok (.getfield 36, 3) := by decide +kernel
theorem dX9_isSame_119 : decode cX9_isSame 119 = .ok (.iload 5, 2) := by decide +kernel
theorem dX9_isSame_121 : decode cX9_isSame 121 = .ok (.invokevirtual 224, 3) := by decide +kernel
theorem dX9_isSame_124 : decode cX9_isSame 124 = .ok (.lstore 6, 2) := by decide +kernel
theorem dX9_isSame_126 : decode cX9_isSame 126 = .ok (.iload_n 1, 1) := by decide +kernel
theorem dX9_isSame_127 : decode cX9_isSame 127 = .ok (.aload_n 0, 1) := by decide +kernel
theorem dX9_isSame_128 : decode cX9_isSame 128 = .ok (.getfield 67, 3) := by decide +kernel
theorem dX9_isSame_131 : decode cX9_isSame 131 = .ok (.iconst (-1), 1) := by decide +kernel
theorem dX9_isSame_132 : decode cX9_isSame 132 = .ok (.if_icmp .ne 20, 3) := by decide +kernel
theorem dX9_isSame_135 : decode cX9_isSame 135 = .ok (.lload 6, 2) := by decide +kernel
theorem dX9_isSame_137 : decode cX9_isSame 137 = .ok (.aload_n 0, 1) := by decide +kernel
theorem dX9_isSame_138 : decode cX9_isSame 138 = .ok (.getfield 42, 3) := by decide +kernel
theorem dX9_isSame_141 : decode cX9_isSame 141 = .ok (.iload 5, 2) := by decide +kernel
theorem dX9_isSame_143 : decode cX9_isSame 143 = .ok (.laload, 1) := by decide +kernel
theorem dX9_isSame_144 : decode cX9_isSame 144 = .ok (.lcmp, 1) := by decide +kernel
theorem dX9_isSame_145 : decode cX9_isSame 145 = .ok (.ifCond .ne 7, 3) := by decide +kernel
theorem dX9_isSame_148 : decode cX9_isSame 148 = .ok (.iconst 1, 1) := by decide +kernel
theorem dX9_isSame_149 : decode cX9_isSame 149 = .ok (.goto 4, 3) := by decide +kernel
theorem dX9_isSame_152 : decode cX9_isSame 152 = .ok (.iconst 0, 1) := by decide +kernel
theorem dX9_isSame_153 : decode cX9_isSame 153 = .ok (.iand, 1) := by decide +kernel
theorem dX9_isSame_154 : decode cX9_isSame 154 = .ok (.istore_n 1, 1) := by decide +kernel
theorem dX9_isSame_155 : decode cX9_isSame 155 = .ok (.aload_n 0, 1) := by decide +kernel
theorem dX9_isSame_156 : decode cX9_isSame 156 = .ok (.getfield 46, 3) := by decide +kernel
theorem dX9_isSame_159 : decode cX9_isSame 159 = .ok (.iload 5, 2) := by decide +kernel
theorem dX9_isSame_161 : decode cX9_isSame 161 = .ok (.lload 6, 2) := by decide +kernel
theorem dX9_isSame_163 : decode cX9_isSame 163 = .ok (.lastore, 1) := by decide +kernel
theorem dX9_isSame_164 : decode cX9_isSame 164 = .ok (.iinc 4 1, 3) := by decide +kernel
theorem dX9_isSame_167 : decode cX9_isSame 167 = .ok (.goto (-83), 3) := by decide +kernel
theorem dX9_isSame_170 : decode cX9_isSame 170 = .ok (.aload_n 0, 1) := by decide +kernel
theorem dX9_isSame_171 : decode cX9_isSame 171 = .ok (.iload_n 2, 1) := by decide +kernel
theorem dX9_isSame_172 : decode cX9_isSame 172 = .ok (.putfield 67, 3) := by decide +kernel
theorem dX9_isSame_175 : decode cX9_isSame 175 = .ok (.aload_n 0, 1) := by decide +kernel
theorem dX9_isSame_176 : decode cX9_isSame 176 = .ok (.iload_n 3, 1) := by decide +kernel
theorem dX9_isSame_177 : decode cX9_isSame 177 = .ok (.putfield 70, 3) := by decide +kernel
theorem dX9_isSame_180 : decode cX9_isSame 180 = .ok (.iload_n 1, 1) := by decide +kernel
theorem dX9_isSame_181 : decode cX9_isSame 181 = .ok (.ireturn, 1) := by decide +kernel
theorem dJ13_bitCount_95d88_0 : decode cJ13_bitCount_95d88 0 = .ok (.lload_n 0, 1) := by decide +kernel
theorem dJ13_bitCount_95d88_1 : decode cJ13_bitCount_95d88 1 = .ok (.lload_n 0, 1) := by decide +kernel
theorem dJ13_bitCount_95d88_2 : decode cJ13_bitCount_95d88 2 = .ok (.iconst 1, 1) := by decide +kernel
theorem dJ13_bitCount_95d88_3 : decode cJ13_bitCount_95d88 3 = .ok (.lushr, 1) := by decide +kernel
theorem dJ13_bitCount_95d88_4 : decode cJ13_bitCount_95d88 4 = .ok (.ldc2_w 314, 3) := by decide +kernel
theorem dJ13_bitCount_95d88_7 : decode cJ13_bitCount_95d88 7 = .ok (.land, 1) := by decide +kernel
theorem dJ13_bitCount_95d88_8 : decode cJ13_bitCount_95d88 8 = .ok (.lsub, 1) := by decide +kernel
theorem dJ13_bitCount_95d88_9 : decode cJ13_bitCount_95d88 9 = .ok (.lstore_n 0, 1) := by decide +kernel
theorem dJ13_bitCount_95d88_10 : decode cJ13_bitCount_95d88 10 = .ok (.lload_n 0, 1) := by decide +kernel
theorem dJ13_bitCount_95d88_11 : decode cJ13_bitCount_95d88 11 = .ok (.ldc2_w 316, 3) := by decide +kernel
theorem dJ13_bitCount_95d88_14 : decode cJ13_bitCount_95d88 14 = .ok (.land, 1) := by decide +kernel
theorem dJ13_bitCount_95d88_15 : decode cJ13_bitCount_95d88 15 = .ok (.lload_n 0, 1) := by decide +kernel
theorem dJ13_bitCount_95d88_16 : decode cJ13_bitCount_95d88 16 = .ok (.iconst 2, 1) := by decide +kernel
theorem dJ13_bitCount_95d88_17 : decode cJ13_bitCount_95d88 17 = .ok (.lushr, 1) := by decide +kernel
theorem dJ13_bitCount_95d88_18 : decode cJ13_bitCount_95d88 18 = .ok (.ldc2_w 316, 3) := by decide +kernel
theorem dJ13_bitCount_95d88_21 : decode cJ13_bitCount_95d88 21 = .ok (.land, 1) := by decide +kernel
theorem dJ13_bitCount_95d88_22 : decode cJ13_bitCount_95d88 22 = .ok (.ladd, 1) := by decide +kernel
theorem dJ13_bitCount_95d88_23 : decode cJ13_bitCount_95d88 23 = .ok (.lstore_n 0, 1) := by decide +kernel
theorem dJ13_bitCount_95d88_24 : decode cJ13_bitCount_95d88 24 = .ok (.lload_n 0, 1) := by decide +kernel
theorem dJ13_bitCount_95d88_25 : decode cJ13_bitCount_95d88 25 = .ok (.lload_n 0, 1) := by decide +kernel
theorem dJ13_bitCount_95d88_26 : decode cJ13_bitCount_95d88 26 = .ok (.iconst 4, 1) := by decide +kernel
theorem dJ13_bitCount_95d88_27 : decode cJ13_bitCount_95d88 27 = .ok (.lushr, 1) := by decide +kernel
theorem dJ13_bitCount_95d88_28 : decode cJ13_bitCount_95d88 28 = .ok (.ladd, 1) := by decide +kernel
theorem dJ13_bitCount_95d88_29 : decode cJ13_bitCount_95d88 29 = .ok (.ldc2_w 318, 3) := by decide +kernel
theorem dJ13_bitCount_95d88_32 : decode cJ13_bitCount_95d88 32 = .ok (.land, 1) := by decide +kernel
theorem dJ13_bitCount_95d88_33 : decode cJ13_bitCount_95d88 33 = .ok (.lstore_n 0, 1) := by decide +kernel
theorem dJ13_bitCount_95d88_34 : decode cJ13_bitCount_95d88 34 = .ok (.lload_n 0, 1) := by decide +kernel
theorem dJ13_bitCount_95d88_35 : decode cJ13_bitCount_95d88 35 = .ok (.lload_n 0, 1) := by decide +kernel
theorem dJ13_bitCount_95d88_36 : decode cJ13_bitCount_95d88 36 = .ok (.bipush 8, 2) := by decide +kernel
theorem dJ13_bitCount_95d88_38 : decode cJ13_bitCount_95d88 38 = .ok (.lushr, 1) := by decide +kernel
theorem dJ13_bitCount_95d88_39 : decode cJ13_bitCount_95d88 39 = .ok (.ladd, 1) := by decide +kernel
theorem dJ13_bitCount_95d88_40 : decode cJ13_bitCount_95d88 40 = .ok (.lstore_n 0, 1) := by decide +kernel
theorem dJ13_bitCount_95d88_41 : decode cJ13_bitCount_95d88 41 = .ok (.lload_n 0, 1) := by decide +kernel
theorem dJ13_bitCount_95d88_42 : decode cJ13_bitCount_95d88 42 = .ok (.lload_n 0, 1) := by decide +kernel
theorem dJ13_bitCount_95d88_43 : decode cJ13_bitCount_95d88 43 = .ok (.bipush 16, 2) := by decide +kernel
theorem dJ13_bitCount_95d88_45 : decode cJ13_bitCount_95d88 45 = .ok (.lushr, 1) := by decide +kernel
theorem dJ13_bitCount_95d88_46 : decode cJ13_bitCount_95d88 46 = .ok (.ladd, 1) := by decide +kernel
theorem dJ13_bitCount_95d88_47 : decode cJ13_bitCount_95d88 47 = .ok (.lstore_n 0, 1) := by decide +kernel
theorem dJ13_bitCount_95d88_48 : decode cJ13_bitCount_95d88 48 = .ok (.lload_n 0, 1) := by decide +kernel
theorem dJ13_bitCount_95d88_49 : decode cJ13_bitCount_95d88 49 = .ok (.lload_n 0, 1) := by decide +kernel
theorem dJ13_bitCount_95d88_50 : decode cJ13_bitCount_95d88 50 = .ok (.bipush 32, 2) := by decide +kernel
theorem dJ13_bitCount_95d88_52 : decode cJ13_bitCount_95d88 52 = .ok (.lushr, 1) := by decide +kernel
theorem dJ13_bitCount_95d88_53 : decode cJ13_bitCount_95d88 53 = .ok (.ladd, 1) := by decide +kernel
theorem dJ13_bitCount_95d88_54 : decode cJ13_bitCount_95d88 54 = .ok (.lstore_n 0, 1) := by decide +kernel
theorem dJ13_bitCount_95d88_55 : decode cJ13_bitCount_95d88 55 = .ok (.lload_n 0, 1) := by decide +kernel
theorem dJ13_bitCount_95d88_56 : decode cJ13_bitCount_95d88 56 = .ok (.l2i, 1) := by decide +kernel
theorem dJ13_bitCount_95d88_57 : decode cJ13_bitCount_95d88 57 = .ok (.bipush 127, 2) := by decide +kernel
theorem dJ13_bitCount_95d88_59 : decode cJ13_bitCount_95d88 59 = .ok (.iand, 1) := by decide +kernel
theorem dJ13_bitCount_95d88_60 : decode cJ13_bitCount_95d88 60 = .ok (.ireturn, 1) := by decide +kernel
theorem dJ9_abs_067f4_0 : decode cJ9_abs_067f4 0 = .ok (.lload_n 0, 1) := by decide +kernel
theorem dJ9_abs_067f4_1 : decode cJ9_abs_067f4 1 = .ok (.lconst 0, 1) := by decide +kernel
theorem dJ9_abs_067f4_2 : decode cJ9_abs_067f4 2 = .ok (.lcmp, 1) := by decide +kernel
theorem dJ9_abs_067f4_3 : decode cJ9_abs_067f4 3 = .ok (.ifCond .ge 8, 3) := by decide +kernel
theorem dJ9_abs_067f4_6 : decode cJ9_abs_067f4 6 = .ok (.lload_n 0, 1) := by decide +kernel
theorem dJ9_abs_067f4_7 : decode cJ9_abs_067f4 7 = .ok (.lneg, 1) := by decide +kernel
theorem dJ9_abs_067f4_8 : decode cJ9_abs_067f4 8 = .ok (.goto 4, 3) := by decide +kernel
theorem dJ9_abs_067f4_11 : decode cJ9_abs_067f4 11 = .ok (.lload_n 0, 1) := by decide +kernel
theorem dJ9_abs_067f4_12 : decode cJ9_abs_067f4 12 = .ok (.lreturn, 1) := by decide +kernel
theorem dJ9_max_f86c9_0 : decode cJ9_max_f86c9 0 = .ok (.lload_n 0, 1) := by decide +kernel
theorem dJ9_max_f86c9_1 : decode cJ9_max_f86c9 1 = .ok (.lload_n 2, 1) := by decide +kernel
theorem dJ9_max_f86c9_2 : decode cJ9_max_f86c9 2 = .ok (.lcmp, 1) := by decide +kernel
theorem dJ9_max_f86c9_3 : decode cJ9_max_f86c9 3 = .ok (.ifCond .lt 7, 3) := by decide +kernel
theorem dJ9_max_f86c9_6 : decode cJ9_max_f86c9 6 = .ok (.lload_n 0, 1) := by decide +kernel
theorem dJ9_max_f86c9_7 : decode cJ9_max_f86c9 7 = .ok (.goto 4, 3) := by decide +kernel
theorem dJ9_max_f86c9_10 : decode cJ9_max_f86c9 10 = .ok (.lload_n 2, 1) := by decide +kernel
theorem dJ9_max_f86c9_11 : decode cJ9_max_f86c9 11 = .ok (.lreturn, 1) := by decide +kernel
theorem dJ9_min_7cf53_0 : decode cJ9_min_7cf53 0 = .ok (.iload_n 0, 1) := by decide +kernel
theorem dJ9_min_7cf53_1 : decode cJ9_min_7cf53 1 = .ok (.iload_n 1, 1) := by decide +kernel
theorem dJ9_min_7cf53_2 : decode cJ9_min_7cf53 2 = .ok (.if_icmp .gt 7, 3) := by decide +kernel
theorem dJ9_min_7cf53_5 : decode cJ9_min_7cf53 5 = .ok (.iload_n 0, 1) := by decide +kernel
theorem dJ9_min_7cf53_6 : decode cJ9_min_7cf53 6 = .ok (.goto 4, 3) := by decide +kernel
theorem dJ9_min_7cf53_9 : decode cJ9_min_7cf53 9 = .ok (.iload_n 1, 1) := by decide +kernel
theorem dJ9_min_7cf53_10 : decode cJ9_min_7cf53 10 = .ok (.ireturn, 1) := by decide +kernel
theorem dJ9_min_f86c9_0 : decode cJ9_min_f86c9 0 = .ok (.lload_n 0, 1) := by decide +kernel
theorem dJ9_min_f86c9_1 : decode cJ9_min_f86c9 1 = .ok (.lload_n 2, 1) := by decide +kernel
theorem dJ9_min_f86c9_2 : decode cJ9_min_f86c9 2 = .ok (.lcmp, 1) := by decide +kernel
theorem dJ9_min_f86c9_3 : decode cJ9_min_f86c9 3 = .ok (.ifCond .gt 7, 3) := by decide +kernel
theorem dJ9_min_f86c9_6 : decode cJ9_min_f86c9 6 = .ok (.lload_n 0, 1) := by decide +kernel
theorem dJ9_min_f86c9_7 : decode cJ9_min_f86c9 7 = .ok (.goto 4, 3) := by decide +kernel
theorem dJ9_min_f86c9_10 : decode cJ9_min_f86c9 10 = .ok (.lload_n 2, 1) := by decide +kernel
theorem dJ9_min_f86c9_11 : decode cJ9_min_f86c9 11 = .ok (.lreturn, 1) := by decide +kernel
theorem dJ7_fill_d0a16_0 : decode cJ7_fill_d0a16 0 = .ok (.iconst 0, 1) := by decide +kernel
theorem dJ7_fill_d0a16_1 : decode cJ7_fill_d0a16 1 = .ok (.istore_n 3, 1) := by decide +kernel
theorem dJ7_fill_d0a16_2 : decode cJ7_fill_d0a16 2 = .ok (.aload_n 0, 1) := by decide +kernel
theorem dJ7_fill_d0a16_3 : decode cJ7_fill_d0a16 3 = .ok (.arraylength, 1) := by decide +kernel
theorem dJ7_fill_d0a16_4 : decode cJ7_fill_d0a16 4 = .ok (.istore 4, 2) := by decide +kernel
theorem dJ7_fill_d0a16_6 : decode cJ7_fill_d0a16 6 = .ok (.iload_n 3, 1) := by decide +kernel
theorem dJ7_fill_d0a16_7 : decode cJ7_fill_d0a16 7 = .ok (.iload 4, 2) := by decide +kernel
theorem dJ7_fill_d0a16_9 : decode cJ7_fill_d0a16 9 = .ok (.if_icmp .ge 13, 3) := by decide +kernel
theorem dJ7_fill_d0a16_12 : decode cJ7_fill_d0a16 12 = .ok (.aload_n 0, 1) := by decide +kernel
theorem dJ7_fill_d0a16_13 : decode cJ7_fill_d0a16 13 = .ok (.iload_n 3, 1) := by decide +kernel
theorem dJ7_fill_d0a16_14 : decode cJ7_fill_d0a16 14 = .ok (.lload_n 1, 1) := by decide +kernel
theorem dJ7_fill_d0a16_15 : decode cJ7_fill_d0a16 15 = .ok (.lastore, 1) := by decide +kernel
theorem dJ7_fill_d0a16_16 : decode cJ7_fill_d0a16 16 = .ok (.iinc 3 1, 3) := by decide +kernel
theorem dJ7_fill_d0a16_19 : decode cJ7_fill_d0a16 19 = .ok (.goto (-13), 3) := by decide +kernel
theorem dJ7_fill_d0a16_22 : decode cJ7_fill_d0a16 22 = .ok (.return_, 1) := by decide +kernel
theorem dJ7_fill_53178_0 : decode cJ7_fill_53178 0 = .ok (.iconst 0, 1) := by decide +kernel
theorem dJ7_fill_53178_1 : decode cJ7_fill_53178 1 = .ok (.istore_n 2, 1) := by decide +kernel
theorem dJ7_fill_53178_2 : decode cJ7_fill_53178 2 = .ok (.aload_n 0, 1) := by decide +kernel
theorem dJ7_fill_53178_3 : decode cJ7_fill_53178 3 = .ok (.arraylength, 1) := by decide +kernel
theorem dJ7_fill_53178_4 : decode cJ7_fill_53178 4 = .ok (.istore_n 3, 1) := by decide +kernel
theorem dJ7_fill_53178_5 : decode cJ7_fill_53178 5 = .ok (.iload_n 2, 1) := by decide +kernel
theorem dJ7_fill_53178_6 : decode cJ7_fill_53178 6 = .ok (.iload_n 3, 1) := by decide +kernel
theorem dJ7_fill_53178_7 : decode cJ7_fill_53178 7 = .ok (.if_icmp .ge 13, 3) := by decide +kernel
theorem dJ7_fill_53178_10 : decode cJ7_fill_53178 10 = .ok (.aload_n 0, 1) := by decide +kernel
theorem dJ7_fill_53178_11 : decode cJ7_fill_53178 11 = .ok (.iload_n 2, 1) := by decide +kernel
theorem dJ7_fill_53178_12 : decode cJ7_fill_53178 12 = .ok (.iload_n 1, 1) := by decide +kernel
theorem dJ7_fill_53178_13 : decode cJ7_fill_53178 13 = .ok (.iastore, 1) := by decide +kernel
theorem dJ7_fill_53178_14 : decode cJ7_fill_53178 14 = .ok (.iinc 2 1, 3) := by decide +kernel
theorem dJ7_fill_53178_17 : decode cJ7_fill_53178 17 = .ok (.goto (-12), 3) := by decide +kernel
theorem dJ7_fill_53178_20 : decode cJ7_fill_53178 20 = .ok (.return_, 1) := by decide +kernel
theorem dL_thing_0 : decode cL_thing 0 = .ok (.aload 5, 2) := by decide +kernel
theorem dL_thing_2 : decode cL_thing 2 = .ok (.iconst 0, 1) := by decide +kernel
theorem dL_thing_3 : decode cL_thing 3 = .ok (.aload_n 0, 1) := by decide +kernel
theorem dL_thing_4 : decode cL_thing 4 = .ok (.iload_n 1, 1) := by decide +kernel
theorem dL_thing_5 : decode cL_thing 5 = .ok (.iload_n 2, 1) := by decide +kernel
theorem dL_thing_6 : decode cL_thing 6 = .ok (.iload_n 3, 1) := by decide +kernel
theorem dL_thing_7 : decode cL_thing 7 = .ok (.iload 4, 2) := by decide +kernel
theorem dL_thing_9 : decode cL_thing 9 = .ok (.invokevirtual 7, 3) := by decide +kernel
theorem dL_thing_12 : decode cL_thing 12 = .ok (.i2l, 1) := by decide +kernel
theorem dL_thing_13 : decode cL_thing 13 = .ok (.lastore, 1) := by decide +kernel
theorem dL_thing_14 : decode cL_thing 14 = .ok (.goto 7, 3) := by decide +kernel
theorem dL_thing_17 : decode cL_thing 17 = .ok (.astore 6, 2) := by decide +kernel
theorem dL_thing_19 : decode cL_thing 19 = .ok (.iconst 1, 1) := by decide +kernel
theorem dL_thing_20 : decode cL_thing 20 = .ok (.ireturn, 1) := by decide +kernel
theorem dL_thing_21 : decode cL_thing 21 = .ok (.iconst 0, 1) := by decide +kernel
theorem dL_thing_22 : decode cL_thing 22 = .ok (.ireturn, 1) := by decide +kernel
theorem dL_list_0 : decode cL_list 0 = .ok (.aload_n 3, 1) := by decide +kernel
theorem dL_list_1 : decode cL_list 1 = .ok (.iconst 0, 1) := by decide +kernel
theorem dL_list_2 : decode cL_list 2 = .ok (.aload_n 0, 1) := by decide +kernel
theorem dL_list_3 : decode cL_list 3 = .ok (.iload_n 1, 1) := by decide +kernel
theorem dL_list_4 : decode cL_list 4 = .ok (.iload_n 2, 1) := by decide +kernel
theorem dL_list_5 : decode cL_list 5 = .ok (.invokevirtual 15, 3) := by decide +kernel
theorem dL_list_8 : decode cL_list 8 = .ok (.i2l, 1) := by decide +kernel
theorem dL_list_9 : decode cL_list 9 = .ok (.lastore, 1) := by decide +kernel
theorem dL_list_10 : decode cL_list 10 = .ok (.goto 7, 3) := by decide +kernel
theorem dL_list_13 : decode cL_list 13 = .ok (.astore 4, 2) := by decide +kernel
theorem dL_list_15 : decode cL_list 15 = .ok (.iconst 1, 1) := by decide +kernel
theorem dL_list_16 : decode cL_list 16 = .ok (.ireturn, 1) := by decide +kernel
theorem dL_list_17 : decode cL_list 17 = .ok (.iconst 0, 1) := by decide +kernel
theorem dL_list_18 : decode cL_list 18 = .ok (.ireturn, 1) := by decide +kernel
theorem dL_step_0 : decode cL_step 0 = .ok (.aload_n 3, 1) := by decide +kernel
theorem dL_step_1 : decode cL_step 1 = .ok (.iconst 0, 1) := by decide +kernel
theorem dL_step_2 : decode cL_step 2 = .ok (.aload_n 0, 1) := by decide +kernel
theorem dL_step_3 : decode cL_step 3 = .ok (.iload_n 1, 1) := by decide +kernel
theorem dL_step_4 : decode cL_step 4 = .ok (.iload_n 2, 1) := by decide +kernel
theorem dL_step_5 : decode cL_step 5 = .ok (.invokevirtual 19, 3) := by decide +kernel
theorem dL_step_8 : decode cL_step 8 = .ok (.i2l, 1) := by decide +kernel
theorem dL_step_9 : decode cL_step 9 = .ok (.lastore, 1) := by decide +kernel
theorem dL_step_10 : decode cL_step 10 = .ok (.goto 7, 3) := by decide +kernel
theorem dL_step_13 : decode cL_step 13 = .ok (.astore 4, 2) := by decide +kernel
theorem dL_step_15 : decode cL_step 15 = .ok (.iconst 1, 1) := by decide +kernel
theorem dL_step_16 : decode cL_step 16 = .ok (.ireturn, 1) := by decide +kernel
theorem dL_step_17 : decode cL_step 17 = .ok (.iconst 0, 1) := by decide +kernel
theorem dL_step_18 : decode cL_step 18 = .ok (.ireturn, 1) := by decide +kernel
theorem dL_maker_0 : decode cL_maker 0 = .ok (.aload_n 2, 1) := by decide +kernel
theorem dL_maker_1 : decode cL_maker 1 = .ok (.iconst 0, 1) := by decide +kernel
theorem dL_maker_2 : decode cL_maker 2 = .ok (.aload_n 0, 1) := by decide +kernel
theorem dL_maker_3 : decode cL_maker 3 = .ok (.iload_n 1, 1) := by decide +kernel
theorem dL_maker_4 : decode cL_maker 4 = .ok (.invokevirtual 22, 3) := by decide +kernel
theorem dL_maker_7 : decode cL_maker 7 = .ok (.i2l, 1) := by decide +kernel
theorem dL_maker_8 : decode cL_maker 8 = .ok (.lastore, 1) := by decide +kernel
theorem dL_maker_9 : decode cL_maker 9 = .ok (.goto 9, 3) := by decide +kernel
theorem dL_maker_12 : decode cL_maker 12 = .ok (.astore_n 3, 1) := by decide +kernel
theorem dL_maker_13 : decode cL_maker 13 = .ok (.iconst 1, 1) := by decide +kernel
theorem dL_maker_14 : decode cL_maker 14 = .ok (.ireturn, 1) := by decide +kernel
theorem dL_maker_15 : decode cL_maker 15 = .ok (.astore_n 3, 1) := by decide +kernel
theorem dL_maker_16 : decode cL_maker 16 = .ok (.iconst 2, 1) := by decide +kernel
theorem dL_maker_17 : decode cL_maker 17 = .ok (.ireturn, 1) := by decide +kernel
theorem dL_maker_18 : decode cL_maker 18 = .ok (.iconst 0, 1) := by decide +kernel
theorem dL_maker_19 : decode cL_maker 19 = .ok (.ireturn, 1) := by decide +kernel
theorem dL_open_0 : decode cL_open 0 = .ok (.aload_n 1, 1) := by decide +kernel
theorem dL_open_1 : decode cL_open 1 = .ok (.iconst 0, 1) := by decide +kernel
theorem dL_open_2 : decode cL_open 2 = .ok (.aload_n 0, 1) := by decide +kernel
theorem dL_open_3 : decode cL_open 3 = .ok (.invokevirtual 28, 3) := by decide +kernel
theorem dL_open_6 : decode cL_open 6 = .ok (.i2l, 1) := by decide +kernel
theorem dL_open_7 : decode cL_open 7 = .ok (.lastore, 1) := by decide +kernel
theorem dL_open_8 : decode cL_open 8 = .ok (.goto 6, 3) := by decide +kernel
theorem dL_open_11 : decode cL_open 11 = .ok (.astore_n 2, 1) := by decide +kernel
theorem dL_open_12 : decode cL_open 12 = .ok (.iconst 1, 1) := by decide +kernel
theorem dL_open_13 : decode cL_open 13 = .ok (.ireturn, 1) := by decide +kernel
theorem dL_open_14 : decode cL_open 14 = .ok (.iconst 0, 1) := by decide +kernel
theorem dL_open_15 : decode cL_open 15 = .ok (.ireturn, 1) := by decide +kernel
theorem dL_place_0 : decode cL_place 0 = .ok (.aload 4, 2) := by decide +kernel
theorem dL_place_2 : decode cL_place 2 = .ok (.iconst 0, 1) := by decide +kernel
theorem dL_place_3 : decode cL_place 3 = .ok (.aload_n 0, 1) := by decide +kernel
theorem dL_place_4 : decode cL_place 4 = .ok (.iload_n 1, 1) := by decide +kernel
theorem dL_place_5 : decode cL_place 5 = .ok (.iload_n 2, 1) := by decide +kernel
theorem dL_place_6 : decode cL_place 6 = .ok (.iload_n 3, 1) := by decide +kernel
theorem dL_place_7 : decode cL_place 7 = .ok (.invokevirtual 32, 3) := by decide +kernel
theorem dL_place_10 : decode cL_place 10 = .ok (.i2l, 1) := by decide +kernel
theorem dL_place_11 : decode cL_place 11 = .ok (.lastore, 1) := by decide +kernel
theorem dL_place_12 : decode cL_place 12 = .ok (.goto 15, 3) := by decide +kernel
theorem dL_place_15 : decode cL_place 15 = .ok (.astore 5, 2) := by decide +kernel
theorem dL_place_17 : decode cL_place 17 = .ok (.iconst 1, 1) := by decide +kernel
theorem dL_place_18 : decode cL_place 18 = .ok (.ireturn, 1) := by decide +kernel
theorem dL_place_19 : decode cL_place 19 = .ok (.astore 5, 2) := by decide +kernel
theorem dL_place_21 : decode cL_place 21 = .ok (.iconst 2, 1) := by decide +kernel
theorem dL_place_22 : decode cL_place 22 = .ok (.ireturn, 1) := by decide +kernel
theorem dL_place_23 : decode cL_place 23 = .ok (.astore 5, 2) := by decide +kernel
theorem dL_place_25 : decode cL_place 25 = .ok (.iconst 3, 1) := by decide +kernel
theorem dL_place_26 : decode cL_place 26 = .ok (.ireturn, 1) := by decide +kernel
theorem dL_place_27 : decode cL_place 27 = .ok (.iconst 0, 1) := by decide +kernel
theorem dL_place_28 : decode cL_place 28 = .ok (.ireturn, 1) := by decide +kernel
theorem dL_take_0 : decode cL_take 0 = .ok (.aload_n 2, 1) := by decide +kernel
theorem dL_take_1 : decode cL_take 1 = .ok (.iconst 0, 1) := by decide +kernel
theorem dL_take_2 : decode cL_take 2 = .ok (.aload_n 0, 1) := by decide +kernel
theorem dL_take_3 : decode cL_take 3 = .ok (.iload_n 1, 1) := by decide +kernel
theorem dL_take_4 : decode cL_take 4 = .ok (.invokevirtual 38, 3) := by decide +kernel
theorem dL_take_7 : decode cL_take 7 = .ok (.i2l, 1) := by decide +kernel
theorem dL_take_8 : decode cL_take 8 = .ok (.lastore, 1) := by decide +kernel
theorem dL_take_9 : decode cL_take 9 = .ok (.goto 9, 3) := by decide +kernel
theorem dL_take_12 : decode cL_take 12 = .ok (.astore_n 3, 1) := by decide +kernel
theorem dL_take_13 : decode cL_take 13 = .ok (.iconst 1, 1) := by decide +kernel
theorem dL_take_14 : decode cL_take 14 = .ok (.ireturn, 1) := by decide +kernel
theorem dL_take_15 : decode cL_take 15 = .ok (.astore_n 3, 1) := by decide +kernel
theorem dL_take_16 : decode cL_take 16 = .ok (.iconst 2, 1) := by decide +kernel
theorem dL_take_17 : decode cL_take 17 = .ok (.ireturn, 1) := by decide +kernel
theorem dL_take_18 : decode cL_take 18 = .ok (.iconst 0, 1) := by decide +kernel
theorem dL_take_19 : decode cL_take 19 = .ok (.ireturn, 1) := by decide +kernel
theorem dL_move_0 : decode cL_move 0 = .ok (.aload 4, 2) := by decide +kernel
theorem dL_move_2 : decode cL_move 2 = .ok (.iconst 0, 1) := by decide +kernel
theorem dL_move_3 : decode cL_move 3 = .ok (.aload_n 0, 1) := by decide +kernel
theorem dL_move_4 : decode cL_move 4 = .ok (.iload_n 1, 1) := by decide +kernel
theorem dL_move_5 : decode cL_move 5 = .ok (.iload_n 2, 1) := by decide +kernel
theorem dL_move_6 : decode cL_move 6 = .ok (.iload_n 3, 1) := by decide +kernel
theorem dL_move_7 : decode cL_move 7 = .ok (.invokevirtual 41, 3) := by decide +kernel
theorem dL_move_10 : decode cL_move 10 = .ok (.i2l, 1) := by decide +kernel
theorem dL_move_11 : decode cL_move 11 = .ok (.lastore, 1) := by decide +kernel
theorem dL_move_12 : decode cL_move 12 = .ok (.goto 15, 3) := by decide +kernel
theorem dL_move_15 : decode cL_move 15 = .ok (.astore 5, 2) := by decide +kernel
theorem dL_move_17 : decode cL_move 17 = .ok (.iconst 1, 1) := by decide +kernel
theorem dL_move_18 : decode cL_move 18 = .ok (.ireturn, 1) := by decide +kernel
theorem dL_move_19 : decode cL_move 19 = .ok (.astore 5, 2) := by decide +kernel
theorem dL_move_21 : decode cL_move 21 = .ok (.iconst 2, 1) := by decide +kernel
theorem dL_move_22 : decode cL_move 22 = .ok (.ireturn, 1) := by decide +kernel
theorem dL_move_23 : decode cL_move 23 = .ok (.astore 5, 2) := by decide +kernel
theorem dL_move_25 : decode cL_move 25 = .ok (.iconst 3, 1) := by decide +kernel
theorem dL_move_26 : decode cL_move 26 = .ok (.ireturn, 1) := by decide +kernel
theorem dL_move_27 : decode cL_move 27 = .ok (.iconst 0, 1) := by decide +kernel
theorem dL_move_28 : decode cL_move 28 = .ok (.ireturn, 1) := by decide +kernel
theorem dL_swap_0 : decode cL_swap 0 = .ok (.aload_n 3, 1) := by decide +kernel
theorem dL_swap_1 : decode cL_swap 1 = .ok (.iconst 0, 1) := by decide +kernel
theorem dL_swap_2 : decode cL_swap 2 = .ok (.aload_n 0, 1) := by decide +kernel
theorem dL_swap_3 : decode cL_swap 3 = .ok (.iload_n 1, 1) := by decide +kernel
theorem dL_swap_4 : decode cL_swap 4 = .ok (.iload_n 2, 1) := by decide +kernel
theorem dL_swap_5 : decode cL_swap 5 = .ok (.invokevirtual 44, 3) := by decide +kernel
theorem dL_swap_8 : decode cL_swap 8 = .ok (.i2l, 1) := by decide +kernel
theorem dL_swap_9 : decode cL_swap 9 = .ok (.lastore, 1) := by decide +kernel
theorem dL_swap_10 : decode cL_swap 10 = .ok (.goto 15, 3) := by decide +kernel
theorem dL_swap_13 : decode cL_swap 13 = .ok (.astore 4, 2) := by decide +kernel
theorem dL_swap_15 : decode cL_swap 15 = .ok (.iconst 1, 1) := by decide +kernel
theorem dL_swap_16 : decode cL_swap 16 = .ok (.ireturn, 1) := by decide +kernel
theorem dL_swap_17 : decode cL_swap 17 = .ok (.astore 4, 2) := by decide +kernel
theorem dL_swap_19 : decode cL_swap 19 = .ok (.iconst 2, 1) := by decide +kernel
theorem dL_swap_20 : decode cL_swap 20 = .ok (.ireturn, 1) := by decide +kernel
theorem dL_swap_21 : decode cL_swap 21 = .ok (.astore 4, 2) := by decide +kernel
theorem dL_swap_23 : decode cL_swap 23 = .ok (.iconst 3, 1) := by decide +kernel
theorem dL_swap_24 : decode cL_swap 24 = .ok (.ireturn, 1) := by decide +kernel
theorem dL_swap_25 : decode cL_swap 25 = .ok (.iconst 0, 1) := by decide +kernel
theorem dL_swap_26 : decode cL_swap 26 = .ok (.ireturn, 1) := by decide +kernel
theorem dL_turn_0 : decode cL_turn 0 = .ok (.aload 4, 2) := by decide +kernel
theorem dL_turn_2 : decode cL_turn 2 = .ok (.iconst 0, 1) := by decide +kernel
theorem dL_turn_3 : decode cL_turn 3 = .ok (.aload_n 0, 1) := by decide +kernel
theorem dL_turn_4 : decode cL_turn 4 = .ok (.iload_n 1, 1) := by decide +kernel
theorem dL_turn_5 : decode cL_turn 5 = .ok (.iload_n 2, 1) := by decide +kernel
theorem dL_turn_6 : decode cL_turn 6 = .ok (.iload_n 3, 1) := by decide +kernel
theorem dL_turn_7 : decode cL_turn 7 = .ok (.invokevirtual 47, 3) := by decide +kernel
theorem dL_turn_10 : decode cL_turn 10 = .ok (.i2l, 1) := by decide +kernel
theorem dL_turn_11 : decode cL_turn 11 = .ok (.lastore, 1) := by decide +kernel
theorem dL_turn_12 : decode cL_turn 12 = .ok (.goto 15, 3) := by decide +kernel
theorem dL_turn_15 : decode cL_turn 15 = .ok (.astore 5, 2) := by decide +kernel
theorem dL_turn_17 : decode cL_turn 17 = .ok (.iconst 1, 1) := by decide +kernel
theorem dL_turn_18 : decode cL_turn 18 = .ok (.ireturn, 1) := by decide +kernel
theorem dL_turn_19 : decode cL_turn 19 = .ok (.astore 5, 2) := by decide +kernel
theorem dL_turn_21 : decode cL_turn 21 = .ok (.iconst 2, 1) := by decide +kernel
theorem dL_turn_22 : decode cL_turn 22 = .ok (.ireturn, 1) := by decide +kernel
theorem dL_turn_23 : decode cL_turn 23 = .ok (.astore 5, 2) := by decide +kernel
theorem dL_turn_25 : decode cL_turn 25 = .ok (.iconst 3, 1) := by decide +kernel
theorem dL_turn_26 : decode cL_turn 26 = .ok (.ireturn, 1) := by decide +kernel
theorem dL_turn_27 : decode cL_turn 27 = .ok (.iconst 0, 1) := by decide +kernel
theorem dL_turn_28 : decode cL_turn 28 = .ok (.ireturn, 1) := by decide +kernel
theorem dL_tails_0 : decode cL_tails 0 = .ok (.aload 5, 2) := by decide +kernel
theorem dL_tails_2 : decode cL_tails 2 = .ok (.iconst 0, 1) := by decide +kernel
theorem dL_tails_3 : decode cL_tails 3 = .ok (.aload_n 0, 1) := by decide +kernel
theorem dL_tails_4 : decode cL_tails 4 = .ok (.iload_n 1, 1) := by decide +kernel
theorem dL_tails_5 : decode cL_tails 5 = .ok (.iload_n 2, 1) := by decide +kernel
theorem dL_tails_6 : decode cL_tails 6 = .ok (.iload_n 3, 1) := by decide +kernel
theorem dL_tails_7 : decode cL_tails 7 = .ok (.iload 4, 2) := by decide +kernel
theorem dL_tails_9 : decode cL_tails 9 = .ok (.invokevirtual 50, 3) := by decide +kernel
theorem dL_tails_12 : decode cL_tails 12 = .ok (.i2l, 1) := by decide +kernel
theorem dL_tails_13 : decode cL_tails 13 = .ok (.lastore, 1) := by decide +kernel
theorem dL_tails_14 : decode cL_tails 14 = .ok (.goto 15, 3) := by decide +kernel
theorem dL_tails_17 : decode cL_tails 17 = .ok (.astore 6, 2) := by decide +kernel
theorem dL_tails_19 : decode cL_tails 19 = .ok (.iconst 1, 1) := by decide +kernel
theorem dL_tails_20 : decode cL_tails 20 = .ok (.ireturn, 1) := by decide +kernel
theorem dL_tails_21 : decode cL_tails 21 = .ok (.astore 6, 2) := by decide +kernel
theorem dL_tails_23 : decode cL_tails 23 = .ok (.iconst 2, 1) := by decide +kernel
theorem dL_tails_24 : decode cL_tails 24 = .ok (.ireturn, 1) := by decide +kernel
theorem dL_tails_25 : decode cL_tails 25 = .ok (.astore 6, 2) := by decide +kernel
theorem dL_tails_27 : decode cL_tails 27 = .ok (.iconst 3, 1) := by decide +kernel
theorem dL_tails_28 : decode cL_tails 28 = .ok (.ireturn, 1) := by decide +kernel
theorem dL_tails_29 : decode cL_tails 29 = .ok (.iconst 0, 1) := by decide +kernel
theorem dL_tails_30 : decode cL_tails 30 = .ok (.ireturn, 1) := by decide +kernel
theorem dL_fact_0 : decode cL_fact 0 = .ok (.aload 4, 2) := by decide +kernel
theorem dL_fact_2 : decode cL_fact 2 = .ok (.iconst 0, 1) := by decide +kernel
theorem dL_fact_3 : decode cL_fact 3 = .ok (.aload_n 0, 1) := by decide +kernel
theorem dL_fact_4 : decode cL_fact 4 = .ok (.iload_n 1, 1) := by decide +kernel
theorem dL_fact_5 : decode cL_fact 5 = .ok (.iload_n 2, 1) := by decide +kernel
theorem dL_fact_6 : decode cL_fact 6 = .ok (.iload_n 3, 1) := by decide +kernel
theorem dL_fact_7 : decode cL_fact 7 = .ok (.invokevirtual 53, 3) := by decide +kernel
theorem dL_fact_10 : decode cL_fact 10 = .ok (.i2l, 1) := by decide +kernel
theorem dL_fact_11 : decode cL_fact 11 = .ok (.lastore, 1) := by decide +kernel
theorem dL_fact_12 : decode cL_fact 12 = .ok (.goto 15, 3) := by decide +kernel
theorem dL_fact_15 : decode cL_fact 15 = .ok (.astore 5, 2) := by decide +kernel
theorem dL_fact_17 : decode cL_fact 17 = .ok (.iconst 1, 1) := by decide +kernel
theorem dL_fact_18 : decode cL_fact 18 = .ok (.ireturn, 1) := by decide +kernel
theorem dL_fact_19 : decode cL_fact 19 = .ok (.astore 5, 2) := by decide +kernel
theorem dL_fact_21 : decode cL_fact 21 = .ok (.iconst 2, 1) := by decide +kernel
theorem dL_fact_22 : decode cL_fact 22 = .ok (.ireturn, 1) := by decide +kernel
theorem dL_fact_23 : decode cL_fact 23 = .ok (.astore 5, 2) := by decide +kernel
theorem dL_fact_25 : decode cL_fact 25 = .ok (.iconst 3, 1) := by decide +kernel
theorem dL_fact_26 : decode cL_fact 26 = .ok (.ireturn, 1) := by decide +kernel
theorem dL_fact_27 : decode cL_fact 27 = .ok (.iconst 0, 1) := by decide +kernel
theorem dL_fact_28 : decode cL_fact 28 = .ok (.ireturn, 1) := by decide +kernel
theorem dL_listFact_0 : decode cL_listFact 0 = .ok (.aload 4, 2) := by decide +kernel
theorem dL_listFact_2 : decode cL_listFact 2 = .ok (.iconst 0, 1) := by decide +kernel
theorem dL_listFact_3 : decode cL_listFact 3 = .ok (.aload_n 0, 1) := by decide +kernel
theorem dL_listFact_4 : decode cL_listFact 4 = .ok (.iload_n 1, 1) := by decide +kernel
theorem dL_listFact_5 : decode cL_listFact 5 = .ok (.iload_n 2, 1) := by decide +kernel
theorem dL_listFact_6 : decode cL_listFact 6 = .ok (.iload_n 3, 1) := by decide +kernel
theorem dL_listFact_7 : decode cL_listFact 7 = .ok (.invokevirtual 56, 3) := by decide +kernel
theorem dL_listFact_10 : decode cL_listFact 10 = .ok (.i2l, 1) := by decide +kernel
theorem dL_listFact_11 : decode cL_listFact 11 = .ok (.lastore, 1) := by decide +kernel
theorem dL_listFact_12 : decode cL_listFact 12 = .ok (.goto 15, 3) := by decide +kernel
theorem dL_listFact_15 : decode cL_listFact 15 = .ok (.astore 5, 2) := by decide +kernel
theorem dL_listFact_17 : decode cL_listFact 17 = .ok (.iconst 1, 1) := by decide +kernel
theorem dL_listFact_18 : decode cL_listFact 18 = .ok (.ireturn, 1) := by decide +kernel
theorem dL_listFact_19 : decode cL_listFact 19 = .ok (.astore 5, 2) := by decide +kernel
theorem dL_listFact_21 : decode cL_listFact 21 = .ok (.iconst 2, 1) := by decide +kernel
theorem dL_listFact_22 : decode cL_listFact 22 = .ok (.ireturn, 1) := by decide +kernel
theorem dL_listFact_23 : decode cL_listFact 23 = .ok (.astore 5, 2) := by decide +kernel
theorem dL_listFact_25 : decode cL_listFact 25 = .ok (.iconst 3, 1) := by decide +kernel
theorem dL_listFact_26 : decode cL_listFact 26 = .ok (.ireturn, 1) := by decide +kernel
theorem dL_listFact_27 : decode cL_listFact 27 = .ok (.iconst 0, 1) := by decide +kernel
theorem dL_listFact_28 : decode cL_listFact 28 = .ok (.ireturn, 1) := by decide +kernel
theorem dL_link_0 : decode cL_link 0 = .ok (.aload_n 3, 1) := by decide +kernel
theorem dL_link_1 : decode cL_link 1 = .ok (.iconst 0, 1) := by decide +kernel
theorem dL_link_2 : decode cL_link 2 = .ok (.aload_n 0, 1) := by decide +kernel
theorem dL_link_3 : decode cL_link 3 = .ok (.iload_n 1, 1) := by decide +kernel
theorem dL_link_4 : decode cL_link 4 = .ok (.iload_n 2, 1) := by decide +kernel
theorem dL_link_5 : decode cL_link 5 = .ok (.invokevirtual 59, 3) := by decide +kernel
theorem dL_link_8 : decode cL_link 8 = .ok (.i2l, 1) := by decide +kernel
theorem dL_link_9 : decode cL_link 9 = .ok (.lastore, 1) := by decide +kernel
theorem dL_link_10 : decode cL_link 10 = .ok (.goto 15, 3) := by decide +kernel
theorem dL_link_13 : decode cL_link 13 = .ok (.astore 4, 2) := by decide +kernel
theorem dL_link_15 : decode cL_link 15 = .ok (.iconst 1, 1) := by decide +kernel
theorem dL_link_16 : decode cL_link 16 = .ok (.ireturn, 1) := by decide +kernel
theorem dL_link_17 : decode cL_link 17 = .ok (.astore 4, 2) := by decide +kernel
theorem dL_link_19 : decode cL_link 19 = .ok (.iconst 2, 1) := by decide +kernel
theorem dL_link_20 : decode cL_link 20 = .ok (.ireturn, 1) := by decide +kernel
theorem dL_link_21 : decode cL_link 21 = .ok (.astore 4, 2) := by decide +kernel
theorem dL_link_23 : decode cL_link 23 = .ok (.iconst 3, 1) := by decide +kernel
theorem dL_link_24 : decode cL_link 24 = .ok (.ireturn, 1) := by decide +kernel
theorem dL_link_25 : decode cL_link 25 = .ok (.iconst 0, 1) := by decide +kernel
theorem dL_link_26 : decode cL_link 26 = .ok (.ireturn, 1) := by decide +kernel
theorem dL_freeze_0 : decode cL_freeze 0 = .ok (.aload_n 3, 1) := by decide +kernel
theorem dL_freeze_1 : decode cL_freeze 1 = .ok (.iconst 0, 1) := by decide +kernel
theorem dL_freeze_2 : decode cL_freeze 2 = .ok (.aload_n 0, 1) := by decide +kernel
theorem dL_freeze_3 : decode cL_freeze 3 = .ok (.iload_n 1, 1) := by decide +kernel
theorem dL_freeze_4 : decode cL_freeze 4 = .ok (.iload_n 2, 1) := by decide +kernel
theorem dL_freeze_5 : decode cL_freeze 5 = .ok (.invokevirtual 62, 3) := by decide +kernel
theorem dL_freeze_8 : decode cL_freeze 8 = .ok (.i2l, 1) := by decide +kernel
theorem dL_freeze_9 : decode cL_freeze 9 = .ok (.lastore, 1) := by decide +kernel
theorem dL_freeze_10 : decode cL_freeze 10 = .ok (.goto 15, 3) := by decide +kernel
theorem dL_freeze_13 : decode cL_freeze 13 = .ok (.astore 4, 2) := by decide +kernel
theorem dL_freeze_15 : decode cL_freeze 15 = .ok (.iconst 1, 1) := by decide +kernel
theorem dL_freeze_16 : decode cL_freeze 16 = .ok (.ireturn, 1) := by decide +kernel
theorem dL_freeze_17 : decode cL_freeze 17 = .ok (.astore 4, 2) := by decide +kernel
theorem dL_freeze_19 : decode cL_freeze 19 = .ok (.iconst 2, 1) := by decide +kernel
theorem dL_freeze_20 : decode cL_freeze 20 = .ok (.ireturn, 1) := by decide +kernel
theorem dL_freeze_21 : decode cL_freeze 21 = .ok (.astore 4, 2) := by decide +kernel
theorem dL_freeze_23 : decode cL_freeze 23 = .ok (.iconst 3, 1) := by decide +kernel
theorem dL_freeze_24 : decode cL_freeze 24 = .ok (.ireturn, 1) := by decide +kernel
theorem dL_freeze_25 : decode cL_freeze 25 = .ok (.iconst 0, 1) := by decide +kernel
theorem dL_freeze_26 : decode cL_freeze 26 = .ok (.ireturn, 1) := by decide +kernel
theorem dL_begin_0 : decode cL_begin 0 = .ok (.aload_n 0, 1) := by decide +kernel
theorem dL_begin_1 : decode cL_begin 1 = .ok (.invokevirtual 65, 3) := by decide +kernel
theorem dL_begin_4 : decode cL_begin 4 = .ok (.goto 6, 3) := by decide +kernel
theorem dL_begin_7 : decode cL_begin 7 = .ok (.astore_n 1, 1) := by decide +kernel
theorem dL_begin_8 : decode cL_begin 8 = .ok (.iconst 1, 1) := by decide +kernel
theorem dL_begin_9 : decode cL_begin 9 = .ok (.ireturn, 1) := by decide +kernel
theorem dL_begin_10 : decode cL_begin 10 = .ok (.iconst 0, 1) := by decide +kernel
theorem dL_begin_11 : decode cL_begin 11 = .ok (.ireturn, 1) := by decide +kernel
theorem dL_end_0 : decode cL_end 0 = .ok (.aload_n 1, 1) := by decide +kernel
theorem dL_end_1 : decode cL_end 1 = .ok (.iconst 0, 1) := by decide +kernel
theorem dL_end_2 : decode cL_end 2 = .ok (.aload_n 0, 1) := by decide +kernel
theorem dL_end_3 : decode cL_end 3 = .ok (.invokevirtual 68, 3) := by decide +kernel
theorem dL_end_6 : decode cL_end 6 = .ok (.i2l, 1) := by decide +kernel
theorem dL_end_7 : decode cL_end 7 = .ok (.lastore, 1) := by decide +kernel
theorem dL_end_8 : decode cL_end 8 = .ok (.goto 6, 3) := by decide +kernel
theorem dL_end_11 : decode cL_end 11 = .ok (.astore_n 2, 1) := by decide +kernel
theorem dL_end_12 : decode cL_end 12 = .ok (.iconst 1, 1) := by decide +kernel
theorem dL_end_13 : decode cL_end 13 = .ok (.ireturn, 1) := by decide +kernel
theorem dL_end_14 : decode cL_end 14 = .ok (.iconst 0, 1) := by decide +kernel
theorem dL_end_15 : decode cL_end 15 = .ok (.ireturn, 1) := by decide +kernel
theorem dL_drop_0 : decode cL_drop 0 = .ok (.aload_n 1, 1) := by decide +kernel
theorem dL_drop_1 : decode cL_drop 1 = .ok (.iconst 0, 1) := by decide +kernel
theorem dL_drop_2 : decode cL_drop 2 = .ok (.aload_n 0, 1) := by decide +kernel
theorem dL_drop_3 : decode cL_drop 3 = .ok (.invokevirtual 71, 3) := by decide +kernel
theorem dL_drop_6 : decode cL_drop 6 = .ok (.i2l, 1) := by decide +kernel
theorem dL_drop_7 : decode cL_drop 7 = .ok (.lastore, 1) := by decide +kernel
theorem dL_drop_8 : decode cL_drop 8 = .ok (.goto 6, 3) := by decide +kernel
theorem dL_drop_11 : decode cL_drop 11 = .ok (.astore_n 2, 1) := by decide +kernel
theorem dL_drop_12 : decode cL_drop 12 = .ok (.iconst 1, 1) := by decide +kernel
theorem dL_drop_13 : decode cL_drop 13 = .ok (.ireturn, 1) := by decide +kernel
theorem dL_drop_14 : decode cL_drop 14 = .ok (.iconst 0, 1) := by decide +kernel
theorem dL_drop_15 : decode cL_drop 15 = .ok (.ireturn, 1) := by decide +kernel
theorem dL_undo_0 : decode cL_undo 0 = .ok (.aload_n 1, 1) := by decide +kernel
theorem dL_undo_1 : decode cL_undo 1 = .ok (.iconst 0, 1) := by decide +kernel
theorem dL_undo_2 : decode cL_undo 2 = .ok (.aload_n 0, 1) := by decide +kernel
theorem dL_undo_3 : decode cL_undo 3 = .ok (.invokevirtual 74, 3) := by decide +kernel
theorem dL_undo_6 : decode cL_undo 6 = .ok (.i2l, 1) := by decide +kernel
theorem dL_undo_7 : decode cL_undo 7 = .ok (.lastore, 1) := by decide +kernel
theorem dL_undo_8 : decode cL_undo 8 = .ok (.goto 6, 3) := by decide +kernel
theorem dL_undo_11 : decode cL_undo 11 = .ok (.astore_n 2, 1) := by decide +kernel
theorem dL_undo_12 : decode cL_undo 12 = .ok (.iconst 1, 1) := by decide +kernel
theorem dL_undo_13 : decode cL_undo 13 = .ok (.ireturn, 1) := by decide +kernel
theorem dL_undo_14 : decode cL_undo 14 = .ok (.iconst 0, 1) := by decide +kernel
theorem dL_undo_15 : decode cL_undo 15 = .ok (.ireturn, 1) := by decide +kernel
theorem dL_shadow_0 : decode cL_shadow 0 = .ok (.aload_n 3, 1) := by decide +kernel
theorem dL_shadow_1 : decode cL_shadow 1 = .ok (.iconst 0, 1) := by decide +kernel
theorem dL_shadow_2 : decode cL_shadow 2 = .ok (.aload_n 0, 1) := by decide +kernel
theorem dL_shadow_3 : decode cL_shadow 3 = .ok (.iload_n 1, 1) := by decide +kernel
theorem dL_shadow_4 : decode cL_shadow 4 = .ok (.iload_n 2, 1) := by decide +kernel
theorem dL_shadow_5 : decode cL_shadow 5 = .ok (.invokevirtual 77, 3) := by decide +kernel
theorem dL_shadow_8 : decode cL_shadow 8 = .ok (.lastore, 1) := by decide +kernel
theorem dL_shadow_9 : decode cL_shadow 9 = .ok (.goto 11, 3) := by decide +kernel
theorem dL_shadow_12 : decode cL_shadow 12 = .ok (.astore 4, 2) := by decide +kernel
theorem dL_shadow_14 : decode cL_shadow 14 = .ok (.iconst 1, 1) := by decide +kernel
theorem dL_shadow_15 : decode cL_shadow 15 = .ok (.ireturn, 1) := by decide +kernel
theorem dL_shadow_16 : decode cL_shadow 16 = .ok (.astore 4, 2) := by decide +kernel
theorem dL_shadow_18 : decode cL_shadow 18 = .ok (.iconst 2, 1) := by decide +kernel
theorem dL_shadow_19 : decode cL_shadow 19 = .ok (.ireturn, 1) := by decide +kernel
theorem dL_shadow_20 : decode cL_shadow 20 = .ok (.iconst 0, 1) := by decide +kernel
theorem dL_shadow_21 : decode cL_shadow 21 = .ok (.ireturn, 1) := by decide +kernel
theorem dL_listShadow_0 : decode cL_listShadow 0 = .ok (.aload_n 3, 1) := by decide +kernel
theorem dL_listShadow_1 : decode cL_listShadow 1 = .ok (.iconst 0, 1) := by decide +kernel
theorem dL_listShadow_2 : decode cL_listShadow 2 = .ok (.aload_n 0, 1) := by decide +kernel
theorem dL_listShadow_3 : decode cL_listShadow 3 = .ok (.iload_n 1, 1) := by decide +kernel
theorem dL_listShadow_4 : decode cL_listShadow 4 = .ok (.iload_n 2, 1) := by decide +kernel
theorem dL_listShadow_5 : decode cL_listShadow 5 = .ok (.invokevirtual 81, 3) := by decide +kernel
theorem dL_listShadow_8 : decode cL_listShadow 8 = .ok (.lastore, 1) := by decide +kernel
theorem dL_listShadow_9 : decode cL_listShadow 9 = .ok (.goto 11, 3) := by decide +kernel
theorem dL_listShadow_12 : decode cL_listShadow 12 = .ok (.astore 4, 2) := by decide +kernel
theorem dL_listShadow_14 : decode cL_listShadow 14 = .ok (.iconst 1, 1) := by decide +kernel
theorem dL_listShadow_15 : decode cL_listShadow 15 = .ok (.ireturn, 1) := by decide +kernel
theorem dL_listShadow_16 : decode cL_listShadow 16 = .ok (.astore 4, 2) := by decide +kernel
theorem dL_listShadow_18 : decode cL_listShadow 18 = .ok (.iconst 2, 1) := by decide +kernel
theorem dL_listShadow_19 : decode cL_listShadow 19 = .ok (.ireturn, 1) := by decide +kernel
theorem dL_listShadow_20 : decode cL_listShadow 20 = .ok (.iconst 0, 1) := by decide +kernel
theorem dL_listShadow_21 : decode cL_listShadow 21 = .ok (.ireturn, 1) := by decide +kernel
theorem dL_where_0 : decode cL_where 0 = .ok (.aload_n 3, 1) := by decide +kernel
theorem dL_where_1 : decode cL_where 1 = .ok (.iconst 0, 1) := by decide +kernel
theorem dL_where_2 : decode cL_where 2 = .ok (.aload_n 0, 1) := by decide +kernel
theorem dL_where_3 : decode cL_where 3 = .ok (.iload_n 1, 1) := by decide +kernel
theorem dL_where_4 : decode cL_where 4 = .ok (.iload_n 2, 1) := by decide +kernel
theorem dL_where_5 : decode cL_where 5 = .ok (.invokevirtual 84, 3) := by decide +kernel
theorem dL_where_8 : decode cL_where 8 = .ok (.i2l, 1) := by decide +kernel
theorem dL_where_9 : decode cL_where 9 = .ok (.lastore, 1) := by decide +kernel
theorem dL_where_10 : decode cL_where 10 = .ok (.goto 11, 3) := by decide +kernel
theorem dL_where_13 : decode cL_where 13 = .ok (.astore 4, 2) := by decide +kernel
theorem dL_where_15 : decode cL_where 15 = .ok (.iconst 1, 1) := by decide +kernel
theorem dL_where_16 : decode cL_where 16 = .ok (.ireturn, 1) := by decide +kernel
theorem dL_where_17 : decode cL_where 17 = .ok (.astore 4, 2) := by decide +kernel
theorem dL_where_19 : decode cL_where 19 = .ok (.iconst 2, 1) := by decide +kernel
theorem dL_where_20 : decode cL_where 20 = .ok (.ireturn, 1) := by decide +kernel
theorem dL_where_21 : decode cL_where 21 = .ok (.iconst 0, 1) := by decide +kernel
theorem dL_where_22 : decode cL_where 22 = .ok (.ireturn, 1) := by decide +kernel
theorem dL_at_0 : decode cL_at 0 = .ok (.aload_n 3, 1) := by decide +kernel
theorem dL_at_1 : decode cL_at 1 = .ok (.iconst 0, 1) := by decide +kernel
theorem dL_at_2 : decode cL_at 2 = .ok (.aload_n 0, 1) := by decide +kernel
theorem dL_at_3 : decode cL_at 3 = .ok (.iload_n 1, 1) := by decide +kernel
theorem dL_at_4 : decode cL_at 4 = .ok (.iload_n 2, 1) := by decide +kernel
theorem dL_at_5 : decode cL_at 5 = .ok (.invokevirtual 87, 3) := by decide +kernel
theorem dL_at_8 : decode cL_at 8 = .ok (.i2l, 1) := by decide +kernel
theorem dL_at_9 : decode cL_at 9 = .ok (.lastore, 1) := by decide +kernel
theorem dL_at_10 : decode cL_at 10 = .ok (.goto 7, 3) := by decide +kernel
theorem dL_at_13 : decode cL_at 13 = .ok (.astore 4, 2) := by decide +kernel
theorem dL_at_15 : decode cL_at 15 = .ok (.iconst 1, 1) := by decide +kernel
theorem dL_at_16 : decode cL_at 16 = .ok (.ireturn, 1) := by decide +kernel
theorem dL_at_17 : decode cL_at 17 = .ok (.iconst 0, 1) := by decide +kernel
theorem dL_at_18 : decode cL_at 18 = .ok (.ireturn, 1) := by decide +kernel
theorem dL_cause_0 : decode cL_cause 0 = .ok (.aload_n 2, 1) := by decide +kernel
theorem dL_cause_1 : decode cL_cause 1 = .ok (.iconst 0, 1) := by decide +kernel
theorem dL_cause_2 : decode cL_cause 2 = .ok (.aload_n 0, 1) := by decide +kernel
theorem dL_cause_3 : decode cL_cause 3 = .ok (.iload_n 1, 1) := by decide +kernel
theorem dL_cause_4 : decode cL_cause 4 = .ok (.invokevirtual 90, 3) := by decide +kernel
theorem dL_cause_7 : decode cL_cause 7 = .ok (.i2l, 1) := by decide +kernel
theorem dL_cause_8 : decode cL_cause 8 = .ok (.lastore, 1) := by decide +kernel
theorem dL_cause_9 : decode cL_cause 9 = .ok (.goto 6, 3) := by decide +kernel
theorem dL_cause_12 : decode cL_cause 12 = .ok (.astore_n 3, 1) := by decide +kernel
theorem dL_cause_13 : decode cL_cause 13 = .ok (.iconst 1, 1) := by decide +kernel
theorem dL_cause_14 : decode cL_cause 14 = .ok (.ireturn, 1) := by decide +kernel
theorem dL_cause_15 : decode cL_cause 15 = .ok (.iconst 0, 1) := by decide +kernel
theorem dL_cause_16 : decode cL_cause 16 = .ok (.ireturn, 1) := by decide +kernel
theorem dL_count_0 : decode cL_count 0 = .ok (.aload_n 2, 1) := by decide +kernel
theorem dL_count_1 : decode cL_count 1 = .ok (.iconst 0, 1) := by decide +kernel
theorem dL_count_2 : decode cL_count 2 = .ok (.aload_n 0, 1) := by decide +kernel
theorem dL_count_3 : decode cL_count 3 = .ok (.iload_n 1, 1) := by decide +kernel
theorem dL_count_4 : decode cL_count 4 = .ok (.invokevirtual 93, 3) := by decide +kernel
theorem dL_count_7 : decode cL_count 7 = .ok (.i2l, 1) := by decide +kernel
theorem dL_count_8 : decode cL_count 8 = .ok (.lastore, 1) := by decide +kernel
theorem dL_count_9 : decode cL_count 9 = .ok (.goto 6, 3) := by decide +kernel
theorem dL_count_12 : decode cL_count 12 = .ok (.astore_n 3, 1) := by decide +kernel
theorem dL_count_13 : decode cL_count 13 = .ok (.iconst 1, 1) := by decide +kernel
theorem dL_count_14 : decode cL_count 14 = .ok (.ireturn, 1) := by decide +kernel
theorem dL_count_15 : decode cL_count 15 = .ok (.iconst 0, 1) := by decide +kernel
theorem dL_count_16 : decode cL_count 16 = .ok (.ireturn, 1) := by decide +kernel
theorem dL_law_0 : decode cL_law 0 = .ok (.new 8, 3) := by decide +kernel
theorem dL_law_3 : decode cL_law 3 = .ok (.dup, 1) := by decide +kernel
theorem dL_law_4 : decode cL_law 4 = .ok (.invokespecial 96, 3) := by decide +kernel
theorem dL_law_7 : decode cL_law 7 = .ok (.astore_n 1, 1) := by decide +kernel
theorem dL_law_8 : decode cL_law 8 = .ok (.new 97, 3) := by decide +kernel
theorem dL_law_11 : decode cL_law 11 = .ok (.dup, 1) := by decide +kernel
theorem dL_law_12 : decode cL_law 12 = .ok (.invokespecial 99, 3) := by decide +kernel
theorem dL_law_15 : decode cL_law 15 = .ok (.astore_n 2, 1) := by decide +kernel
theorem dL_law_16 : decode cL_law 16 = .ok (.iconst 1, 1) := by decide +kernel
theorem dL_law_17 : decode cL_law 17 = .ok (.newarray .long, 2) := by decide +kernel
theorem dL_law_19 : decode cL_law 19 = .ok (.astore_n 3, 1) := by decide +kernel
theorem dL_law_20 : decode cL_law 20 = .ok (.iconst 0, 1) := by decide +kernel
theorem dL_law_21 : decode cL_law 21 = .ok (.istore 4, 2) := by decide +kernel
theorem dL_law_23 : decode cL_law 23 = .ok (.iload 4, 2) := by decide +kernel
theorem dL_law_25 : decode cL_law 25 = .ok (.aload_n 0, 1) := by decide +kernel
theorem dL_law_26 : decode cL_law 26 = .ok (.arraylength, 1) := by decide +kernel
theorem dL_law_27 : decode cL_law 27 = .ok (.iconst 5, 1) := by decide +kernel
theorem dL_law_28 : decode cL_law 28 = .ok (.isub, 1) := by decide +kernel
theorem dL_law_29 : decode cL_law 29 = .ok (.if_icmp .gt 1851, 3) := by decide +kernel
theorem dL_law_32 : decode cL_law 32 = .ok (.aload_n 0, 1) := by decide +kernel
theorem dL_law_33 : decode cL_law 33 = .ok (.iload 4, 2) := by decide +kernel
theorem dL_law_35 : decode cL_law 35 = .ok (.iaload, 1) := by decide +kernel
theorem dL_law_36 : decode cL_law 36 = .ok (.bipush 31, 2) := by decide +kernel
theorem dL_law_38 : decode cL_law 38 = .ok (.iand, 1) := by decide +kernel
theorem dL_law_39 : decode cL_law 39 = .ok (.tableswitch 1835 0 28 #[129, 221, 289, 357, 413, 457, 537, 593, 673, 741, 821, 913, 993, 1073, 1141, 1209, 1233, 1277, 1321, 1365, 1432, 1499, 1567, 1635, 1660, 1685, 1710, 1766, 1822], 129) := by decide +kernel
theorem dL_law_168 : decode cL_law 168 = .ok (.aload_n 1, 1) := by decide +kernel
theorem dL_law_169 : decode cL_law 169 = .ok (.aload_n 0, 1) := by decide +kernel
theorem dL_law_170 : decode cL_law 170 = .ok (.iload 4, 2) := by decide +kernel
theorem dL_law_172 : decode cL_law 172 = .ok (.iconst 1, 1) := by decide +kernel
theorem dL_law_173 : decode cL_law 173 = .ok (.iadd, 1) := by decide +kernel
theorem dL_law_174 : decode cL_law 174 = .ok (.iaload, 1) := by decide +kernel
theorem dL_law_175 : decode cL_law 175 = .ok (.aload_n 0, 1) := by decide +kernel
theorem dL_law_176 : decode cL_law 176 = .ok (.iload 4, 2) := by decide +kernel
theorem dL_law_178 : decode cL_law 178 = .ok (.iconst 2, 1) := by decide +kernel
theorem dL_law_179 : decode cL_law 179 = .ok (.iadd, 1) := by decide +kernel
theorem dL_law_180 : decode cL_law 180 = .ok (.iaload, 1) := by decide +kernel
theorem dL_law_181 : decode cL_law 181 = .ok (.aload_n 0, 1) := by decide +kernel
theorem dL_law_182 : decode cL_law 182 = .ok (.iload 4, 2) := by decide +kernel
theorem dL_law_184 : decode cL_law 184 = .ok (.iconst 3, 1) := by decide +kernel
theorem dL_law_185 : decode cL_law 185 = .ok (.iadd, 1) := by decide +kernel
theorem dL_law_186 : decode cL_law 186 = .ok (.iaload, 1) := by decide +kernel
theorem dL_law_187 : decode cL_law 187 = .ok (.aload_n 0, 1) := by decide +kernel
theorem dL_law_188 : decode cL_law 188 = .ok (.iload 4, 2) := by decide +kernel
theorem dL_law_190 : decode cL_law 190 = .ok (.iconst 4, 1) := by decide +kernel
theorem dL_law_191 : decode cL_law 191 = .ok (.iadd, 1) := by decide +kernel
theorem dL_law_192 : decode cL_law 192 = .ok (.iaload, 1) := by decide +kernel
theorem dL_law_193 : decode cL_law 193 = .ok (.aload_n 3, 1) := by decide +kernel
theorem dL_law_194 : decode cL_law 194 = .ok (.invokestatic 100, 3) := by decide +kernel
theorem dL_law_197 : decode cL_law 197 = .ok (.istore 5, 2) := by decide +kernel
theorem dL_law_199 : decode cL_law 199 = .ok (.aload_n 2, 1) := by decide +kernel
theorem dL_law_200 : decode cL_law 200 = .ok (.aload_n 0, 1) := by decide +kernel
theorem dL_law_201 : decode cL_law 201 = .ok (.iload 4, 2) := by decide +kernel
theorem dL_law_203 : decode cL_law 203 = .ok (.iconst 1, 1) := by decide +kernel
theorem dL_law_204 : decode cL_law 204 = .ok (.iadd, 1) := by decide +kernel
theorem dL_law_205 : decode cL_law 205 = .ok (.iaload, 1) := by decide +kernel
theorem dL_law_206 : decode cL_law 206 = .ok (.aload_n 0, 1) := by decide +kernel
theorem dL_law_207 : decode cL_law 207 = .ok (.iload 4, 2) := by decide +kernel
theorem dL_law_209 : decode cL_law 209 = .ok (.iconst 2, 1) := by decide +kernel
theorem dL_law_210 : decode cL_law 210 = .ok (.iadd, 1) := by decide +kernel
theorem dL_law_211 : decode cL_law 211 = .ok (.iaload, 1) := by decide +kernel
theorem dL_law_212 : decode cL_law 212 = .ok (.aload_n 0, 1) := by decide +kernel
theorem dL_law_213 : decode cL_law 213 = .ok (.iload 4, 2) := by decide +kernel
theorem dL_law_215 : decode cL_law 215 = .ok (.iconst 3, 1) := by decide +kernel
theorem dL_law_216 : decode cL_law 216 = .ok (.iadd, 1) := by decide +kernel
theorem dL_law_217 : decode cL_law 217 = .ok (.iaload, 1) := by decide +kernel
theorem dL_law_218 : decode cL_law 218 = .ok (.aload_n 0, 1) := by decide +kernel
theorem dL_law_219 : decode cL_law 219 = .ok (.iload 4, 2) := by decide +kernel
theorem dL_law_221 : decode cL_law 221 = .ok (.iconst 4, 1) := by decide +kernel
theorem dL_law_222 : decode cL_law 222 = .ok (.iadd, 1) := by decide +kernel
theorem dL_law_223 : decode cL_law 223 = .ok (.iaload, 1) := by decide +kernel
theorem dL_law_224 : decode cL_law 224 = .ok (.invokevirtual 105, 3) := by decide +kernel
theorem dL_law_227 : decode cL_law 227 = .ok (.istore 6, 2) := by decide +kernel
theorem dL_law_229 : decode cL_law 229 = .ok (.aload_n 2, 1) := by decide +kernel
theorem dL_law_230 : decode cL_law 230 = .ok (.invokevirtual 106, 3) := by decide +kernel
theorem dL_law_233 : decode cL_law 233 = .ok (.iload 5, 2) := by decide +kernel
theorem dL_law_235 : decode cL_law 235 = .ok (.if_icmp .eq 5, 3) := by decide +kernel
theorem dL_law_238 : decode cL_law 238 = .ok (.iconst 0, 1) := by decide +kernel
theorem dL_law_239 : decode cL_law 239 = .ok (.ireturn, 1) := by decide +kernel
theorem dL_law_240 : decode cL_law 240 = .ok (.iload 5, 2) := by decide +kernel
theorem dL_law_242 : decode cL_law 242 = .ok (.ifCond .ne 15, 3) := by decide +kernel
theorem dL_law_245 : decode cL_law 245 = .ok (.aload_n 3, 1) := by decide +kernel
theorem dL_law_246 : decode cL_law 246 = .ok (.iconst 0, 1) := by decide +kernel
theorem dL_law_247 : decode cL_law 247 = .ok (.laload, 1) := by decide +kernel
theorem dL_law_248 : decode cL_law 248 = .ok (.iload 6, 2) := by decide +kernel
theorem dL_law_250 : decode cL_law 250 = .ok (.i2l, 1) := by decide +kernel
theorem dL_law_251 : decode cL_law 251 = .ok (.lcmp, 1) := by decide +kernel
theorem dL_law_252 : decode cL_law 252 = .ok (.ifCond .eq 5, 3) := by decide +kernel
theorem dL_law_255 : decode cL_law 255 = .ok (.iconst 0, 1) := by decide +kernel
theorem dL_law_256 : decode cL_law 256 = .ok (.ireturn, 1) := by decide +kernel
theorem dL_law_257 : decode cL_law 257 = .ok (.goto 1617, 3) := by decide +kernel
theorem dL_law_260 : decode cL_law 260 = .ok (.aload_n 1, 1) := by decide +kernel
theorem dL_law_261 : decode cL_law 261 = .ok (.aload_n 0, 1) := by decide +kernel
theorem dL_law_262 : decode cL_law 262 = .ok (.iload 4, 2) := by decide +kernel
theorem dL_law_264 : decode cL_law 264 = .ok (.iconst 1, 1) := by decide +kernel
theorem dL_law_265 : decode cL_law 265 = .ok (.iadd, 1) := by decide +kernel
theorem dL_law_266 : decode cL_law 266 = .ok (.iaload, 1) := by decide +kernel
theorem dL_law_267 : decode cL_law 267 = .ok (.aload_n 0, 1) := by decide +kernel
theorem dL_law_268 : decode cL_law 268 = .ok (.iload 4, 2) := by decide +kernel
theorem dL_law_270 : decode cL_law 270 = .ok (.iconst 2, 1) := by decide +kernel
theorem dL_law_271 : decode cL_law 271 = .ok (.iadd, 1) := by decide +kernel
theorem dL_law_272 : decode cL_law 272 = .ok (.iaload, 1) := by decide +kernel
theorem dL_law_273 : decode cL_law 273 = .ok (.aload_n 3, 1) := by decide +kernel
theorem dL_law_274 : decode cL_law 274 = .ok (.invokestatic 109, 3) := by decide +kernel
theorem dL_law_277 : decode cL_law 277 = .ok (.istore 5, 2) := by decide +kernel
theorem dL_law_279 : decode cL_law 279 = .ok (.aload_n 2, 1) := by decide +kernel
theorem dL_law_280 : decode cL_law 280 = .ok (.aload_n 0, 1) := by decide +kernel
theorem dL_law_281 : decode cL_law 281 = .ok (.iload 4, 2) := by decide +kernel
theorem dL_law_283 : decode cL_law 283 = .ok (.iconst 1, 1) := by decide +kernel
theorem dL_law_284 : decode cL_law 284 = .ok (.iadd, 1) := by decide +kernel
theorem dL_law_285 : decode cL_law 285 = .ok (.iaload, 1) := by decide +kernel
theorem dL_law_286 : decode cL_law 286 = .ok (.aload_n 0, 1) := by decide +kernel
theorem dL_law_287 : decode cL_law 287 = .ok (.iload 4, 2) := by decide +kernel
theorem dL_law_289 : decode cL_law 289 = .ok (.iconst 2, 1) := by decide +kernel
theorem dL_law_290 : decode cL_law 290 = .ok (.iadd, 1) := by decide +kernel
theorem dL_law_291 : decode cL_law 291 = .ok (.iaload, 1) := by decide +kernel
theorem dL_law_292 : decode cL_law 292 = .ok (.invokevirtual 112, 3) := by decide +kernel
theorem dL_law_295 : decode cL_law 295 = .ok (.istore 6, 2) := by decide +kernel
theorem dL_law_297 : decode cL_law 297 = .ok (.aload_n 2, 1) := by decide +kernel
theorem dL_law_298 : decode cL_law 298 = .ok (.invokevirtual 106, 3) := by decide +kernel
theorem dL_law_301 : decode cL_law 301 = .ok (.iload 5, 2) := by decide +kernel
theorem dL_law_303 : decode cL_law 303 = .ok (.if_icmp .eq 5, 3) := by decide +kernel
theorem dL_law_306 : decode cL_law 306 = .ok (.iconst 0, 1) := by decide +kernel
theorem dL_law_307 : decode cL_law 307 = .ok (.ireturn, 1) := by decide +kernel
theorem dL_law_308 : decode cL_law 308 = .ok (.iload 5, 2) := by decide +kernel
theorem dL_law_310 : decode cL_law 310 = .ok (.ifCond .ne 15, 3) := by decide +kernel
theorem dL_law_313 : decode cL_law 313 = .ok (.aload_n 3, 1) := by decide +kernel
theorem dL_law_314 : decode cL_law 314 = .ok (.iconst 0, 1) := by decide +kernel
theorem dL_law_315 : decode cL_law 315 = .ok (.laload, 1) := by decide +kernel
theorem dL_law_316 : decode cL_law 316 = .ok (.iload 6, 2) := by decide +kernel
theorem dL_law_318 : decode cL_law 318 = .ok (.i2l, 1) := by decide +kernel
theorem dL_law_319 : decode cL_law 319 = .ok (.lcmp, 1) := by decide +kernel
theorem dL_law_320 : decode cL_law 320 = .ok (.ifCond .eq 5, 3) := by decide +kernel
theorem dL_law_323 : decode cL_law 323 = .ok (.iconst 0, 1) := by decide +kernel
theorem dL_law_324 : decode cL_law 324 = .ok (.ireturn, 1) := by decide +kernel
theorem dL_law_325 : decode cL_law 325 = .ok (.goto 1549, 3) := by decide +kernel
theorem dL_law_328 : decode cL_law 328 = .ok (.aload_n 1, 1) := by decide +kernel
theorem dL_law_329 : decode cL_law 329 = .ok (.aload_n 0, 1) := by decide +kernel
theorem dL_law_330 : decode cL_law 330 = .ok (.iload 4, 2) := by decide +kernel
theorem dL_law_332 : decode cL_law 332 = .ok (.iconst 1, 1) := by decide +kernel
theorem dL_law_333 : decode cL_law 333 = .ok (.iadd, 1) := by decide +kernel
theorem dL_law_334 : decode cL_law 334 = .ok (.iaload, 1) := by decide +kernel
theorem dL_law_335 : decode cL_law 335 = .ok (.aload_n 0, 1) := by decide +kernel
theorem dL_law_336 : decode cL_law 336 = .ok (.iload 4, 2) := by decide +kernel
theorem dL_law_338 : decode cL_law 338 = .ok (.iconst 2, 1) := by decide +kernel
theorem dL_law_339 : decode cL_law 339 = .ok (.iadd, 1) := by decide +kernel
theorem dL_law_340 : decode cL_law 340 = .ok (.iaload, 1) := by decide +kernel
theorem dL_law_341 : decode cL_law 341 = .ok (.aload_n 3, 1) := by decide +kernel
theorem dL_law_342 : decode cL_law 342 = .ok (.invokestatic 113, 3) := by decide +kernel
theorem dL_law_345 : decode cL_law 345 = .ok (.istore 5, 2) := by decide +kernel
theorem dL_law_347 : decode cL_law 347 = .ok (.aload_n 2, 1) := by decide +kernel
theorem dL_law_348 : decode cL_law 348 = .ok (.aload_n 0, 1) := by decide +kernel
theorem dL_law_349 : decode cL_law 349 = .ok (.iload 4, 2) := by decide +kernel
theorem dL_law_351 : decode cL_law 351 = .ok (.iconst 1, 1) := by decide +kernel
theorem dL_law_352 : decode cL_law 352 = .ok (.iadd, 1) := by decide +kernel
theorem dL_law_353 : decode cL_law 353 = .ok (.iaload, 1) := by decide +kernel
theorem dL_law_354 : decode cL_law 354 = .ok (.aload_n 0, 1) := by decide +kernel
theorem dL_law_355 : decode cL_law 355 = .ok (.iload 4, 2) := by decide +kernel
theorem dL_law_357 : decode cL_law 357 = .ok (.iconst 2, 1) := by decide +kernel
theorem dL_law_358 : decode cL_law 358 = .ok (.iadd, 1) := by decide +kernel
theorem dL_law_359 : decode cL_law 359 = .ok (.iaload, 1) := by decide +kernel
theorem dL_law_360 : decode cL_law 360 = .ok (.invokevirtual 115, 3) := by decide +kernel
theorem dL_law_363 : decode cL_law 363 = .ok (.istore 6, 2) := by decide +kernel
theorem dL_law_365 : decode cL_law 365 = .ok (.aload_n 2, 1) := by decide +kernel
theorem dL_law_366 : decode cL_law 366 = .ok (.invokevirtual 106, 3) := by decide +kernel
theorem dL_law_369 : decode cL_law 369 = .ok (.iload 5, 2) := by decide +kernel
theorem dL_law_371 : decode cL_law 371 = .ok (.if_icmp .eq 5, 3) := by decide +kernel
theorem dL_law_374 : decode cL_law 374 = .ok (.iconst 0, 1) := by decide +kernel
theorem dL_law_375 : decode cL_law 375 = .ok (.ireturn, 1) := by decide +kernel
theorem dL_law_376 : decode cL_law 376 = .ok (.iload 5, 2) := by decide +kernel
theorem dL_law_378 : decode cL_law 378 = .ok (.ifCond .ne 15, 3) := by decide +kernel
theorem dL_law_381 : decode cL_law 381 = .ok (.aload_n 3, 1) := by decide +kernel
theorem dL_law_382 : decode cL_law 382 = .ok (.iconst 0, 1) := by decide +kernel
theorem dL_law_383 : decode cL_law 383 = .ok (.laload, 1) := by decide +kernel
theorem dL_law_384 : decode cL_law 384 = .ok (.iload 6, 2) := by decide +kernel
theorem dL_law_386 : decode cL_law 386 = .ok (.i2l, 1) := by decide +kernel
theorem dL_law_387 : decode cL_law 387 = .ok (.lcmp, 1) := by decide +kernel
theorem dL_law_388 : decode cL_law 388 = .ok (.ifCond .eq 5, 3) := by decide +kernel
theorem dL_law_391 : decode cL_law 391 = .ok (.iconst 0, 1) := by decide +kernel
theorem dL_law_392 : decode cL_law 392 = .ok (.ireturn, 1) := by decide +kernel
theorem dL_law_393 : decode cL_law 393 = .ok (.goto 1481, 3) := by decide +kernel
theorem dL_law_396 : decode cL_law 396 = .ok (.aload_n 1, 1) := by decide +kernel
theorem dL_law_397 : decode cL_law 397 = .ok (.aload_n 0, 1) := by decide +kernel
theorem dL_law_398 : decode cL_law 398 = .ok (.iload 4, 2) := by decide +kernel
theorem dL_law_400 : decode cL_law 400 = .ok (.iconst 1, 1) := by decide +kernel
theorem dL_law_401 : decode cL_law 401 = .ok (.iadd, 1) := by decide +kernel
theorem dL_law_402 : decode cL_law 402 = .ok (.iaload, 1) := by decide +kernel
theorem dL_law_403 : decode cL_law 403 = .ok (.aload_n 3, 1) := by decide +kernel
theorem dL_law_404 : decode cL_law 404 = .ok (.invokestatic 116, 3) := by decide +kernel
theorem dL_law_407 : decode cL_law 407 = .ok (.istore 5, 2) := by decide +kernel
theorem dL_law_409 : decode cL_law 409 = .ok (.aload_n 2, 1) := by decide +kernel
theorem dL_law_410 : decode cL_law 410 = .ok (.aload_n 0, 1) := by decide +kernel
theorem dL_law_411 : decode cL_law 411 = .ok (.iload 4, 2) := by decide +kernel
theorem dL_law_413 : decode cL_law 413 = .ok (.iconst 1, 1) := by decide +kernel
theorem dL_law_414 : decode cL_law 414 = .ok (.iadd, 1) := by decide +kernel
theorem dL_law_415 : decode cL_law 415 = .ok (.iaload, 1) := by decide +kernel
theorem dL_law_416 : decode cL_law 416 = .ok (.invokevirtual 119, 3) := by decide +kernel
theorem dL_law_419 : decode cL_law 419 = .ok (.istore 6, 2) := by decide +kernel
theorem dL_law_421 : decode cL_law 421 = .ok (.aload_n 2, 1) := by decide +kernel
theorem dL_law_422 : decode cL_law 422 = .ok (.invokevirtual 106, 3) := by decide +kernel
theorem dL_law_425 : decode cL_law 425 = .ok (.iload 5, 2) := by decide +kernel
theorem dL_law_427 : decode cL_law 427 = .ok (.if_icmp .eq 5, 3) := by decide +kernel
theorem dL_law_430 : decode cL_law 430 = .ok (.iconst 0, 1) := by decide +kernel
theorem dL_law_431 : decode cL_law 431 = .ok (.ireturn, 1) := by decide +kernel
theorem dL_law_432 : decode cL_law 432 = .ok (.iload 5, 2) := by decide +kernel
theorem dL_law_434 : decode cL_law 434 = .ok (.ifCond .ne 15, 3) := by decide +kernel
theorem dL_law_437 : decode cL_law 437 = .ok (.aload_n 3, 1) := by decide +kernel
theorem dL_law_438 : decode cL_law 438 = .ok (.iconst 0, 1) := by decide +kernel
theorem dL_law_439 : decode cL_law 439 = .ok (.laload, 1) := by decide +kernel
theorem dL_law_440 : decode cL_law 440 = .ok (.iload 6, 2) := by decide +kernel
theorem dL_law_442 : decode cL_law 442 = .ok (.i2l, 1) := by decide +kernel
theorem dL_law_443 : decode cL_law 443 = .ok (.lcmp, 1) := by decide +kernel
theorem dL_law_444 : decode cL_law 444 = .ok (.ifCond .eq 5, 3) := by decide +kernel
theorem dL_law_447 : decode cL_law 447 = .ok (.iconst 0, 1) := by decide +kernel
theorem dL_law_448 : decode cL_law 448 = .ok (.ireturn, 1) := by decide +kernel
theorem dL_law_449 : decode cL_law 449 = .ok (.goto 1425, 3) := by decide +kernel
theorem dL_law_452 : decode cL_law 452 = .ok (.aload_n 1, 1) := by decide +kernel
theorem dL_law_453 : decode cL_law 453 = .ok (.aload_n 3, 1) := by decide +kernel
theorem dL_law_454 : decode cL_law 454 = .ok (.invokestatic 120, 3) := by decide +kernel
theorem dL_law_457 : decode cL_law 457 = .ok (.istore 5, 2) := by decide +kernel
theorem dL_law_459 : decode cL_law 459 = .ok (.aload_n 2, 1) := by decide +kernel
theorem dL_law_460 : decode cL_law 460 = .ok (.invokevirtual 123, 3) := by decide +kernel
theorem dL_law_463 : decode cL_law 463 = .ok (.istore 6, 2) := by decide +kernel
theorem dL_law_465 : decode cL_law 465 = .ok (.aload_n 2, 1) := by decide +kernel
theorem dL_law_466 : decode cL_law 466 = .ok (.invokevirtual 106, 3) := by decide +kernel
theorem dL_law_469 : decode cL_law 469 = .ok (.iload 5, 2) := by decide +kernel
theorem dL_law_471 : decode cL_law 471 = .ok (.if_icmp .eq 5, 3) := by decide +kernel
theorem dL_law_474 : decode cL_law 474 = .ok (.iconst 0, 1) := by decide +kernel
theorem dL_law_475 : decode cL_law 475 = .ok (.ireturn, 1) := by decide +kernel
theorem dL_law_476 : decode cL_law 476 = .ok (.iload 5, 2) := by decide +kernel
theorem dL_law_478 : decode cL_law 478 = .ok (.ifCond .ne 15, 3) := by decide +kernel
theorem dL_law_481 : decode cL_law 481 = .ok (.aload_n 3, 1) := by decide +kernel
theorem dL_law_482 : decode cL_law 482 = .ok (.iconst 0, 1) := by decide +kernel
theorem dL_law_483 : decode cL_law 483 = .ok (.laload, 1) := by decide +kernel
theorem dL_law_484 : decode cL_law 484 = .ok (.iload 6, 2) := by decide +kernel
theorem dL_law_486 : decode cL_law 486 = .ok (.i2l, 1) := by decide +kernel
theorem dL_law_487 : decode cL_law 487 = .ok (.lcmp, 1) := by decide +kernel
theorem dL_law_488 : decode cL_law 488 = .ok (.ifCond .eq 5, 3) := by decide +kernel
theorem dL_law_491 : decode cL_law 491 = .ok (.iconst 0, 1) := by decide +kernel
theorem dL_law_492 : decode cL_law 492 = .ok (.ireturn, 1) := by decide +kernel
theorem dL_law_493 : decode cL_law 493 = .ok (.goto 1381, 3) := by decide +kernel
theorem dL_law_496 : decode cL_law 496 = .ok (.aload_n 1, 1) := by decide +kernel
theorem dL_law_497 : decode cL_law 497 = .ok (.aload_n 0, 1) := by decide +kernel
theorem dL_law_498 : decode cL_law 498 = .ok (.iload 4, 2) := by decide +kernel
theorem dL_law_500 : decode cL_law 500 = .ok (.iconst 1, 1) := by decide +kernel
theorem dL_law_501 : decode cL_law 501 = .ok (.iadd, 1) := by decide +kernel
theorem dL_law_502 : decode cL_law 502 = .ok (.iaload, 1) := by decide +kernel
theorem dL_law_503 : decode cL_law 503 = .ok (.aload_n 0, 1) := by decide +kernel
theorem dL_law_504 : decode cL_law 504 = .ok (.iload 4, 2) := by decide +kernel
theorem dL_law_506 : decode cL_law 506 = .ok (.iconst 2, 1) := by decide +kernel
theorem dL_law_507 : decode cL_law 507 = .ok (.iadd, 1) := by decide +kernel
theorem dL_law_508 : decode cL_law 508 = .ok (.iaload, 1) := by decide +kernel
theorem dL_law_509 : decode cL_law 509 = .ok (.aload_n 0, 1) := by decide +kernel
theorem dL_law_510 : decode cL_law 510 = .ok (.iload 4, 2) := by decide +kernel
theorem dL_law_512 : decode cL_law 512 = .ok (.iconst 3, 1) := by decide +kernel
theorem dL_law_513 : decode cL_law 513 = .ok (.iadd, 1) := by decide +kernel
theorem dL_law_514 : decode cL_law 514 = .ok (.iaload, 1) := by decide +kernel
theorem dL_law_515 : decode cL_law 515 = .ok (.aload_n 3, 1) := by decide +kernel
theorem dL_law_516 : decode cL_law 516 = .ok (.invokestatic 124, 3) := by decide +kernel
theorem dL_law_519 : decode cL_law 519 = .ok (.istore 5, 2) := by decide +kernel
theorem dL_law_521 : decode cL_law 521 = .ok (.aload_n 2, 1) := by decide +kernel
theorem dL_law_522 : decode cL_law 522 = .ok (.aload_n 0, 1) := by decide +kernel
theorem dL_law_523 : decode cL_law 523 = .ok (.iload 4, 2) := by decide +kernel
theorem dL_law_525 : decode cL_law 525 = .ok (.iconst 1, 1) := by decide +kernel
theorem dL_law_526 : decode cL_law 526 = .ok (.iadd, 1) := by decide +kernel
theorem dL_law_527 : decode cL_law 527 = .ok (.iaload, 1) := by decide +kernel
theorem dL_law_528 : decode cL_law 528 = .ok (.aload_n 0, 1) := by decide +kernel
theorem dL_law_529 : decode cL_law 529 = .ok (.iload 4, 2) := by decide +kernel
theorem dL_law_531 : decode cL_law 531 = .ok (.iconst 2, 1) := by decide +kernel
theorem dL_law_532 : decode cL_law 532 = .ok (.iadd, 1) := by decide +kernel
theorem dL_law_533 : decode cL_law 533 = .ok (.iaload, 1) := by decide +kernel
theorem dL_law_534 : decode cL_law 534 = .ok (.aload_n 0, 1) := by decide +kernel
theorem dL_law_535 : decode cL_law 535 = .ok (.iload 4, 2) := by decide +kernel
theorem dL_law_537 : decode cL_law 537 = .ok (.iconst 3, 1) := by decide +kernel
theorem dL_law_538 : decode cL_law 538 = .ok (.iadd, 1) := by decide +kernel
theorem dL_law_539 : decode cL_law 539 = .ok (.iaload, 1) := by decide +kernel
theorem dL_law_540 : decode cL_law 540 = .ok (.invokevirtual 127, 3) := by decide +kernel
theorem dL_law_543 : decode cL_law 543 = .ok (.istore 6, 2) := by decide +kernel
theorem dL_law_545 : decode cL_law 545 = .ok (.aload_n 2, 1) := by decide +kernel
theorem dL_law_546 : decode cL_law 546 = .ok (.invokevirtual 106, 3) := by decide +kernel
theorem dL_law_549 : decode cL_law 549 = .ok (.iload 5, 2) := by decide +kernel
theorem dL_law_551 : decode cL_law 551 = .ok (.if_icmp .eq 5, 3) := by decide +kernel
theorem dL_law_554 : decode cL_law 554 = .ok (.iconst 0, 1) := by decide +kernel
theorem dL_law_555 : decode cL_law 555 = .ok (.ireturn, 1) := by decide +kernel
theorem dL_law_556 : decode cL_law 556 = .ok (.iload 5, 2) := by decide +kernel
theorem dL_law_558 : decode cL_law 558 = .ok (.ifCond .ne 15, 3) := by decide +kernel
theorem dL_law_561 : decode cL_law 561 = .ok (.aload_n 3, 1) := by decide +kernel
theorem dL_law_562 : decode cL_law 562 = .ok (.iconst 0, 1) := by decide +kernel
theorem dL_law_563 : decode cL_law 563 = .ok (.laload, 1) := by decide +kernel
theorem dL_law_564 : decode cL_law 564 = .ok (.iload 6, 2) := by decide +kernel
theorem dL_law_566 : decode cL_law 566 = .ok (.i2l, 1) := by decide +kernel
theorem dL_law_567 : decode cL_law 567 = .ok (.lcmp, 1) := by decide +kernel
theorem dL_law_568 : decode cL_law 568 = .ok (.ifCond .eq 5, 3) := by decide +kernel
theorem dL_law_571 : decode cL_law 571 = .ok (.iconst 0, 1) := by decide +kernel
theorem dL_law_572 : decode cL_law 572 = .ok (.ireturn, 1) := by decide +kernel
theorem dL_law_573 : decode cL_law 573 = .ok (.goto 1301, 3) := by decide +kernel
theorem dL_law_576 : decode cL_law 576 = .ok (.aload_n 1, 1) := by decide +kernel
theorem dL_law_577 : decode cL_law 577 = .ok (.aload_n 0, 1) := by decide +kernel
theorem dL_law_578 : decode cL_law 578 = .ok (.iload 4, 2) := by decide +kernel
theorem dL_law_580 : decode cL_law 580 = .ok (.iconst 1, 1) := by decide +kernel
theorem dL_law_581 : decode cL_law 581 = .ok (.iadd, 1) := by decide +kernel
theorem dL_law_582 : decode cL_law 582 = .ok (.iaload, 1) := by decide +kernel
theorem dL_law_583 : decode cL_law 583 = .ok (.aload_n 3, 1) := by decide +kernel
theorem dL_law_584 : decode cL_law 584 = .ok (.invokestatic 128, 3) := by decide +kernel
theorem dL_law_587 : decode cL_law 587 = .ok (.istore 5, 2) := by decide +kernel
theorem dL_law_589 : decode cL_law 589 = .ok (.aload_n 2, 1) := by decide +kernel
theorem dL_law_590 : decode cL_law 590 = .ok (.aload_n 0, 1) := by decide +kernel
theorem dL_law_591 : decode cL_law 591 = .ok (.iload 4, 2) := by decide +kernel
theorem dL_law_593 : decode cL_law 593 = .ok (.iconst 1, 1) := by decide +kernel
theorem dL_law_594 : decode cL_law 594 = .ok (.iadd, 1) := by decide +kernel
theorem dL_law_595 : decode cL_law 595 = .ok (.iaload, 1) := by decide +kernel
theorem dL_law_596 : decode cL_law 596 = .ok (.invokevirtual 130, 3) := by decide +kernel
theorem dL_law_599 : decode cL_law 599 = .ok (.istore 6, 2) := by decide +kernel
theorem dL_law_601 : decode cL_law 601 = .ok (.aload_n 2, 1) := by decide +kernel
theorem dL_law_602 : decode cL_law 602 = .ok (.invokevirtual 106, 3) := by decide +kernel
theorem dL_law_605 : decode cL_law 605 = .ok (.iload 5, 2) := by decide +kernel
theorem dL_law_607 : decode cL_law 607 = .ok (.if_icmp .eq 5, 3) := by decide +kernel
theorem dL_law_610 : decode cL_law 610 = .ok (.iconst 0, 1) := by decide +kernel
theorem dL_law_611 : decode cL_law 611 = .ok (.ireturn, 1) := by decide +kernel
theorem dL_law_612 : decode cL_law 612 = .ok (.iload 5, 2) := by decide +kernel
theorem dL_law_614 : decode cL_law 614 = .ok (.ifCond .ne 15, 3) := by decide +kernel
theorem dL_law_617 : decode cL_law 617 = .ok (.aload_n 3, 1) := by decide +kernel
theorem dL_law_618 : decode cL_law 618 = .ok (.iconst 0, 1) := by decide +kernel
theorem dL_law_619 : decode cL_law 619 = .ok (.laload, 1) := by decide +kernel
theorem dL_law_620 : decode cL_law 620 = .ok (.iload 6, 2) := by decide +kernel
theorem dL_law_622 : decode cL_law 622 = .ok (.i2l, 1) := by decide +kernel
theorem dL_law_623 : decode cL_law 623 = .ok (.lcmp, 1) := by decide +kernel
theorem dL_law_624 : decode cL_law 624 = .ok (.ifCond .eq 5, 3) := by decide +kernel
theorem dL_law_627 : decode cL_law 627 = .ok (.iconst 0, 1) := by decide +kernel
theorem dL_law_628 : decode cL_law 628 = .ok (.ireturn, 1) := by decide +kernel
theorem dL_law_629 : decode cL_law 629 = .ok (.goto 1245, 3) := by decide +kernel
theorem dL_law_632 : decode cL_law 632 = .ok (.aload_n 1, 1) := by decide +kernel
theorem dL_law_633 : decode cL_law 633 = .ok (.aload_n 0, 1) := by decide +kernel
theorem dL_law_634 : decode cL_law 634 = .ok (.iload 4, 2) := by decide +kernel
theorem dL_law_636 : decode cL_law 636 = .ok (.iconst 1, 1) := by decide +kernel
theorem dL_law_637 : decode cL_law 637 = .ok (.iadd, 1) := by decide +kernel
theorem dL_law_638 : decode cL_law 638 = .ok (.iaload, 1) := by decide +kernel
theorem dL_law_639 : decode cL_law 639 = .ok (.aload_n 0, 1) := by decide +kernel
theorem dL_law_640 : decode cL_law 640 = .ok (.iload 4, 2) := by decide +kernel
theorem dL_law_642 : decode cL_law 642 = .ok (.iconst 2, 1) := by decide +kernel
theorem dL_law_643 : decode cL_law 643 = .ok (.iadd, 1) := by decide +kernel
theorem dL_law_644 : decode cL_law 644 = .ok (.iaload, 1) := by decide +kernel
theorem dL_law_645 : decode cL_law 645 = .ok (.aload_n 0, 1) := by decide +kernel
theorem dL_law_646 : decode cL_law 646 = .ok (.iload 4, 2) := by decide +kernel
theorem dL_law_648 : decode cL_law 648 = .ok (.iconst 3, 1) := by decide +kernel
theorem dL_law_649 : decode cL_law 649 = .ok (.iadd, 1) := by decide +kernel
theorem dL_law_650 : decode cL_law 650 = .ok (.iaload, 1) := by decide +kernel
theorem dL_law_651 : decode cL_law 651 = .ok (.aload_n 3, 1) := by decide +kernel
theorem dL_law_652 : decode cL_law 652 = .ok (.invokestatic 131, 3) := by decide +kernel
theorem dL_law_655 : decode cL_law 655 = .ok (.istore 5, 2) := by decide +kernel
theorem dL_law_657 : decode cL_law 657 = .ok (.aload_n 2, 1) := by decide +kernel
theorem dL_law_658 : decode cL_law 658 = .ok (.aload_n 0, 1) := by decide +kernel
theorem dL_law_659 : decode cL_law 659 = .ok (.iload 4, 2) := by decide +kernel
theorem dL_law_661 : decode cL_law 661 = .ok (.iconst 1, 1) := by decide +kernel
theorem dL_law_662 : decode cL_law 662 = .ok (.iadd, 1) := by decide +kernel
theorem dL_law_663 : decode cL_law 663 = .ok (.iaload, 1) := by decide +kernel
theorem dL_law_664 : decode cL_law 664 = .ok (.aload_n 0, 1) := by decide +kernel
theorem dL_law_665 : decode cL_law 665 = .ok (.iload 4, 2) := by decide +kernel
theorem dL_law_667 : decode cL_law 667 = .ok (.iconst 2, 1) := by decide +kernel
theorem dL_law_668 : decode cL_law 668 = .ok (.iadd, 1) := by decide +kernel
theorem dL_law_669 : decode cL_law 669 = .ok (.iaload, 1) := by decide +kernel
theorem dL_law_670 : decode cL_law 670 = .ok (.aload_n 0, 1) := by decide +kernel
theorem dL_law_671 : decode cL_law 671 = .ok (.iload 4, 2) := by decide +kernel
theorem dL_law_673 : decode cL_law 673 = .ok (.iconst 3, 1) := by decide +kernel
theorem dL_law_674 : decode cL_law 674 = .ok (.iadd, 1) := by decide +kernel
theorem dL_law_675 : decode cL_law 675 = .ok (.iaload, 1) := by decide +kernel
theorem dL_law_676 : decode cL_law 676 = .ok (.invokevirtual 133, 3) := by decide +kernel
theorem dL_law_679 : decode cL_law 679 = .ok (.istore 6, 2) := by decide +kernel
theorem dL_law_681 : decode cL_law 681 = .ok (.aload_n 2, 1) := by decide +kernel
theorem dL_law_682 : decode cL_law 682 = .ok (.invokevirtual 106, 3) := by decide +kernel
theorem dL_law_685 : decode cL_law 685 = .ok (.iload 5, 2) := by decide +kernel
theorem dL_law_687 : decode cL_law 687 = .ok (.if_icmp .eq 5, 3) := by decide +kernel
theorem dL_law_690 : decode cL_law 690 = .ok (.iconst 0, 1) := by decide +kernel
theorem dL_law_691 : decode cL_law 691 = .ok (.ireturn, 1) := by decide +kernel
theorem dL_law_692 : decode cL_law 692 = .ok (.iload 5, 2) := by decide +kernel
theorem dL_law_694 : decode cL_law 694 = .ok (.ifCond .ne 15, 3) := by decide +kernel
theorem dL_law_697 : decode cL_law 697 = .ok (.aload_n 3, 1) := by decide +kernel
theorem dL_law_698 : decode cL_law 698 = .ok (.iconst 0, 1) := by decide +kernel
theorem dL_law_699 : decode cL_law 699 = .ok (.laload, 1) := by decide +kernel
theorem dL_law_700 : decode cL_law 700 = .ok (.iload 6, 2) := by decide +kernel
theorem dL_law_702 : decode cL_law 702 = .ok (.i2l, 1) := by decide +kernel
theorem dL_law_703 : decode cL_law 703 = .ok (.lcmp, 1) := by decide +kernel
theorem dL_law_704 : decode cL_law 704 = .ok (.ifCond .eq 5, 3) := by decide +kernel
theorem dL_law_707 : decode cL_law 707 = .ok (.iconst 0, 1) := by decide +kernel
theorem dL_law_708 : decode cL_law 708 = .ok (.ireturn, 1) := by decide +kernel
theorem dL_law_709 : decode cL_law 709 = .ok (.goto 1165, 3) := by decide +kernel
theorem dL_law_712 : decode cL_law 712 = .ok (.aload_n 1, 1) := by decide +kernel
theorem dL_law_713 : decode cL_law 713 = .ok (.aload_n 0, 1) := by decide +kernel
theorem dL_law_714 : decode cL_law 714 = .ok (.iload 4, 2) := by decide +kernel
theorem dL_law_716 : decode cL_law 716 = .ok (.iconst 1, 1) := by decide +kernel
theorem dL_law_717 : decode cL_law 717 = .ok (.iadd, 1) := by decide +kernel
theorem dL_law_718 : decode cL_law 718 = .ok (.iaload, 1) := by decide +kernel
theorem dL_law_719 : decode cL_law 719 = .ok (.aload_n 0, 1) := by decide +kernel
theorem dL_law_720 : decode cL_law 720 = .ok (.iload 4, 2) := by decide +kernel
theorem dL_law_722 : decode cL_law 722 = .ok (.iconst 2, 1) := by decide +kernel
theorem dL_law_723 : decode cL_law 723 = .ok (.iadd, 1) := by decide +kernel
theorem dL_law_724 : decode cL_law 724 = .ok (.iaload, 1) := by decide +kernel
theorem dL_law_725 : decode cL_law 725 = .ok (.aload_n 3, 1) := by decide +kernel
theorem dL_law_726 : decode cL_law 726 = .ok (.invokestatic 134, 3) := by decide +kernel
theorem dL_law_729 : decode cL_law 729 = .ok (.istore 5, 2) := by decide +kernel
theorem dL_law_731 : decode cL_law 731 = .ok (.aload_n 2, 1) := by decide +kernel
theorem dL_law_732 : decode cL_law 732 = .ok (.aload_n 0, 1) := by decide +kernel
theorem dL_law_733 : decode cL_law 733 = .ok (.iload 4, 2) := by decide +kernel
theorem dL_law_735 : decode cL_law 735 = .ok (.iconst 1, 1) := by decide +kernel
theorem dL_law_736 : decode cL_law 736 = .ok (.iadd, 1) := by decide +kernel
theorem dL_law_737 : decode cL_law 737 = .ok (.iaload, 1) := by decide +kernel
theorem dL_law_738 : decode cL_law 738 = .ok (.aload_n 0, 1) := by decide +kernel
theorem dL_law_739 : decode cL_law 739 = .ok (.iload 4, 2) := by decide +kernel
theorem dL_law_741 : decode cL_law 741 = .ok (.iconst 2, 1) := by decide +kernel
theorem dL_law_742 : decode cL_law 742 = .ok (.iadd, 1) := by decide +kernel
theorem dL_law_743 : decode cL_law 743 = .ok (.iaload, 1) := by decide +kernel
theorem dL_law_744 : decode cL_law 744 = .ok (.invokevirtual 136, 3) := by decide +kernel
theorem dL_law_747 : decode cL_law 747 = .ok (.istore 6, 2) := by decide +kernel
theorem dL_law_749 : decode cL_law 749 = .ok (.aload_n 2, 1) := by decide +kernel
theorem dL_law_750 : decode cL_law 750 = .ok (.invokevirtual 106, 3) := by decide +kernel
theorem dL_law_753 : decode cL_law 753 = .ok (.iload 5, 2) := by decide +kernel
theorem dL_law_755 : decode cL_law 755 = .ok (.if_icmp .eq 5, 3) := by decide +kernel
theorem dL_law_758 : decode cL_law 758 = .ok (.iconst 0, 1) := by decide +kernel
theorem dL_law_759 : decode cL_law 759 = .ok (.ireturn, 1) := by decide +kernel
theorem dL_law_760 : decode cL_law 760 = .ok (.iload 5, 2) := by decide +kernel
theorem dL_law_762 : decode cL_law 762 = .ok (.ifCond .ne 15, 3) := by decide +kernel
theorem dL_law_765 : decode cL_law 765 = .ok (.aload_n 3, 1) := by decide +kernel
theorem dL_law_766 : decode cL_law 766 = .ok (.iconst 0, 1) := by decide +kernel
theorem dL_law_767 : decode cL_law 767 = .ok (.laload, 1) := by decide +kernel
theorem dL_law_768 : decode cL_law 768 = .ok (.iload 6, 2) := by decide +kernel
theorem dL_law_770 : decode cL_law 770 = .ok (.i2l, 1) := by decide +kernel
theorem dL_law_771 : decode cL_law 771 = .ok (.lcmp, 1) := by decide +kernel
theorem dL_law_772 : decode cL_law 772 = .ok (.ifCond .eq 5, 3) := by decide +kernel
theorem dL_law_775 : decode cL_law 775 = .ok (.iconst 0, 1) := by decide +kernel
theorem dL_law_776 : decode cL_law 776 = .ok (.ireturn, 1) := by decide +kernel
theorem dL_law_777 : decode cL_law 777 = .ok (.goto 1097, 3) := by decide +kernel
theorem dL_law_780 : decode cL_law 780 = .ok (.aload_n 1, 1) := by decide +kernel
theorem dL_law_781 : decode cL_law 781 = .ok (.aload_n 0, 1) := by decide +kernel
theorem dL_law_782 : decode cL_law 782 = .ok (.iload 4, 2) := by decide +kernel
theorem dL_law_784 : decode cL_law 784 = .ok (.iconst 1, 1) := by decide +kernel
theorem dL_law_785 : decode cL_law 785 = .ok (.iadd, 1) := by decide +kernel
theorem dL_law_786 : decode cL_law 786 = .ok (.iaload, 1) := by decide +kernel
theorem dL_law_787 : decode cL_law 787 = .ok (.aload_n 0, 1) := by decide +kernel
theorem dL_law_788 : decode cL_law 788 = .ok (.iload 4, 2) := by decide +kernel
theorem dL_law_790 : decode cL_law 790 = .ok (.iconst 2, 1) := by decide +kernel
theorem dL_law_791 : decode cL_law 791 = .ok (.iadd, 1) := by decide +kernel
theorem dL_law_792 : decode cL_law 792 = .ok (.iaload, 1) := by decide +kernel
theorem dL_law_793 : decode cL_law 793 = .ok (.aload_n 0, 1) := by decide +kernel
theorem dL_law_794 : decode cL_law 794 = .ok (.iload 4, 2) := by decide +kernel
theorem dL_law_796 : decode cL_law 796 = .ok (.iconst 3, 1) := by decide +kernel
theorem dL_law_797 : decode cL_law 797 = .ok (.iadd, 1) := by decide +kernel
theorem dL_law_798 : decode cL_law 798 = .ok (.iaload, 1) := by decide +kernel
theorem dL_law_799 : decode cL_law 799 = .ok (.aload_n 3, 1) := by decide +kernel
theorem dL_law_800 : decode cL_law 800 = .ok (.invokestatic 137, 3) := by decide +kernel
theorem dL_law_803 : decode cL_law 803 = .ok (.istore 5, 2) := by decide +kernel
theorem dL_law_805 : decode cL_law 805 = .ok (.aload_n 2, 1) := by decide +kernel
theorem dL_law_806 : decode cL_law 806 = .ok (.aload_n 0, 1) := by decide +kernel
theorem dL_law_807 : decode cL_law 807 = .ok (.iload 4, 2) := by decide +kernel
theorem dL_law_809 : decode cL_law 809 = .ok (.iconst 1, 1) := by decide +kernel
theorem dL_law_810 : decode cL_law 810 = .ok (.iadd, 1) := by decide +kernel
theorem dL_law_811 : decode cL_law 811 = .ok (.iaload, 1) := by decide +kernel
theorem dL_law_812 : decode cL_law 812 = .ok (.aload_n 0, 1) := by decide +kernel
theorem dL_law_813 : decode cL_law 813 = .ok (.iload 4, 2) := by decide +kernel
theorem dL_law_815 : decode cL_law 815 = .ok (.iconst 2, 1) := by decide +kernel
theorem dL_law_816 : decode cL_law 816 = .ok (.iadd, 1) := by decide +kernel
theorem dL_law_817 : decode cL_law 817 = .ok (.iaload, 1) := by decide +kernel
theorem dL_law_818 : decode cL_law 818 = .ok (.aload_n 0, 1) := by decide +kernel
theorem dL_law_819 : decode cL_law 819 = .ok (.iload 4, 2) := by decide +kernel
theorem dL_law_821 : decode cL_law 821 = .ok (.iconst 3, 1) := by decide +kernel
theorem dL_law_822 : decode cL_law 822 = .ok (.iadd, 1) := by decide +kernel
theorem dL_law_823 : decode cL_law 823 = .ok (.iaload, 1) := by decide +kernel
theorem dL_law_824 : decode cL_law 824 = .ok (.invokevirtual 139, 3) := by decide +kernel
theorem dL_law_827 : decode cL_law 827 = .ok (.istore 6, 2) := by decide +kernel
theorem dL_law_829 : decode cL_law 829 = .ok (.aload_n 2, 1) := by decide +kernel
theorem dL_law_830 : decode cL_law 830 = .ok (.invokevirtual 106, 3) := by decide +kernel
theorem dL_law_833 : decode cL_law 833 = .ok (.iload 5, 2) := by decide +kernel
theorem dL_law_835 : decode cL_law 835 = .ok (.if_icmp .eq 5, 3) := by decide +kernel
theorem dL_law_838 : decode cL_law 838 = .ok (.iconst 0, 1) := by decide +kernel
theorem dL_law_839 : decode cL_law 839 = .ok (.ireturn, 1) := by decide +kernel
theorem dL_law_840 : decode cL_law 840 = .ok (.iload 5, 2) := by decide +kernel
theorem dL_law_842 : decode cL_law 842 = .ok (.ifCond .ne 15, 3) := by decide +kernel
theorem dL_law_845 : decode cL_law 845 = .ok (.aload_n 3, 1) := by decide +kernel
theorem dL_law_846 : decode cL_law 846 = .ok (.iconst 0, 1) := by decide +kernel
theorem dL_law_847 : decode cL_law 847 = .ok (.laload, 1) := by decide +kernel
theorem dL_law_848 : decode cL_law 848 = .ok (.iload 6, 2) := by decide +kernel
theorem dL_law_850 : decode cL_law 850 = .ok (.i2l, 1) := by decide +kernel
theorem dL_law_851 : decode cL_law 851 = .ok (.lcmp, 1) := by decide +kernel
theorem dL_law_852 : decode cL_law 852 = .ok (.ifCond .eq 5, 3) := by decide +kernel
theorem dL_law_855 : decode cL_law 855 = .ok (.iconst 0, 1) := by decide +kernel
theorem dL_law_856 : decode cL_law 856 = .ok (.ireturn, 1) := by decide +kernel
theorem dL_law_857 : decode cL_law 857 = .ok (.goto 1017, 3) := by decide +kernel
theorem dL_law_860 : decode cL_law 860 = .ok (.aload_n 1, 1) := by decide +kernel
theorem dL_law_861 : decode cL_law 861 = .ok (.aload_n 0, 1) := by decide +kernel
theorem dL_law_862 : decode cL_law 862 = .ok (.iload 4, 2) := by decide +kernel
theorem dL_law_864 : decode cL_law 864 = .ok (.iconst 1, 1) := by decide +kernel
theorem dL_law_865 : decode cL_law 865 = .ok (.iadd, 1) := by decide +kernel
theorem dL_law_866 : decode cL_law 866 = .ok (.iaload, 1) := by decide +kernel
theorem dL_law_867 : decode cL_law 867 = .ok (.aload_n 0, 1) := by decide +kernel
theorem dL_law_868 : decode cL_law 868 = .ok (.iload 4, 2) := by decide +kernel
theorem dL_law_870 : decode cL_law 870 = .ok (.iconst 2, 1) := by decide +kernel
theorem dL_law_871 : decode cL_law 871 = .ok (.iadd, 1) := by decide +kernel
theorem dL_law_872 : decode cL_law 872 = .ok (.iaload, 1) := by decide +kernel
theorem dL_law_873 : decode cL_law 873 = .ok (.aload_n 0, 1) := by decide +kernel
theorem dL_law_874 : decode cL_law 874 = .ok (.iload 4, 2) := by decide +kernel
theorem dL_law_876 : decode cL_law 876 = .ok (.iconst 3, 1) := by decide +kernel
theorem dL_law_877 : decode cL_law 877 = .ok (.iadd, 1) := by decide +kernel
theorem dL_law_878 : decode cL_law 878 = .ok (.iaload, 1) := by decide +kernel
theorem dL_law_879 : decode cL_law 879 = .ok (.aload_n 0, 1) := by decide +kernel
theorem dL_law_880 : decode cL_law 880 = .ok (.iload 4, 2) := by decide +kernel
theorem dL_law_882 : decode cL_law 882 = .ok (.iconst 4, 1) := by decide +kernel
theorem dL_law_883 : decode cL_law 883 = .ok (.iadd, 1) := by decide +kernel
theorem dL_law_884 : decode cL_law 884 = .ok (.iaload, 1) := by decide +kernel
theorem dL_law_885 : decode cL_law 885 = .ok (.aload_n 3, 1) := by decide +kernel
theorem dL_law_886 : decode cL_law 886 = .ok (.invokestatic 140, 3) := by decide +kernel
theorem dL_law_889 : decode cL_law 889 = .ok (.istore 5, 2) := by decide +kernel
theorem dL_law_891 : decode cL_law 891 = .ok (.aload_n 2, 1) := by decide +kernel
theorem dL_law_892 : decode cL_law 892 = .ok (.aload_n 0, 1) := by decide +kernel
theorem dL_law_893 : decode cL_law 893 = .ok (.iload 4, 2) := by decide +kernel
theorem dL_law_895 : decode cL_law 895 = .ok (.iconst 1, 1) := by decide +kernel
theorem dL_law_896 : decode cL_law 896 = .ok (.iadd, 1) := by decide +kernel
theorem dL_law_897 : decode cL_law 897 = .ok (.iaload, 1) := by decide +kernel
theorem dL_law_898 : decode cL_law 898 = .ok (.aload_n 0, 1) := by decide +kernel
theorem dL_law_899 : decode cL_law 899 = .ok (.iload 4, 2) := by decide +kernel
theorem dL_law_901 : decode cL_law 901 = .ok (.iconst 2, 1) := by decide +kernel
theorem dL_law_902 : decode cL_law 902 = .ok (.iadd, 1) := by decide +kernel
theorem dL_law_903 : decode cL_law 903 = .ok (.iaload, 1) := by decide +kernel
theorem dL_law_904 : decode cL_law 904 = .ok (.aload_n 0, 1) := by decide +kernel
theorem dL_law_905 : decode cL_law 905 = .ok (.iload 4, 2) := by decide +kernel
theorem dL_law_907 : decode cL_law 907 = .ok (.iconst 3, 1) := by decide +kernel
theorem dL_law_908 : decode cL_law 908 = .ok (.iadd, 1) := by decide +kernel
theorem dL_law_909 : decode cL_law 909 = .ok (.iaload, 1) := by decide +kernel
theorem dL_law_910 : decode cL_law 910 = .ok (.aload_n 0, 1) := by decide +kernel
theorem dL_law_911 : decode cL_law 911 = .ok (.iload 4, 2) := by decide +kernel
theorem dL_law_913 : decode cL_law 913 = .ok (.iconst 4, 1) := by decide +kernel
theorem dL_law_914 : decode cL_law 914 = .ok (.iadd, 1) := by decide +kernel
theorem dL_law_915 : decode cL_law 915 = .ok (.iaload, 1) := by decide +kernel
theorem dL_law_916 : decode cL_law 916 = .ok (.invokevirtual 142, 3) := by decide +kernel
theorem dL_law_919 : decode cL_law 919 = .ok (.istore 6, 2) := by decide +kernel
theorem dL_law_921 : decode cL_law 921 = .ok (.aload_n 2, 1) := by decide +kernel
theorem dL_law_922 : decode cL_law 922 = .ok (.invokevirtual 106, 3) := by decide +kernel
theorem dL_law_925 : decode cL_law 925 = .ok (.iload 5, 2) := by decide +kernel
theorem dL_law_927 : decode cL_law 927 = .ok (.if_icmp .eq 5, 3) := by decide +kernel
theorem dL_law_930 : decode cL_law 930 = .ok (.iconst 0, 1) := by decide +kernel
theorem dL_law_931 : decode cL_law 931 = .ok (.ireturn, 1) := by decide +kernel
theorem dL_law_932 : decode cL_law 932 = .ok (.iload 5, 2) := by decide +kernel
theorem dL_law_934 : decode cL_law 934 = .ok (.ifCond .ne 15, 3) := by decide +kernel
theorem dL_law_937 : decode cL_law 937 = .ok (.aload_n 3, 1) := by decide +kernel
theorem dL_law_938 : decode cL_law 938 = .ok (.iconst 0, 1) := by decide +kernel
theorem dL_law_939 : decode cL_law 939 = .ok (.laload, 1) := by decide +kernel
theorem dL_law_940 : decode cL_law 940 = .ok (.iload 6, 2) := by decide +kernel
theorem dL_law_942 : decode cL_law 942 = .ok (.i2l, 1) := by decide +kernel
theorem dL_law_943 : decode cL_law 943 = .ok (.lcmp, 1) := by decide +kernel
theorem dL_law_944 : decode cL_law 944 = .ok (.ifCond .eq 5, 3) := by decide +kernel
theorem dL_law_947 : decode cL_law 947 = .ok (.iconst 0, 1) := by decide +kernel
theorem dL_law_948 : decode cL_law 948 = .ok (.ireturn, 1) := by decide +kernel
theorem dL_law_949 : decode cL_law 949 = .ok (.goto 925, 3) := by decide +kernel
theorem dL_law_952 : decode cL_law 952 = .ok (.aload_n 1, 1) := by decide +kernel
theorem dL_law_953 : decode cL_law 953 = .ok (.aload_n 0, 1) := by decide +kernel
theorem dL_law_954 : decode cL_law 954 = .ok (.iload 4, 2) := by decide +kernel
theorem dL_law_956 : decode cL_law 956 = .ok (.iconst 1, 1) := by decide +kernel
theorem dL_law_957 : decode cL_law 957 = .ok (.iadd, 1) := by decide +kernel
theorem dL_law_958 : decode cL_law 958 = .ok (.iaload, 1) := by decide +kernel
theorem dL_law_959 : decode cL_law 959 = .ok (.aload_n 0, 1) := by decide +kernel
theorem dL_law_960 : decode cL_law 960 = .ok (.iload 4, 2) := by decide +kernel
theorem dL_law_962 : decode cL_law 962 = .ok (.iconst 2, 1) := by decide +kernel
theorem dL_law_963 : decode cL_law 963 = .ok (.iadd, 1) := by decide +kernel
theorem dL_law_964 : decode cL_law 964 = .ok (.iaload, 1) := by decide +kernel
theorem dL_law_965 : decode cL_law 965 = .ok (.aload_n 0, 1) := by decide +kernel
theorem dL_law_966 : decode cL_law 966 = .ok (.iload 4, 2) := by decide +kernel
theorem dL_law_968 : decode cL_law 968 = .ok (.iconst 3, 1) := by decide +kernel
theorem dL_law_969 : decode cL_law 969 = .ok (.iadd, 1) := by decide +kernel
theorem dL_law_970 : decode cL_law 970 = .ok (.iaload, 1) := by decide +kernel
theorem dL_law_971 : decode cL_law 971 = .ok (.aload_n 3, 1) := by decide +kernel
theorem dL_law_972 : decode cL_law 972 = .ok (.invokestatic 143, 3) := by decide +kernel
theorem dL_law_975 : decode cL_law 975 = .ok (.istore 5, 2) := by decide +kernel
theorem dL_law_977 : decode cL_law 977 = .ok (.aload_n 2, 1) := by decide +kernel
theorem dL_law_978 : decode cL_law 978 = .ok (.aload_n 0, 1) := by decide +kernel
theorem dL_law_979 : decode cL_law 979 = .ok (.iload 4, 2) := by decide +kernel
theorem dL_law_981 : decode cL_law 981 = .ok (.iconst 1, 1) := by decide +kernel
theorem dL_law_982 : decode cL_law 982 = .ok (.iadd, 1) := by decide +kernel
theorem dL_law_983 : decode cL_law 983 = .ok (.iaload, 1) := by decide +kernel
theorem dL_law_984 : decode cL_law 984 = .ok (.aload_n 0, 1) := by decide +kernel
theorem dL_law_985 : decode cL_law 985 = .ok (.iload 4, 2) := by decide +kernel
theorem dL_law_987 : decode cL_law 987 = .ok (.iconst 2, 1) := by decide +kernel
theorem dL_law_988 : decode cL_law 988 = .ok (.iadd, 1) := by decide +kernel
theorem dL_law_989 : decode cL_law 989 = .ok (.iaload, 1) := by decide +kernel
theorem dL_law_990 : decode cL_law 990 = .ok (.aload_n 0, 1) := by decide +kernel
theorem dL_law_991 : decode cL_law 991 = .ok (.iload 4, 2) := by decide +kernel
theorem dL_law_993 : decode cL_law 993 = .ok (.iconst 3, 1) := by decide +kernel
theorem dL_law_994 : decode cL_law 994 = .ok (.iadd, 1) := by decide +kernel
theorem dL_law_995 : decode cL_law 995 = .ok (.iaload, 1) := by decide +kernel
theorem dL_law_996 : decode cL_law 996 = .ok (.invokevirtual 145, 3) := by decide +kernel
theorem dL_law_999 : decode cL_law 999 = .ok (.istore 6, 2) := by decide +kernel
theorem dL_law_1001 : decode cL_law 1001 = .ok (.aload_n 2, 1) := by decide +kernel
theorem dL_law_1002 : decode cL_law 1002 = .ok (.invokevirtual 106, 3) := by decide +kernel
theorem dL_law_1005 : decode cL_law 1005 = .ok (.iload 5, 2) := by decide +kernel
theorem dL_law_1007 : decode cL_law 1007 = .ok (.if_icmp .eq 5, 3) := by decide +kernel
theorem dL_law_1010 : decode cL_law 1010 = .ok (.iconst 0, 1) := by decide +kernel
theorem dL_law_1011 : decode cL_law 1011 = .ok (.ireturn, 1) := by decide +kernel
theorem dL_law_1012 : decode cL_law 1012 = .ok (.iload 5, 2) := by decide +kernel
theorem dL_law_1014 : decode cL_law 1014 = .ok (.ifCond .ne 15, 3) := by decide +kernel
theorem dL_law_1017 : decode cL_law 1017 = .ok (.aload_n 3, 1) := by decide +kernel
theorem dL_law_1018 : decode cL_law 1018 = .ok (.iconst 0, 1) := by decide +kernel
theorem dL_law_1019 : decode cL_law 1019 = .ok (.laload, 1) := by decide +kernel
theorem dL_law_1020 : decode cL_law 1020 = .ok (.iload 6, 2) := by decide +kernel
theorem dL_law_1022 : decode cL_law 1022 = .ok (.i2l, 1) := by decide +kernel
theorem dL_law_1023 : decode cL_law 1023 = .ok (.lcmp, 1) := by decide +kernel
theorem dL_law_1024 : decode cL_law 1024 = .ok (.ifCond .eq 5, 3) := by decide +kernel
theorem dL_law_1027 : decode cL_law 1027 = .ok (.iconst 0, 1) := by decide +kernel
theorem dL_law_1028 : decode cL_law 1028 = .ok (.ireturn, 1) := by decide +kernel
theorem dL_law_1029 : decode cL_law 1029 = .ok (.goto 845, 3) := by decide +kernel
theorem dL_law_1032 : decode cL_law 1032 = .ok (.aload_n 1, 1) := by decide +kernel
theorem dL_law_1033 : decode cL_law 1033 = .ok (.aload_n 0, 1) := by decide +kernel
theorem dL_law_1034 : decode cL_law 1034 = .ok (.iload 4, 2) := by decide +kernel
theorem dL_law_1036 : decode cL_law 1036 = .ok (.iconst 1, 1) := by decide +kernel
theorem dL_law_1037 : decode cL_law 1037 = .ok (.iadd, 1) := by decide +kernel
theorem dL_law_1038 : decode cL_law 1038 = .ok (.iaload, 1) := by decide +kernel
theorem dL_law_1039 : decode cL_law 1039 = .ok (.aload_n 0, 1) := by decide +kernel
theorem dL_law_1040 : decode cL_law 1040 = .ok (.iload 4, 2) := by decide +kernel
theorem dL_law_1042 : decode cL_law 1042 = .ok (.iconst 2, 1) := by decide +kernel
theorem dL_law_1043 : decode cL_law 1043 = .ok (.iadd, 1) := by decide +kernel
theorem dL_law_1044 : decode cL_law 1044 = .ok (.iaload, 1) := by decide +kernel
theorem dL_law_1045 : decode cL_law 1045 = .ok (.aload_n 0, 1) := by decide +kernel
theorem dL_law_1046 : decode cL_law 1046 = .ok (.iload 4, 2) := by decide +kernel
theorem dL_law_1048 : decode cL_law 1048 = .ok (.iconst 3, 1) := by decide +kernel
theorem dL_law_1049 : decode cL_law 1049 = .ok (.iadd, 1) := by decide +kernel
theorem dL_law_1050 : decode cL_law 1050 = .ok (.iaload, 1) := by decide +kernel
theorem dL_law_1051 : decode cL_law 1051 = .ok (.aload_n 3, 1) := by decide +kernel
theorem dL_law_1052 : decode cL_law 1052 = .ok (.invokestatic 146, 3) := by decide +kernel
theorem dL_law_1055 : decode cL_law 1055 = .ok (.istore 5, 2) := by decide +kernel
theorem dL_law_1057 : decode cL_law 1057 = .ok (.aload_n 2, 1) := by decide +kernel
theorem dL_law_1058 : decode cL_law 1058 = .ok (.aload_n 0, 1) := by decide +kernel
theorem dL_law_1059 : decode cL_law 1059 = .ok (.iload 4, 2) := by decide +kernel
theorem dL_law_1061 : decode cL_law 1061 = .ok (.iconst 1, 1) := by decide +kernel
theorem dL_law_1062 : decode cL_law 1062 = .ok (.iadd, 1) := by decide +kernel
theorem dL_law_1063 : decode cL_law 1063 = .ok (.iaload, 1) := by decide +kernel
theorem dL_law_1064 : decode cL_law 1064 = .ok (.aload_n 0, 1) := by decide +kernel
theorem dL_law_1065 : decode cL_law 1065 = .ok (.iload 4, 2) := by decide +kernel
theorem dL_law_1067 : decode cL_law 1067 = .ok (.iconst 2, 1) := by decide +kernel
theorem dL_law_1068 : decode cL_law 1068 = .ok (.iadd, 1) := by decide +kernel
theorem dL_law_1069 : decode cL_law 1069 = .ok (.iaload, 1) := by decide +kernel
theorem dL_law_1070 : decode cL_law 1070 = .ok (.aload_n 0, 1) := by decide +kernel
theorem dL_law_1071 : decode cL_law 1071 = .ok (.iload 4, 2) := by decide +kernel
theorem dL_law_1073 : decode cL_law 1073 = .ok (.iconst 3, 1) := by decide +kernel
theorem dL_law_1074 : decode cL_law 1074 = .ok (.iadd, 1) := by decide +kernel
theorem dL_law_1075 : decode cL_law 1075 = .ok (.iaload, 1) := by decide +kernel
theorem dL_law_1076 : decode cL_law 1076 = .ok (.invokevirtual 148, 3) := by decide +kernel
theorem dL_law_1079 : decode cL_law 1079 = .ok (.istore 6, 2) := by decide +kernel
theorem dL_law_1081 : decode cL_law 1081 = .ok (.aload_n 2, 1) := by decide +kernel
theorem dL_law_1082 : decode cL_law 1082 = .ok (.invokevirtual 106, 3) := by decide +kernel
theorem dL_law_1085 : decode cL_law 1085 = .ok (.iload 5, 2) := by decide +kernel
theorem dL_law_1087 : decode cL_law 1087 = .ok (.if_icmp .eq 5, 3) := by decide +kernel
theorem dL_law_1090 : decode cL_law 1090 = .ok (.iconst 0, 1) := by decide +kernel
theorem dL_law_1091 : decode cL_law 1091 = .ok (.ireturn, 1) := by decide +kernel
theorem dL_law_1092 : decode cL_law 1092 = .ok (.iload 5, 2) := by decide +kernel
theorem dL_law_1094 : decode cL_law 1094 = .ok (.ifCond .ne 15, 3) := by decide +kernel
theorem dL_law_1097 : decode cL_law 1097 = .ok (.aload_n 3, 1) := by decide +kernel
theorem dL_law_1098 : decode cL_law 1098 = .ok (.iconst 0, 1) := by decide +kernel
theorem dL_law_1099 : decode cL_law 1099 = .ok (.laload, 1) := by decide +kernel
theorem dL_law_1100 : decode cL_law 1100 = .ok (.iload 6, 2) := by decide +kernel
theorem dL_law_1102 : decode cL_law 1102 = .ok (.i2l, 1) := by decide +kernel
theorem dL_law_1103 : decode cL_law 1103 = .ok (.lcmp, 1) := by decide +kernel
theorem dL_law_1104 : decode cL_law 1104 = .ok (.ifCond .eq 5, 3) := by decide +kernel
theorem dL_law_1107 : decode cL_law 1107 = .ok (.iconst 0, 1) := by decide +kernel
theorem dL_law_1108 : decode cL_law 1108 = .ok (.ireturn, 1) := by decide +kernel
theorem dL_law_1109 : decode cL_law 1109 = .ok (.goto 765, 3) := by decide +kernel
theorem dL_law_1112 : decode cL_law 1112 = .ok (.aload_n 1, 1) := by decide +kernel
theorem dL_law_1113 : decode cL_law 1113 = .ok (.aload_n 0, 1) := by decide +kernel
theorem dL_law_1114 : decode cL_law 1114 = .ok (.iload 4, 2) := by decide +kernel
theorem dL_law_1116 : decode cL_law 1116 = .ok (.iconst 1, 1) := by decide +kernel
theorem dL_law_1117 : decode cL_law 1117 = .ok (.iadd, 1) := by decide +kernel
theorem dL_law_1118 : decode cL_law 1118 = .ok (.iaload, 1) := by decide +kernel
theorem dL_law_1119 : decode cL_law 1119 = .ok (.aload_n 0, 1) := by decide +kernel
theorem dL_law_1120 : decode cL_law 1120 = .ok (.iload 4, 2) := by decide +kernel
theorem dL_law_1122 : decode cL_law 1122 = .ok (.iconst 2, 1) := by decide +kernel
theorem dL_law_1123 : decode cL_law 1123 = .ok (.iadd, 1) := by decide +kernel
theorem dL_law_1124 : decode cL_law 1124 = .ok (.iaload, 1) := by decide +kernel
theorem dL_law_1125 : decode cL_law 1125 = .ok (.aload_n 3, 1) := by decide +kernel
theorem dL_law_1126 : decode cL_law 1126 = .ok (.invokestatic 149, 3) := by decide +kernel
theorem dL_law_1129 : decode cL_law 1129 = .ok (.istore 5, 2) := by decide +kernel
theorem dL_law_1131 : decode cL_law 1131 = .ok (.aload_n 2, 1) := by decide +kernel
theorem dL_law_1132 : decode cL_law 1132 = .ok (.aload_n 0, 1) := by decide +kernel
theorem dL_law_1133 : decode cL_law 1133 = .ok (.iload 4, 2) := by decide +kernel
theorem dL_law_1135 : decode cL_law 1135 = .ok (.iconst 1, 1) := by decide +kernel
theorem dL_law_1136 : decode cL_law 1136 = .ok (.iadd, 1) := by decide +kernel
theorem dL_law_1137 : decode cL_law 1137 = .ok (.iaload, 1) := by decide +kernel
theorem dL_law_1138 : decode cL_law 1138 = .ok (.aload_n 0, 1) := by decide +kernel
theorem dL_law_1139 : decode cL_law 1139 = .ok (.iload 4, 2) := by decide +kernel
theorem dL_law_1141 : decode cL_law 1141 = .ok (.iconst 2, 1) := by decide +kernel
theorem dL_law_1142 : decode cL_law 1142 = .ok (.iadd, 1) := by decide +kernel
theorem dL_law_1143 : decode cL_law 1143 = .ok (.iaload, 1) := by decide +kernel
theorem dL_law_1144 : decode cL_law 1144 = .ok (.invokevirtual 151, 3) := by decide +kernel
theorem dL_law_1147 : decode cL_law 1147 = .ok (.istore 6, 2) := by decide +kernel
theorem dL_law_1149 : decode cL_law 1149 = .ok (.aload_n 2, 1) := by decide +kernel
theorem dL_law_1150 : decode cL_law 1150 = .ok (.invokevirtual 106, 3) := by decide +kernel
theorem dL_law_1153 : decode cL_law 1153 = .ok (.iload 5, 2) := by decide +kernel
theorem dL_law_1155 : decode cL_law 1155 = .ok (.if_icmp .eq 5, 3) := by decide +kernel
theorem dL_law_1158 : decode cL_law 1158 = .ok (.iconst 0, 1) := by decide +kernel
theorem dL_law_1159 : decode cL_law 1159 = .ok (.ireturn, 1) := by decide +kernel
theorem dL_law_1160 : decode cL_law 1160 = .ok (.iload 5, 2) := by decide +kernel
theorem dL_law_1162 : decode cL_law 1162 = .ok (.ifCond .ne 15, 3) := by decide +kernel
theorem dL_law_1165 : decode cL_law 1165 = .ok (.aload_n 3, 1) := by decide +kernel
theorem dL_law_1166 : decode cL_law 1166 = .ok (.iconst 0, 1) := by decide +kernel
theorem dL_law_1167 : decode cL_law 1167 = .ok (.laload, 1) := by decide +kernel
theorem dL_law_1168 : decode cL_law 1168 = .ok (.iload 6, 2) := by decide +kernel
theorem dL_law_1170 : decode cL_law 1170 = .ok (.i2l, 1) := by decide +kernel
theorem dL_law_1171 : decode cL_law 1171 = .ok (.lcmp, 1) := by decide +kernel
theorem dL_law_1172 : decode cL_law 1172 = .ok (.ifCond .eq 5, 3) := by decide +kernel
theorem dL_law_1175 : decode cL_law 1175 = .ok (.iconst 0, 1) := by decide +kernel
theorem dL_law_1176 : decode cL_law 1176 = .ok (.ireturn, 1) := by decide +kernel
theorem dL_law_1177 : decode cL_law 1177 = .ok (.goto 697, 3) := by decide +kernel
theorem dL_law_1180 : decode cL_law 1180 = .ok (.aload_n 1, 1) := by decide +kernel
theorem dL_law_1181 : decode cL_law 1181 = .ok (.aload_n 0, 1) := by decide +kernel
theorem dL_law_1182 : decode cL_law 1182 = .ok (.iload 4, 2) := by decide +kernel
theorem dL_law_1184 : decode cL_law 1184 = .ok (.iconst 1, 1) := by decide +kernel
theorem dL_law_1185 : decode cL_law 1185 = .ok (.iadd, 1) := by decide +kernel
theorem dL_law_1186 : decode cL_law 1186 = .ok (.iaload, 1) := by decide +kernel
theorem dL_law_1187 : decode cL_law 1187 = .ok (.aload_n 0, 1) := by decide +kernel
theorem dL_law_1188 : decode cL_law 1188 = .ok (.iload 4, 2) := by decide +kernel
theorem dL_law_1190 : decode cL_law 1190 = .ok (.iconst 2, 1) := by decide +kernel
theorem dL_law_1191 : decode cL_law 1191 = .ok (.iadd, 1) := by decide +kernel
theorem dL_law_1192 : decode cL_law 1192 = .ok (.iaload, 1) := by decide +kernel
theorem dL_law_1193 : decode cL_law 1193 = .ok (.aload_n 3, 1) := by decide +kernel
theorem dL_law_1194 : decode cL_law 1194 = .ok (.invokestatic 152, 3) := by decide +kernel
theorem dL_law_1197 : decode cL_law 1197 = .ok (.istore 5, 2) := by decide +kernel
theorem dL_law_1199 : decode cL_law 1199 = .ok (.aload_n 2, 1) := by decide +kernel
theorem dL_law_1200 : decode cL_law 1200 = .ok (.aload_n 0, 1) := by decide +kernel
theorem dL_law_1201 : decode cL_law 1201 = .ok (.iload 4, 2) := by decide +kernel
theorem dL_law_1203 : decode cL_law 1203 = .ok (.iconst 1, 1) := by decide +kernel
theorem dL_law_1204 : decode cL_law 1204 = .ok (.iadd, 1) := by decide +kernel
theorem dL_law_1205 : decode cL_law 1205 = .ok (.iaload, 1) := by decide +kernel
theorem dL_law_1206 : decode cL_law 1206 = .ok (.aload_n 0, 1) := by decide +kernel
theorem dL_law_1207 : decode cL_law 1207 = .ok (.iload 4, 2) := by decide +kernel
theorem dL_law_1209 : decode cL_law 1209 = .ok (.iconst 2, 1) := by decide +kernel
theorem dL_law_1210 : decode cL_law 1210 = .ok (.iadd, 1) := by decide +kernel
theorem dL_law_1211 : decode cL_law 1211 = .ok (.iaload, 1) := by decide +kernel
theorem dL_law_1212 : decode cL_law 1212 = .ok (.invokevirtual 154, 3) := by decide +kernel
theorem dL_law_1215 : decode cL_law 1215 = .ok (.istore 6, 2) := by decide +kernel
theorem dL_law_1217 : decode cL_law 1217 = .ok (.aload_n 2, 1) := by decide +kernel
theorem dL_law_1218 : decode cL_law 1218 = .ok (.invokevirtual 106, 3) := by decide +kernel
theorem dL_law_1221 : decode cL_law 1221 = .ok (.iload 5, 2) := by decide +kernel
theorem dL_law_1223 : decode cL_law 1223 = .ok (.if_icmp .eq 5, 3) := by decide +kernel
theorem dL_law_1226 : decode cL_law 1226 = .ok (.iconst 0, 1) := by decide +kernel
theorem dL_law_1227 : decode cL_law 1227 = .ok (.ireturn, 1) := by decide +kernel
theorem dL_law_1228 : decode cL_law 1228 = .ok (.iload 5, 2) := by decide +kernel
theorem dL_law_1230 : decode cL_law 1230 = .ok (.ifCond .ne 15, 3) := by decide +kernel
theorem dL_law_1233 : decode cL_law 1233 = .ok (.aload_n 3, 1) := by decide +kernel
theorem dL_law_1234 : decode cL_law 1234 = .ok (.iconst 0, 1) := by decide +kernel
theorem dL_law_1235 : decode cL_law 1235 = .ok (.laload, 1) := by decide +kernel
theorem dL_law_1236 : decode cL_law 1236 = .ok (.iload 6, 2) := by decide +kernel
theorem dL_law_1238 : decode cL_law 1238 = .ok (.i2l, 1) := by decide +kernel
theorem dL_law_1239 : decode cL_law 1239 = .ok (.lcmp, 1) := by decide +kernel
theorem dL_law_1240 : decode cL_law 1240 = .ok (.ifCond .eq 5, 3) := by decide +kernel
theorem dL_law_1243 : decode cL_law 1243 = .ok (.iconst 0, 1) := by decide +kernel
theorem dL_law_1244 : decode cL_law 1244 = .ok (.ireturn, 1) := by decide +kernel
theorem dL_law_1245 : decode cL_law 1245 = .ok (.goto 629, 3) := by decide +kernel
theorem dL_law_1248 : decode cL_law 1248 = .ok (.aload_n 1, 1) := by decide +kernel
theorem dL_law_1249 : decode cL_law 1249 = .ok (.invokestatic 155, 3) := by decide +kernel
theorem dL_law_1252 : decode cL_law 1252 = .ok (.istore 5, 2) := by decide +kernel
theorem dL_law_1254 : decode cL_law 1254 = .ok (.aload_n 2, 1) := by decide +kernel
theorem dL_law_1255 : decode cL_law 1255 = .ok (.invokevirtual 158, 3) := by decide +kernel
theorem dL_law_1258 : decode cL_law 1258 = .ok (.aload_n 2, 1) := by decide +kernel
theorem dL_law_1259 : decode cL_law 1259 = .ok (.invokevirtual 106, 3) := by decide +kernel
theorem dL_law_1262 : decode cL_law 1262 = .ok (.iload 5, 2) := by decide +kernel
theorem dL_law_1264 : decode cL_law 1264 = .ok (.if_icmp .eq 5, 3) := by decide +kernel
theorem dL_law_1267 : decode cL_law 1267 = .ok (.iconst 0, 1) := by decide +kernel
theorem dL_law_1268 : decode cL_law 1268 = .ok (.ireturn, 1) := by decide +kernel
theorem dL_law_1269 : decode cL_law 1269 = .ok (.goto 605, 3) := by decide +kernel
theorem dL_law_1272 : decode cL_law 1272 = .ok (.aload_n 1, 1) := by decide +kernel
theorem dL_law_1273 : decode cL_law 1273 = .ok (.aload_n 3, 1) := by decide +kernel
theorem dL_law_1274 : decode cL_law 1274 = .ok (.invokestatic 159, 3) := by decide +kernel
theorem dL_law_1277 : decode cL_law 1277 = .ok (.istore 5, 2) := by decide +kernel
theorem dL_law_1279 : decode cL_law 1279 = .ok (.aload_n 2, 1) := by decide +kernel
theorem dL_law_1280 : decode cL_law 1280 = .ok (.invokevirtual 161, 3) := by decide +kernel
theorem dL_law_1283 : decode cL_law 1283 = .ok (.istore 6, 2) := by decide +kernel
theorem dL_law_1285 : decode cL_law 1285 = .ok (.aload_n 2, 1) := by decide +kernel
theorem dL_law_1286 : decode cL_law 1286 = .ok (.invokevirtual 106, 3) := by decide +kernel
theorem dL_law_1289 : decode cL_law 1289 = .ok (.iload 5, 2) := by decide +kernel
theorem dL_law_1291 : decode cL_law 1291 = .ok (.if_icmp .eq 5, 3) := by decide +kernel
theorem dL_law_1294 : decode cL_law 1294 = .ok (.iconst 0, 1) := by decide +kernel
theorem dL_law_1295 : decode cL_law 1295 = .ok (.ireturn, 1) := by decide +kernel
theorem dL_law_1296 : decode cL_law 1296 = .ok (.iload 5, 2) := by decide +kernel
theorem dL_law_1298 : decode cL_law 1298 = .ok (.ifCond .ne 15, 3) := by decide +kernel
theorem dL_law_1301 : decode cL_law 1301 = .ok (.aload_n 3, 1) := by decide +kernel
theorem dL_law_1302 : decode cL_law 1302 = .ok (.iconst 0, 1) := by decide +kernel
theorem dL_law_1303 : decode cL_law 1303 = .ok (.laload, 1) := by decide +kernel
theorem dL_law_1304 : decode cL_law 1304 = .ok (.iload 6, 2) := by decide +kernel
theorem dL_law_1306 : decode cL_law 1306 = .ok (.i2l, 1) := by decide +kernel
theorem dL_law_1307 : decode cL_law 1307 = .ok (.lcmp, 1) := by decide +kernel
theorem dL_law_1308 : decode cL_law 1308 = .ok (.ifCond .eq 5, 3) := by decide +kernel
theorem dL_law_1311 : decode cL_law 1311 = .ok (.iconst 0, 1) := by decide +kernel
theorem dL_law_1312 : decode cL_law 1312 = .ok (.ireturn, 1) := by decide +kernel
theorem dL_law_1313 : decode cL_law 1313 = .ok (.goto 561, 3) := by decide +kernel
theorem dL_law_1316 : decode cL_law 1316 = .ok (.aload_n 1, 1) := by decide +kernel
theorem dL_law_1317 : decode cL_law 1317 = .ok (.aload_n 3, 1) := by decide +kernel
theorem dL_law_1318 : decode cL_law 1318 = .ok (.invokestatic 162, 3) := by decide +kernel
theorem dL_law_1321 : decode cL_law 1321 = .ok (.istore 5, 2) := by decide +kernel
theorem dL_law_1323 : decode cL_law 1323 = .ok (.aload_n 2, 1) := by decide +kernel
theorem dL_law_1324 : decode cL_law 1324 = .ok (.invokevirtual 164, 3) := by decide +kernel
theorem dL_law_1327 : decode cL_law 1327 = .ok (.istore 6, 2) := by decide +kernel
theorem dL_law_1329 : decode cL_law 1329 = .ok (.aload_n 2, 1) := by decide +kernel
theorem dL_law_1330 : decode cL_law 1330 = .ok (.invokevirtual 106, 3) := by decide +kernel
theorem dL_law_1333 : decode cL_law 1333 = .ok (.iload 5, 2) := by decide +kernel
theorem dL_law_1335 : decode cL_law 1335 = .ok (.if_icmp .eq 5, 3) := by decide +kernel
theorem dL_law_1338 : decode cL_law 1338 = .ok (.iconst 0, 1) := by decide +kernel
theorem dL_law_1339 : decode cL_law 1339 = .ok (.ireturn, 1) := by decide +kernel
theorem dL_law_1340 : decode cL_law 1340 = .ok (.iload 5, 2) := by decide +kernel
theorem dL_law_1342 : decode cL_law 1342 = .ok (.ifCond .ne 15, 3) := by decide +kernel
theorem dL_law_1345 : decode cL_law 1345 = .ok (.aload_n 3, 1) := by decide +kernel
theorem dL_law_1346 : decode cL_law 1346 = .ok (.iconst 0, 1) := by decide +kernel
theorem dL_law_1347 : decode cL_law 1347 = .ok (.laload, 1) := by decide +kernel
theorem dL_law_1348 : decode cL_law 1348 = .ok (.iload 6, 2) := by decide +kernel
theorem dL_law_1350 : decode cL_law 1350 = .ok (.i2l, 1) := by decide +kernel
theorem dL_law_1351 : decode cL_law 1351 = .ok (.lcmp, 1) := by decide +kernel
theorem dL_law_1352 : decode cL_law 1352 = .ok (.ifCond .eq 5, 3) := by decide +kernel
theorem dL_law_1355 : decode cL_law 1355 = .ok (.iconst 0, 1) := by decide +kernel
theorem dL_law_1356 : decode cL_law 1356 = .ok (.ireturn, 1) := by decide +kernel
theorem dL_law_1357 : decode cL_law 1357 = .ok (.goto 517, 3) := by decide +kernel
theorem dL_law_1360 : decode cL_law 1360 = .ok (.aload_n 1, 1) := by decide +kernel
theorem dL_law_1361 : decode cL_law 1361 = .ok (.aload_n 3, 1) := by decide +kernel
theorem dL_law_1362 : decode cL_law 1362 = .ok (.invokestatic 165, 3) := by decide +kernel
theorem dL_law_1365 : decode cL_law 1365 = .ok (.istore 5, 2) := by decide +kernel
theorem dL_law_1367 : decode cL_law 1367 = .ok (.aload_n 2, 1) := by decide +kernel
theorem dL_law_1368 : decode cL_law 1368 = .ok (.invokevirtual 167, 3) := by decide +kernel
theorem dL_law_1371 : decode cL_law 1371 = .ok (.istore 6, 2) := by decide +kernel
theorem dL_law_1373 : decode cL_law 1373 = .ok (.aload_n 2, 1) := by decide +kernel
theorem dL_law_1374 : decode cL_law 1374 = .ok (.invokevirtual 106, 3) := by decide +kernel
theorem dL_law_1377 : decode cL_law 1377 = .ok (.iload 5, 2) := by decide +kernel
theorem dL_law_1379 : decode cL_law 1379 = .ok (.if_icmp .eq 5, 3) := by decide +kernel
theorem dL_law_1382 : decode cL_law 1382 = .ok (.iconst 0, 1) := by decide +kernel
theorem dL_law_1383 : decode cL_law 1383 = .ok (.ireturn, 1) := by decide +kernel
theorem dL_law_1384 : decode cL_law 1384 = .ok (.iload 5, 2) := by decide +kernel
theorem dL_law_1386 : decode cL_law 1386 = .ok (.ifCond .ne 15, 3) := by decide +kernel
theorem dL_law_1389 : decode cL_law 1389 = .ok (.aload_n 3, 1) := by decide +kernel
theorem dL_law_1390 : decode cL_law 1390 = .ok (.iconst 0, 1) := by decide +kernel
theorem dL_law_1391 : decode cL_law 1391 = .ok (.laload, 1) := by decide +kernel
theorem dL_law_1392 : decode cL_law 1392 = .ok (.iload 6, 2) := by decide +kernel
theorem dL_law_1394 : decode cL_law 1394 = .ok (.i2l, 1) := by decide +kernel
theorem dL_law_1395 : decode cL_law 1395 = .ok (.lcmp, 1) := by decide +kernel
theorem dL_law_1396 : decode cL_law 1396 = .ok (.ifCond .eq 5, 3) := by decide +kernel
theorem dL_law_1399 : decode cL_law 1399 = .ok (.iconst 0, 1) := by decide +kernel
theorem dL_law_1400 : decode cL_law 1400 = .ok (.ireturn, 1) := by decide +kernel
theorem dL_law_1401 : decode cL_law 1401 = .ok (.goto 473, 3) := by decide +kernel
theorem dL_law_1404 : decode cL_law 1404 = .ok (.aload_n 1, 1) := by decide +kernel
theorem dL_law_1405 : decode cL_law 1405 = .ok (.aload_n 0, 1) := by decide +kernel
theorem dL_law_1406 : decode cL_law 1406 = .ok (.iload 4, 2) := by decide +kernel
theorem dL_law_1408 : decode cL_law 1408 = .ok (.iconst 1, 1) := by decide +kernel
theorem dL_law_1409 : decode cL_law 1409 = .ok (.iadd, 1) := by decide +kernel
theorem dL_law_1410 : decode cL_law 1410 = .ok (.iaload, 1) := by decide +kernel
theorem dL_law_1411 : decode cL_law 1411 = .ok (.aload_n 0, 1) := by decide +kernel
theorem dL_law_1412 : decode cL_law 1412 = .ok (.iload 4, 2) := by decide +kernel
theorem dL_law_1414 : decode cL_law 1414 = .ok (.iconst 2, 1) := by decide +kernel
theorem dL_law_1415 : decode cL_law 1415 = .ok (.iadd, 1) := by decide +kernel
theorem dL_law_1416 : decode cL_law 1416 = .ok (.iaload, 1) := by decide +kernel
theorem dL_law_1417 : decode cL_law 1417 = .ok (.aload_n 3, 1) := by decide +kernel
theorem dL_law_1418 : decode cL_law 1418 = .ok (.invokestatic 168, 3) := by decide +kernel
theorem dL_law_1421 : decode cL_law 1421 = .ok (.istore 5, 2) := by decide +kernel
theorem dL_law_1423 : decode cL_law 1423 = .ok (.aload_n 2, 1) := by decide +kernel
theorem dL_law_1424 : decode cL_law 1424 = .ok (.aload_n 0, 1) := by decide +kernel
theorem dL_law_1425 : decode cL_law 1425 = .ok (.iload 4, 2) := by decide +kernel
theorem dL_law_1427 : decode cL_law 1427 = .ok (.iconst 1, 1) := by decide +kernel
theorem dL_law_1428 : decode cL_law 1428 = .ok (.iadd, 1) := by decide +kernel
theorem dL_law_1429 : decode cL_law 1429 = .ok (.iaload, 1) := by decide +kernel
theorem dL_law_1430 : decode cL_law 1430 = .ok (.aload_n 0, 1) := by decide +kernel
theorem dL_law_1431 : decode cL_law 1431 = .ok (.iload 4, 2) := by decide +kernel
theorem dL_law_1433 : decode cL_law 1433 = .ok (.iconst 2, 1) := by decide +kernel
theorem dL_law_1434 : decode cL_law 1434 = .ok (.iadd, 1) := by decide +kernel
theorem dL_law_1435 : decode cL_law 1435 = .ok (.iaload, 1) := by decide +kernel
theorem dL_law_1436 : decode cL_law 1436 = .ok (.invokevirtual 170, 3) := by decide +kernel
theorem dL_law_1439 : decode cL_law 1439 = .ok (.lstore 6, 2) := by decide +kernel
theorem dL_law_1441 : decode cL_law 1441 = .ok (.aload_n 2, 1) := by decide +kernel
theorem dL_law_1442 : decode cL_law 1442 = .ok (.invokevirtual 106, 3) := by decide +kernel
theorem dL_law_1445 : decode cL_law 1445 = .ok (.iload 5, 2) := by decide +kernel
theorem dL_law_1447 : decode cL_law 1447 = .ok (.if_icmp .eq 5, 3) := by decide +kernel
theorem dL_law_1450 : decode cL_law 1450 = .ok (.iconst 0, 1) := by decide +kernel
theorem dL_law_1451 : decode cL_law 1451 = .ok (.ireturn, 1) := by decide +kernel
theorem dL_law_1452 : decode cL_law 1452 = .ok (.iload 5, 2) := by decide +kernel
theorem dL_law_1454 : decode cL_law 1454 = .ok (.ifCond .ne 14, 3) := by decide +kernel
theorem dL_law_1457 : decode cL_law 1457 = .ok (.aload_n 3, 1) := by decide +kernel
theorem dL_law_1458 : decode cL_law 1458 = .ok (.iconst 0, 1) := by decide +kernel
theorem dL_law_1459 : decode cL_law 1459 = .ok (.laload, 1) := by decide +kernel
theorem dL_law_1460 : decode cL_law 1460 = .ok (.lload 6, 2) := by decide +kernel
theorem dL_law_1462 : decode cL_law 1462 = .ok (.lcmp, 1) := by decide +kernel
theorem dL_law_1463 : decode cL_law 1463 = .ok (.ifCond .eq 5, 3) := by decide +kernel
theorem dL_law_1466 : decode cL_law 1466 = .ok (.iconst 0, 1) := by decide +kernel
theorem dL_law_1467 : decode cL_law 1467 = .ok (.ireturn, 1) := by decide +kernel
theorem dL_law_1468 : decode cL_law 1468 = .ok (.goto 406, 3) := by decide +kernel
theorem dL_law_1471 : decode cL_law 1471 = .ok (.aload_n 1, 1) := by decide +kernel
theorem dL_law_1472 : decode cL_law 1472 = .ok (.aload_n 0, 1) := by decide +kernel
theorem dL_law_1473 : decode cL_law 1473 = .ok (.iload 4, 2) := by decide +kernel
theorem dL_law_1475 : decode cL_law 1475 = .ok (.iconst 1, 1) := by decide +kernel
theorem dL_law_1476 : decode cL_law 1476 = .ok (.iadd, 1) := by decide +kernel
theorem dL_law_1477 : decode cL_law 1477 = .ok (.iaload, 1) := by decide +kernel
theorem dL_law_1478 : decode cL_law 1478 = .ok (.aload_n 0, 1) := by decide +kernel
theorem dL_law_1479 : decode cL_law 1479 = .ok (.iload 4, 2) := by decide +kernel
theorem dL_law_1481 : decode cL_law 1481 = .ok (.iconst 2, 1) := by decide +kernel
theorem dL_law_1482 : decode cL_law 1482 = .ok (.iadd, 1) := by decide +kernel
theorem dL_law_1483 : decode cL_law 1483 = .ok (.iaload, 1) := by decide +kernel
theorem dL_law_1484 : decode cL_law 1484 = .ok (.aload_n 3, 1) := by decide +kernel
theorem dL_law_1485 : decode cL_law 1485 = .ok (.invokestatic 171, 3) := by decide +kernel
theorem dL_law_1488 : decode cL_law 1488 = .ok (.istore 5, 2) := by decide +kernel
theorem dL_law_1490 : decode cL_law 1490 = .ok (.aload_n 2, 1) := by decide +kernel
theorem dL_law_1491 : decode cL_law 1491 = .ok (.aload_n 0, 1) := by decide +kernel
theorem dL_law_1492 : decode cL_law 1492 = .ok (.iload 4, 2) := by decide +kernel
theorem dL_law_1494 : decode cL_law 1494 = .ok (.iconst 1, 1) := by decide +kernel
theorem dL_law_1495 : decode cL_law 1495 = .ok (.iadd, 1) := by decide +kernel
theorem dL_law_1496 : decode cL_law 1496 = .ok (.iaload, 1) := by decide +kernel
theorem dL_law_1497 : decode cL_law 1497 = .ok (.aload_n 0, 1) := by decide +kernel
theorem dL_law_1498 : decode cL_law 1498 = .ok (.iload 4, 2) := by decide +kernel
theorem dL_law_1500 : decode cL_law 1500 = .ok (.iconst 2, 1) := by decide +kernel
theorem dL_law_1501 : decode cL_law 1501 = .ok (.iadd, 1) := by decide +kernel
theorem dL_law_1502 : decode cL_law 1502 = .ok (.iaload, 1) := by decide +kernel
theorem dL_law_1503 : decode cL_law 1503 = .ok (.invokevirtual 173, 3) := by decide +kernel
theorem dL_law_1506 : decode cL_law 1506 = .ok (.lstore 6, 2) := by decide +kernel
theorem dL_law_1508 : decode cL_law 1508 = .ok (.aload_n 2, 1) := by decide +kernel
theorem dL_law_1509 : decode cL_law 1509 = .ok (.invokevirtual 106, 3) := by decide +kernel
theorem dL_law_1512 : decode cL_law 1512 = .ok (.iload 5, 2) := by decide +kernel
theorem dL_law_1514 : decode cL_law 1514 = .ok (.if_icmp .eq 5, 3) := by decide +kernel
theorem dL_law_1517 : decode cL_law 1517 = .ok (.iconst 0, 1) := by decide +kernel
theorem dL_law_1518 : decode cL_law 1518 = .ok (.ireturn, 1) := by decide +kernel
theorem dL_law_1519 : decode cL_law 1519 = .ok (.iload 5, 2) := by decide +kernel
theorem dL_law_1521 : decode cL_law 1521 = .ok (.ifCond .ne 14, 3) := by decide +kernel
theorem dL_law_1524 : decode cL_law 1524 = .ok (.aload_n 3, 1) := by decide +kernel
theorem dL_law_1525 : decode cL_law 1525 = .ok (.iconst 0, 1) := by decide +kernel
theorem dL_law_1526 : decode cL_law 1526 = .ok (.laload, 1) := by decide +kernel
theorem dL_law_1527 : decode cL_law 1527 = .ok (.lload 6, 2) := by decide +kernel
theorem dL_law_1529 : decode cL_law 1529 = .ok (.lcmp, 1) := by decide +kernel
theorem dL_law_1530 : decode cL_law 1530 = .ok (.ifCond .eq 5, 3) := by decide +kernel
theorem dL_law_1533 : decode cL_law 1533 = .ok (.iconst 0, 1) := by decide +kernel
theorem dL_law_1534 : decode cL_law 1534 = .ok (.ireturn, 1) := by decide +kernel
theorem dL_law_1535 : decode cL_law 1535 = .ok (.goto 339, 3) := by decide +kernel
theorem dL_law_1538 : decode cL_law 1538 = .ok (.aload_n 1, 1) := by decide +kernel
theorem dL_law_1539 : decode cL_law 1539 = .ok (.aload_n 0, 1) := by decide +kernel
theorem dL_law_1540 : decode cL_law 1540 = .ok (.iload 4, 2) := by decide +kernel
theorem dL_law_1542 : decode cL_law 1542 = .ok (.iconst 1, 1) := by decide +kernel
theorem dL_law_1543 : decode cL_law 1543 = .ok (.iadd, 1) := by decide +kernel
theorem dL_law_1544 : decode cL_law 1544 = .ok (.iaload, 1) := by decide +kernel
theorem dL_law_1545 : decode cL_law 1545 = .ok (.aload_n 0, 1) := by decide +kernel
theorem dL_law_1546 : decode cL_law 1546 = .ok (.iload 4, 2) := by decide +kernel
theorem dL_law_1548 : decode cL_law 1548 = .ok (.iconst 2, 1) := by decide +kernel
theorem dL_law_1549 : decode cL_law 1549 = .ok (.iadd, 1) := by decide +kernel
theorem dL_law_1550 : decode cL_law 1550 = .ok (.iaload, 1) := by decide +kernel
theorem dL_law_1551 : decode cL_law 1551 = .ok (.aload_n 3, 1) := by decide +kernel
theorem dL_law_1552 : decode cL_law 1552 = .ok (.invokestatic 174, 3) := by decide +kernel
theorem dL_law_1555 : decode cL_law 1555 = .ok (.istore 5, 2) := by decide +kernel
theorem dL_law_1557 : decode cL_law 1557 = .ok (.aload_n 2, 1) := by decide +kernel
theorem dL_law_1558 : decode cL_law 1558 = .ok (.aload_n 0, 1) := by decide +kernel
theorem dL_law_1559 : decode cL_law 1559 = .ok (.iload 4, 2) := by decide +kernel
theorem dL_law_1561 : decode cL_law 1561 = .ok (.iconst 1, 1) := by decide +kernel
theorem dL_law_1562 : decode cL_law 1562 = .ok (.iadd, 1) := by decide +kernel
theorem dL_law_1563 : decode cL_law 1563 = .ok (.iaload, 1) := by decide +kernel
theorem dL_law_1564 : decode cL_law 1564 = .ok (.aload_n 0, 1) := by decide +kernel
theorem dL_law_1565 : decode cL_law 1565 = .ok (.iload 4, 2) := by decide +kernel
theorem dL_law_1567 : decode cL_law 1567 = .ok (.iconst 2, 1) := by decide +kernel
theorem dL_law_1568 : decode cL_law 1568 = .ok (.iadd, 1) := by decide +kernel
theorem dL_law_1569 : decode cL_law 1569 = .ok (.iaload, 1) := by decide +kernel
theorem dL_law_1570 : decode cL_law 1570 = .ok (.invokevirtual 176, 3) := by decide +kernel
theorem dL_law_1573 : decode cL_law 1573 = .ok (.istore 6, 2) := by decide +kernel
theorem dL_law_1575 : decode cL_law 1575 = .ok (.aload_n 2, 1) := by decide +kernel
theorem dL_law_1576 : decode cL_law 1576 = .ok (.invokevirtual 106, 3) := by decide +kernel
theorem dL_law_1579 : decode cL_law 1579 = .ok (.iload 5, 2) := by decide +kernel
theorem dL_law_1581 : decode cL_law 1581 = .ok (.if_icmp .eq 5, 3) := by decide +kernel
theorem dL_law_1584 : decode cL_law 1584 = .ok (.iconst 0, 1) := by decide +kernel
theorem dL_law_1585 : decode cL_law 1585 = .ok (.ireturn, 1) := by decide +kernel
theorem dL_law_1586 : decode cL_law 1586 = .ok (.iload 5, 2) := by decide +kernel
theorem dL_law_1588 : decode cL_law 1588 = .ok (.ifCond .ne 15, 3) := by decide +kernel
theorem dL_law_1591 : decode cL_law 1591 = .ok (.aload_n 3, 1) := by decide +kernel
theorem dL_law_1592 : decode cL_law 1592 = .ok (.iconst 0, 1) := by decide +kernel
theorem dL_law_1593 : decode cL_law 1593 = .ok (.laload, 1) := by decide +kernel
theorem dL_law_1594 : decode cL_law 1594 = .ok (.iload 6, 2) := by decide +kernel
theorem dL_law_1596 : decode cL_law 1596 = .ok (.i2l, 1) := by decide +kernel
theorem dL_law_1597 : decode cL_law 1597 = .ok (.lcmp, 1) := by decide +kernel
theorem dL_law_1598 : decode cL_law 1598 = .ok (.ifCond .eq 5, 3) := by decide +kernel
theorem dL_law_1601 : decode cL_law 1601 = .ok (.iconst 0, 1) := by decide +kernel
theorem dL_law_1602 : decode cL_law 1602 = .ok (.ireturn, 1) := by decide +kernel
theorem dL_law_1603 : decode cL_law 1603 = .ok (.goto 271, 3) := by decide +kernel
theorem dL_law_1606 : decode cL_law 1606 = .ok (.aload_n 1, 1) := by decide +kernel
theorem dL_law_1607 : decode cL_law 1607 = .ok (.aload_n 0, 1) := by decide +kernel
theorem dL_law_1608 : decode cL_law 1608 = .ok (.iload 4, 2) := by decide +kernel
theorem dL_law_1610 : decode cL_law 1610 = .ok (.iconst 1, 1) := by decide +kernel
theorem dL_law_1611 : decode cL_law 1611 = .ok (.iadd, 1) := by decide +kernel
theorem dL_law_1612 : decode cL_law 1612 = .ok (.iaload, 1) := by decide +kernel
theorem dL_law_1613 : decode cL_law 1613 = .ok (.aload_n 0, 1) := by decide +kernel
theorem dL_law_1614 : decode cL_law 1614 = .ok (.iload 4, 2) := by decide +kernel
theorem dL_law_1616 : decode cL_law 1616 = .ok (.iconst 2, 1) := by decide +kernel
theorem dL_law_1617 : decode cL_law 1617 = .ok (.iadd, 1) := by decide +kernel
theorem dL_law_1618 : decode cL_law 1618 = .ok (.iaload, 1) := by decide +kernel
theorem dL_law_1619 : decode cL_law 1619 = .ok (.aload_n 3, 1) := by decide +kernel
theorem dL_law_1620 : decode cL_law 1620 = .ok (.invokestatic 177, 3) := by decide +kernel
theorem dL_law_1623 : decode cL_law 1623 = .ok (.istore 5, 2) := by decide +kernel
theorem dL_law_1625 : decode cL_law 1625 = .ok (.aload_n 2, 1) := by decide +kernel
theorem dL_law_1626 : decode cL_law 1626 = .ok (.aload_n 0, 1) := by decide +kernel
theorem dL_law_1627 : decode cL_law 1627 = .ok (.iload 4, 2) := by decide +kernel
theorem dL_law_1629 : decode cL_law 1629 = .ok (.iconst 1, 1) := by decide +kernel
theorem dL_law_1630 : decode cL_law 1630 = .ok (.iadd, 1) := by decide +kernel
theorem dL_law_1631 : decode cL_law 1631 = .ok (.iaload, 1) := by decide +kernel
theorem dL_law_1632 : decode cL_law 1632 = .ok (.aload_n 0, 1) := by decide +kernel
theorem dL_law_1633 : decode cL_law 1633 = .ok (.iload 4, 2) := by decide +kernel
theorem dL_law_1635 : decode cL_law 1635 = .ok (.iconst 2, 1) := by decide +kernel
theorem dL_law_1636 : decode cL_law 1636 = .ok (.iadd, 1) := by decide +kernel
theorem dL_law_1637 : decode cL_law 1637 = .ok (.iaload, 1) := by decide +kernel
theorem dL_law_1638 : decode cL_law 1638 = .ok (.invokevirtual 179, 3) := by decide +kernel
theorem dL_law_1641 : decode cL_law 1641 = .ok (.istore 6, 2) := by decide +kernel
theorem dL_law_1643 : decode cL_law 1643 = .ok (.aload_n 2, 1) := by decide +kernel
theorem dL_law_1644 : decode cL_law 1644 = .ok (.invokevirtual 106, 3) := by decide +kernel
theorem dL_law_1647 : decode cL_law 1647 = .ok (.iload 5, 2) := by decide +kernel
theorem dL_law_1649 : decode cL_law 1649 = .ok (.if_icmp .eq 5, 3) := by decide +kernel
theorem dL_law_1652 : decode cL_law 1652 = .ok (.iconst 0, 1) := by decide +kernel
theorem dL_law_1653 : decode cL_law 1653 = .ok (.ireturn, 1) := by decide +kernel
theorem dL_law_1654 : decode cL_law 1654 = .ok (.iload 5, 2) := by decide +kernel
theorem dL_law_1656 : decode cL_law 1656 = .ok (.ifCond .ne 15, 3) := by decide +kernel
theorem dL_law_1659 : decode cL_law 1659 = .ok (.aload_n 3, 1) := by decide +kernel
theorem dL_law_1660 : decode cL_law 1660 = .ok (.iconst 0, 1) := by decide +kernel
theorem dL_law_1661 : decode cL_law 1661 = .ok (.laload, 1) := by decide +kernel
theorem dL_law_1662 : decode cL_law 1662 = .ok (.iload 6, 2) := by decide +kernel
theorem dL_law_1664 : decode cL_law 1664 = .ok (.i2l, 1) := by decide +kernel
theorem dL_law_1665 : decode cL_law 1665 = .ok (.lcmp, 1) := by decide +kernel
theorem dL_law_1666 : decode cL_law 1666 = .ok (.ifCond .eq 5, 3) := by decide +kernel
theorem dL_law_1669 : decode cL_law 1669 = .ok (.iconst 0, 1) := by decide +kernel
theorem dL_law_1670 : decode cL_law 1670 = .ok (.ireturn, 1) := by decide +kernel
theorem dL_law_1671 : decode cL_law 1671 = .ok (.goto 203, 3) := by decide +kernel
theorem dL_law_1674 : decode cL_law 1674 = .ok (.aload_n 1, 1) := by decide +kernel
theorem dL_law_1675 : decode cL_law 1675 = .ok (.aload_n 0, 1) := by decide +kernel
theorem dL_law_1676 : decode cL_law 1676 = .ok (.iload 4, 2) := by decide +kernel
theorem dL_law_1678 : decode cL_law 1678 = .ok (.iconst 1, 1) := by decide +kernel
theorem dL_law_1679 : decode cL_law 1679 = .ok (.iadd, 1) := by decide +kernel
theorem dL_law_1680 : decode cL_law 1680 = .ok (.iaload, 1) := by decide +kernel
theorem dL_law_1681 : decode cL_law 1681 = .ok (.invokevirtual 180, 3) := by decide +kernel
theorem dL_law_1684 : decode cL_law 1684 = .ok (.aload_n 2, 1) := by decide +kernel
theorem dL_law_1685 : decode cL_law 1685 = .ok (.aload_n 0, 1) := by decide +kernel
theorem dL_law_1686 : decode cL_law 1686 = .ok (.iload 4, 2) := by decide +kernel
theorem dL_law_1688 : decode cL_law 1688 = .ok (.iconst 1, 1) := by decide +kernel
theorem dL_law_1689 : decode cL_law 1689 = .ok (.iadd, 1) := by decide +kernel
theorem dL_law_1690 : decode cL_law 1690 = .ok (.iaload, 1) := by decide +kernel
theorem dL_law_1691 : decode cL_law 1691 = .ok (.invokevirtual 183, 3) := by decide +kernel
theorem dL_law_1694 : decode cL_law 1694 = .ok (.if_icmp .eq 180, 3) := by decide +kernel
theorem dL_law_1697 : decode cL_law 1697 = .ok (.iconst 0, 1) := by decide +kernel
theorem dL_law_1698 : decode cL_law 1698 = .ok (.ireturn, 1) := by decide +kernel
theorem dL_law_1699 : decode cL_law 1699 = .ok (.aload_n 1, 1) := by decide +kernel
theorem dL_law_1700 : decode cL_law 1700 = .ok (.aload_n 0, 1) := by decide +kernel
theorem dL_law_1701 : decode cL_law 1701 = .ok (.iload 4, 2) := by decide +kernel
theorem dL_law_1703 : decode cL_law 1703 = .ok (.iconst 1, 1) := by decide +kernel
theorem dL_law_1704 : decode cL_law 1704 = .ok (.iadd, 1) := by decide +kernel
theorem dL_law_1705 : decode cL_law 1705 = .ok (.iaload, 1) := by decide +kernel
theorem dL_law_1706 : decode cL_law 1706 = .ok (.invokevirtual 184, 3) := by decide +kernel
theorem dL_law_1709 : decode cL_law 1709 = .ok (.aload_n 2, 1) := by decide +kernel
theorem dL_law_1710 : decode cL_law 1710 = .ok (.aload_n 0, 1) := by decide +kernel
theorem dL_law_1711 : decode cL_law 1711 = .ok (.iload 4, 2) := by decide +kernel
theorem dL_law_1713 : decode cL_law 1713 = .ok (.iconst 1, 1) := by decide +kernel
theorem dL_law_1714 : decode cL_law 1714 = .ok (.iadd, 1) := by decide +kernel
theorem dL_law_1715 : decode cL_law 1715 = .ok (.iaload, 1) := by decide +kernel
theorem dL_law_1716 : decode cL_law 1716 = .ok (.invokevirtual 187, 3) := by decide +kernel
theorem dL_law_1719 : decode cL_law 1719 = .ok (.if_icmp .eq 155, 3) := by decide +kernel
theorem dL_law_1722 : decode cL_law 1722 = .ok (.iconst 0, 1) := by decide +kernel
theorem dL_law_1723 : decode cL_law 1723 = .ok (.ireturn, 1) := by decide +kernel
theorem dL_law_1724 : decode cL_law 1724 = .ok (.aload_n 1, 1) := by decide +kernel
theorem dL_law_1725 : decode cL_law 1725 = .ok (.aload_n 0, 1) := by decide +kernel
theorem dL_law_1726 : decode cL_law 1726 = .ok (.iload 4, 2) := by decide +kernel
theorem dL_law_1728 : decode cL_law 1728 = .ok (.iconst 1, 1) := by decide +kernel
theorem dL_law_1729 : decode cL_law 1729 = .ok (.iadd, 1) := by decide +kernel
theorem dL_law_1730 : decode cL_law 1730 = .ok (.iaload, 1) := by decide +kernel
theorem dL_law_1731 : decode cL_law 1731 = .ok (.invokevirtual 188, 3) := by decide +kernel
theorem dL_law_1734 : decode cL_law 1734 = .ok (.aload_n 2, 1) := by decide +kernel
theorem dL_law_1735 : decode cL_law 1735 = .ok (.aload_n 0, 1) := by decide +kernel
theorem dL_law_1736 : decode cL_law 1736 = .ok (.iload 4, 2) := by decide +kernel
theorem dL_law_1738 : decode cL_law 1738 = .ok (.iconst 1, 1) := by decide +kernel
theorem dL_law_1739 : decode cL_law 1739 = .ok (.iadd, 1) := by decide +kernel
theorem dL_law_1740 : decode cL_law 1740 = .ok (.iaload, 1) := by decide +kernel
theorem dL_law_1741 : decode cL_law 1741 = .ok (.invokevirtual 191, 3) := by decide +kernel
theorem dL_law_1744 : decode cL_law 1744 = .ok (.if_icmp .eq 130, 3) := by decide +kernel
theorem dL_law_1747 : decode cL_law 1747 = .ok (.iconst 0, 1) := by decide +kernel
theorem dL_law_1748 : decode cL_law 1748 = .ok (.ireturn, 1) := by decide +kernel
theorem dL_law_1749 : decode cL_law 1749 = .ok (.aload_n 1, 1) := by decide +kernel
theorem dL_law_1750 : decode cL_law 1750 = .ok (.aload_n 0, 1) := by decide +kernel
theorem dL_law_1751 : decode cL_law 1751 = .ok (.iload 4, 2) := by decide +kernel
theorem dL_law_1753 : decode cL_law 1753 = .ok (.iconst 1, 1) := by decide +kernel
theorem dL_law_1754 : decode cL_law 1754 = .ok (.iadd, 1) := by decide +kernel
theorem dL_law_1755 : decode cL_law 1755 = .ok (.iaload, 1) := by decide +kernel
theorem dL_law_1756 : decode cL_law 1756 = .ok (.aload_n 3, 1) := by decide +kernel
theorem dL_law_1757 : decode cL_law 1757 = .ok (.invokestatic 192, 3) := by decide +kernel
theorem dL_law_1760 : decode cL_law 1760 = .ok (.istore 5, 2) := by decide +kernel
theorem dL_law_1762 : decode cL_law 1762 = .ok (.aload_n 2, 1) := by decide +kernel
theorem dL_law_1763 : decode cL_law 1763 = .ok (.aload_n 0, 1) := by decide +kernel
theorem dL_law_1764 : decode cL_law 1764 = .ok (.iload 4, 2) := by decide +kernel
theorem dL_law_1766 : decode cL_law 1766 = .ok (.iconst 1, 1) := by decide +kernel
theorem dL_law_1767 : decode cL_law 1767 = .ok (.iadd, 1) := by decide +kernel
theorem dL_law_1768 : decode cL_law 1768 = .ok (.iaload, 1) := by decide +kernel
theorem dL_law_1769 : decode cL_law 1769 = .ok (.invokevirtual 194, 3) := by decide +kernel
theorem dL_law_1772 : decode cL_law 1772 = .ok (.istore 6, 2) := by decide +kernel
theorem dL_law_1774 : decode cL_law 1774 = .ok (.aload_n 2, 1) := by decide +kernel
theorem dL_law_1775 : decode cL_law 1775 = .ok (.invokevirtual 106, 3) := by decide +kernel
theorem dL_law_1778 : decode cL_law 1778 = .ok (.iload 5, 2) := by decide +kernel
theorem dL_law_1780 : decode cL_law 1780 = .ok (.if_icmp .eq 5, 3) := by decide +kernel
theorem dL_law_1783 : decode cL_law 1783 = .ok (.iconst 0, 1) := by decide +kernel
theorem dL_law_1784 : decode cL_law 1784 = .ok (.ireturn, 1) := by decide +kernel
theorem dL_law_1785 : decode cL_law 1785 = .ok (.iload 5, 2) := by decide +kernel
theorem dL_law_1787 : decode cL_law 1787 = .ok (.ifCond .ne 15, 3) := by decide +kernel
theorem dL_law_1790 : decode cL_law 1790 = .ok (.aload_n 3, 1) := by decide +kernel
theorem dL_law_1791 : decode cL_law 1791 = .ok (.iconst 0, 1) := by decide +kernel
theorem dL_law_1792 : decode cL_law 1792 = .ok (.laload, 1) := by decide +kernel
theorem dL_law_1793 : decode cL_law 1793 = .ok (.iload 6, 2) := by decide +kernel
theorem dL_law_1795 : decode cL_law 1795 = .ok (.i2l, 1) := by decide +kernel
theorem dL_law_1796 : decode cL_law 1796 = .ok (.lcmp, 1) := by decide +kernel
theorem dL_law_1797 : decode cL_law 1797 = .ok (.ifCond .eq 5, 3) := by decide +kernel
theorem dL_law_1800 : decode cL_law 1800 = .ok (.iconst 0, 1) := by decide +kernel
theorem dL_law_1801 : decode cL_law 1801 = .ok (.ireturn, 1) := by decide +kernel
theorem dL_law_1802 : decode cL_law 1802 = .ok (.goto 72, 3) := by decide +kernel
theorem dL_law_1805 : decode cL_law 1805 = .ok (.aload_n 1, 1) := by decide +kernel
theorem dL_law_1806 : decode cL_law 1806 = .ok (.aload_n 0, 1) := by decide +kernel
theorem dL_law_1807 : decode cL_law 1807 = .ok (.iload 4, 2) := by decide +kernel
theorem dL_law_1809 : decode cL_law 1809 = .ok (.iconst 1, 1) := by decide +kernel
theorem dL_law_1810 : decode cL_law 1810 = .ok (.iadd, 1) := by decide +kernel
theorem dL_law_1811 : decode cL_law 1811 = .ok (.iaload, 1) := by decide +kernel
theorem dL_law_1812 : decode cL_law 1812 = .ok (.aload_n 3, 1) := by decide +kernel
theorem dL_law_1813 : decode cL_law 1813 = .ok (.invokestatic 195, 3) := by decide +kernel
theorem dL_law_1816 : decode cL_law 1816 = .ok (.istore 5, 2) := by decide +kernel
theorem dL_law_1818 : decode cL_law 1818 = .ok (.aload_n 2, 1) := by decide +kernel
theorem dL_law_1819 : decode cL_law 1819 = .ok (.aload_n 0, 1) := by decide +kernel
theorem dL_law_1820 : decode cL_law 1820 = .ok (.iload 4, 2) := by decide +kernel
theorem dL_law_1822 : decode cL_law 1822 = .ok (.iconst 1, 1) := by decide +kernel
theorem dL_law_1823 : decode cL_law 1823 = .ok (.iadd, 1) := by decide +kernel
theorem dL_law_1824 : decode cL_law 1824 = .ok (.iaload, 1) := by decide +kernel
theorem dL_law_1825 : decode cL_law 1825 = .ok (.invokevirtual 197, 3) := by decide +kernel
theorem dL_law_1828 : decode cL_law 1828 = .ok (.istore 6, 2) := by decide +kernel
theorem dL_law_1830 : decode cL_law 1830 = .ok (.aload_n 2, 1) := by decide +kernel
theorem dL_law_1831 : decode cL_law 1831 = .ok (.invokevirtual 106, 3) := by decide +kernel
theorem dL_law_1834 : decode cL_law 1834 = .ok (.iload 5, 2) := by decide +kernel
theorem dL_law_1836 : decode cL_law 1836 = .ok (.if_icmp .eq 5, 3) := by decide +kernel
theorem dL_law_1839 : decode cL_law 1839 = .ok (.iconst 0, 1) := by decide +kernel
theorem dL_law_1840 : decode cL_law 1840 = .ok (.ireturn, 1) := by decide +kernel
theorem dL_law_1841 : decode cL_law 1841 = .ok (.iload 5, 2) := by decide +kernel
theorem dL_law_1843 : decode cL_law 1843 = .ok (.ifCond .ne 15, 3) := by decide +kernel
theorem dL_law_1846 : decode cL_law 1846 = .ok (.aload_n 3, 1) := by decide +kernel
theorem dL_law_1847 : decode cL_law 1847 = .ok (.iconst 0, 1) := by decide +kernel
theorem dL_law_1848 : decode cL_law 1848 = .ok (.laload, 1) := by decide +kernel
theorem dL_law_1849 : decode cL_law 1849 = .ok (.iload 6, 2) := by decide +kernel
theorem dL_law_1851 : decode cL_law 1851 = .ok (.i2l, 1) := by decide +kernel
theorem dL_law_1852 : decode cL_law 1852 = .ok (.lcmp, 1) := by decide +kernel
theorem dL_law_1853 : decode cL_law 1853 = .ok (.ifCond .eq 5, 3) := by decide +kernel
theorem dL_law_1856 : decode cL_law 1856 = .ok (.iconst 0, 1) := by decide +kernel
theorem dL_law_1857 : decode cL_law 1857 = .ok (.ireturn, 1) := by decide +kernel
theorem dL_law_1858 : decode cL_law 1858 = .ok (.goto 16, 3) := by decide +kernel
theorem dL_law_1861 : decode cL_law 1861 = .ok (.aload_n 1, 1) := by decide +kernel
theorem dL_law_1862 : decode cL_law 1862 = .ok (.invokevirtual 198, 3) := by decide +kernel
theorem dL_law_1865 : decode cL_law 1865 = .ok (.aload_n 2, 1) := by decide +kernel
theorem dL_law_1866 : decode cL_law 1866 = .ok (.invokevirtual 202, 3) := by decide +kernel
theorem dL_law_1869 : decode cL_law 1869 = .ok (.if_icmp .eq 5, 3) := by decide +kernel
theorem dL_law_1872 : decode cL_law 1872 = .ok (.iconst 0, 1) := by decide +kernel
theorem dL_law_1873 : decode cL_law 1873 = .ok (.ireturn, 1) := by decide +kernel
theorem dL_law_1874 : decode cL_law 1874 = .ok (.iinc 4 5, 3) := by decide +kernel
theorem dL_law_1877 : decode cL_law 1877 = .ok (.goto (-1854), 3) := by decide +kernel
theorem dL_law_1880 : decode cL_law 1880 = .ok (.iconst 1, 1) := by decide +kernel
theorem dL_law_1881 : decode cL_law 1881 = .ok (.ireturn, 1) := by decide +kernel
