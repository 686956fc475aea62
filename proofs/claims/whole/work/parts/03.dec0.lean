theorem dX0_init_0 : decode cX0_init 0 = .ok (.aload_n 0, 1) := by decide +kernel
theorem dX0_init_1 : decode cX0_init 1 = .ok (.invokespecial 3, 3) := by decide +kernel
theorem dX0_init_4 : decode cX0_init 4 = .ok (.aload_n 0, 1) := by decide +kernel
theorem dX0_init_5 : decode cX0_init 5 = .ok (.sipush 216, 3) := by decide +kernel
theorem dX0_init_8 : decode cX0_init 8 = .ok (.newarray .int, 2) := by decide +kernel
theorem dX0_init_10 : decode cX0_init 10 = .ok (.putfield 9, 3) := by decide +kernel
theorem dX0_init_13 : decode cX0_init 13 = .ok (.aload_n 0, 1) := by decide +kernel
theorem dX0_init_14 : decode cX0_init 14 = .ok (.sipush 216, 3) := by decide +kernel
theorem dX0_init_17 : decode cX0_init 17 = .ok (.newarray .int, 2) := by decide +kernel
theorem dX0_init_19 : decode cX0_init 19 = .ok (.putfield 15, 3) := by decide +kernel
theorem dX0_init_22 : decode cX0_init 22 = .ok (.aload_n 0, 1) := by decide +kernel
theorem dX0_init_23 : decode cX0_init 23 = .ok (.bipush 9, 2) := by decide +kernel
theorem dX0_init_25 : decode cX0_init 25 = .ok (.newarray .int, 2) := by decide +kernel
theorem dX0_init_27 : decode cX0_init 27 = .ok (.putfield 18, 3) := by decide +kernel
theorem dX0_init_30 : decode cX0_init 30 = .ok (.aload_n 0, 1) := by decide +kernel
theorem dX0_init_31 : decode cX0_init 31 = .ok (.bipush 24, 2) := by decide +kernel
theorem dX0_init_33 : decode cX0_init 33 = .ok (.newarray .int, 2) := by decide +kernel
theorem dX0_init_35 : decode cX0_init 35 = .ok (.putfield 21, 3) := by decide +kernel
theorem dX0_init_38 : decode cX0_init 38 = .ok (.aload_n 0, 1) := by decide +kernel
theorem dX0_init_39 : decode cX0_init 39 = .ok (.bipush 24, 2) := by decide +kernel
theorem dX0_init_41 : decode cX0_init 41 = .ok (.newarray .int, 2) := by decide +kernel
theorem dX0_init_43 : decode cX0_init 43 = .ok (.putfield 24, 3) := by decide +kernel
theorem dX0_init_46 : decode cX0_init 46 = .ok (.return_, 1) := by decide +kernel
theorem dX0_collect_0 : decode cX0_collect 0 = .ok (.aload_n 0, 1) := by decide +kernel
theorem dX0_collect_1 : decode cX0_collect 1 = .ok (.getfield 27, 3) := by decide +kernel
theorem dX0_collect_4 : decode cX0_collect 4 = .ok (.bipush 24, 2) := by decide +kernel
theorem dX0_collect_6 : decode cX0_collect 6 = .ok (.if_icmp .ge 33, 3) := by decide +kernel
theorem dX0_collect_9 : decode cX0_collect 9 = .ok (.aload_n 0, 1) := by decide +kernel
theorem dX0_collect_10 : decode cX0_collect 10 = .ok (.getfield 21, 3) := by decide +kernel
theorem dX0_collect_13 : decode cX0_collect 13 = .ok (.aload_n 0, 1) := by decide +kernel
theorem dX0_collect_14 : decode cX0_collect 14 = .ok (.getfield 27, 3) := by decide +kernel
theorem dX0_collect_17 : decode cX0_collect 17 = .ok (.iload_n 1, 1) := by decide +kernel
theorem dX0_collect_18 : decode cX0_collect 18 = .ok (.iastore, 1) := by decide +kernel
theorem dX0_collect_19 : decode cX0_collect 19 = .ok (.aload_n 0, 1) := by decide +kernel
theorem dX0_collect_20 : decode cX0_collect 20 = .ok (.getfield 24, 3) := by decide +kernel
theorem dX0_collect_23 : decode cX0_collect 23 = .ok (.aload_n 0, 1) := by decide +kernel
theorem dX0_collect_24 : decode cX0_collect 24 = .ok (.getfield 27, 3) := by decide +kernel
theorem dX0_collect_27 : decode cX0_collect 27 = .ok (.iload_n 2, 1) := by decide +kernel
theorem dX0_collect_28 : decode cX0_collect 28 = .ok (.iastore, 1) := by decide +kernel
theorem dX0_collect_29 : decode cX0_collect 29 = .ok (.aload_n 0, 1) := by decide +kernel
theorem dX0_collect_30 : decode cX0_collect 30 = .ok (.dup, 1) := by decide +kernel
theorem dX0_collect_31 : decode cX0_collect 31 = .ok (.getfield 27, 3) := by decide +kernel
theorem dX0_collect_34 : decode cX0_collect 34 = .ok (.iconst 1, 1) := by decide +kernel
theorem dX0_collect_35 : decode cX0_collect 35 = .ok (.iadd, 1) := by decide +kernel
theorem dX0_collect_36 : decode cX0_collect 36 = .ok (.putfield 27, 3) := by decide +kernel
theorem dX0_collect_39 : decode cX0_collect 39 = .ok (.aload_n 0, 1) := by decide +kernel
theorem dX0_collect_40 : decode cX0_collect 40 = .ok (.getfield 27, 3) := by decide +kernel
theorem dX0_collect_43 : decode cX0_collect 43 = .ok (.ireturn, 1) := by decide +kernel
theorem dX0_makeMaker_0 : decode cX0_makeMaker 0 = .ok (.aload_n 0, 1) := by decide +kernel
theorem dX0_makeMaker_1 : decode cX0_makeMaker 1 = .ok (.iload_n 1, 1) := by decide +kernel
theorem dX0_makeMaker_2 : decode cX0_makeMaker 2 = .ok (.invokevirtual 31, 3) := by decide +kernel
theorem dX0_makeMaker_5 : decode cX0_makeMaker 5 = .ok (.istore_n 2, 1) := by decide +kernel
theorem dX0_makeMaker_6 : decode cX0_makeMaker 6 = .ok (.iload_n 2, 1) := by decide +kernel
theorem dX0_makeMaker_7 : decode cX0_makeMaker 7 = .ok (.ifCond .ne 53, 3) := by decide +kernel
theorem dX0_makeMaker_10 : decode cX0_makeMaker 10 = .ok (.aload_n 0, 1) := by decide +kernel
theorem dX0_makeMaker_11 : decode cX0_makeMaker 11 = .ok (.getfield 21, 3) := by decide +kernel
theorem dX0_makeMaker_14 : decode cX0_makeMaker 14 = .ok (.iconst 0, 1) := by decide +kernel
theorem dX0_makeMaker_15 : decode cX0_makeMaker 15 = .ok (.aload_n 0, 1) := by decide +kernel
theorem dX0_makeMaker_16 : decode cX0_makeMaker 16 = .ok (.getfield 9, 3) := by decide +kernel
theorem dX0_makeMaker_19 : decode cX0_makeMaker 19 = .ok (.bipush 24, 2) := by decide +kernel
theorem dX0_makeMaker_21 : decode cX0_makeMaker 21 = .ok (.iload_n 1, 1) := by decide +kernel
theorem dX0_makeMaker_22 : decode cX0_makeMaker 22 = .ok (.imul, 1) := by decide +kernel
theorem dX0_makeMaker_23 : decode cX0_makeMaker 23 = .ok (.aload_n 0, 1) := by decide +kernel
theorem dX0_makeMaker_24 : decode cX0_makeMaker 24 = .ok (.getfield 27, 3) := by decide +kernel
theorem dX0_makeMaker_27 : decode cX0_makeMaker 27 = .ok (.invokestatic 35, 3) := by decide +kernel
theorem dX0_makeMaker_30 : decode cX0_makeMaker 30 = .ok (.aload_n 0, 1) := by decide +kernel
theorem dX0_makeMaker_31 : decode cX0_makeMaker 31 = .ok (.getfield 24, 3) := by decide +kernel
theorem dX0_makeMaker_34 : decode cX0_makeMaker 34 = .ok (.iconst 0, 1) := by decide +kernel
theorem dX0_makeMaker_35 : decode cX0_makeMaker 35 = .ok (.aload_n 0, 1) := by decide +kernel
theorem dX0_makeMaker_36 : decode cX0_makeMaker 36 = .ok (.getfield 15, 3) := by decide +kernel
theorem dX0_makeMaker_39 : decode cX0_makeMaker 39 = .ok (.bipush 24, 2) := by decide +kernel
theorem dX0_makeMaker_41 : decode cX0_makeMaker 41 = .ok (.iload_n 1, 1) := by decide +kernel
theorem dX0_makeMaker_42 : decode cX0_makeMaker 42 = .ok (.imul, 1) := by decide +kernel
theorem dX0_makeMaker_43 : decode cX0_makeMaker 43 = .ok (.aload_n 0, 1) := by decide +kernel
theorem dX0_makeMaker_44 : decode cX0_makeMaker 44 = .ok (.getfield 27, 3) := by decide +kernel
theorem dX0_makeMaker_47 : decode cX0_makeMaker 47 = .ok (.invokestatic 35, 3) := by decide +kernel
theorem dX0_makeMaker_50 : decode cX0_makeMaker 50 = .ok (.aload_n 0, 1) := by decide +kernel
theorem dX0_makeMaker_51 : decode cX0_makeMaker 51 = .ok (.getfield 18, 3) := by decide +kernel
theorem dX0_makeMaker_54 : decode cX0_makeMaker 54 = .ok (.iload_n 1, 1) := by decide +kernel
theorem dX0_makeMaker_55 : decode cX0_makeMaker 55 = .ok (.aload_n 0, 1) := by decide +kernel
theorem dX0_makeMaker_56 : decode cX0_makeMaker 56 = .ok (.getfield 27, 3) := by decide +kernel
theorem dX0_makeMaker_59 : decode cX0_makeMaker 59 = .ok (.iastore, 1) := by decide +kernel
theorem dX0_makeMaker_60 : decode cX0_makeMaker 60 = .ok (.aload_n 0, 1) := by decide +kernel
theorem dX0_makeMaker_61 : decode cX0_makeMaker 61 = .ok (.iconst 0, 1) := by decide +kernel
theorem dX0_makeMaker_62 : decode cX0_makeMaker 62 = .ok (.putfield 27, 3) := by decide +kernel
theorem dX0_makeMaker_65 : decode cX0_makeMaker 65 = .ok (.iload_n 2, 1) := by decide +kernel
theorem dX0_makeMaker_66 : decode cX0_makeMaker 66 = .ok (.ireturn, 1) := by decide +kernel
theorem dX0_faultFor_0 : decode cX0_faultFor 0 = .ok (.iconst 0, 1) := by decide +kernel
theorem dX0_faultFor_1 : decode cX0_faultFor 1 = .ok (.istore_n 2, 1) := by decide +kernel
theorem dX0_faultFor_2 : decode cX0_faultFor 2 = .ok (.iconst 0, 1) := by decide +kernel
theorem dX0_faultFor_3 : decode cX0_faultFor 3 = .ok (.istore_n 3, 1) := by decide +kernel
theorem dX0_faultFor_4 : decode cX0_faultFor 4 = .ok (.iload_n 3, 1) := by decide +kernel
theorem dX0_faultFor_5 : decode cX0_faultFor 5 = .ok (.aload_n 0, 1) := by decide +kernel
theorem dX0_faultFor_6 : decode cX0_faultFor 6 = .ok (.getfield 27, 3) := by decide +kernel
theorem dX0_faultFor_9 : decode cX0_faultFor 9 = .ok (.if_icmp .ge 75, 3) := by decide +kernel
theorem dX0_faultFor_12 : decode cX0_faultFor 12 = .ok (.aload_n 0, 1) := by decide +kernel
theorem dX0_faultFor_13 : decode cX0_faultFor 13 = .ok (.getfield 21, 3) := by decide +kernel
theorem dX0_faultFor_16 : decode cX0_faultFor 16 = .ok (.iload_n 3, 1) := by decide +kernel
theorem dX0_faultFor_17 : decode cX0_faultFor 17 = .ok (.iaload, 1) := by decide +kernel
theorem dX0_faultFor_18 : decode cX0_faultFor 18 = .ok (.istore 4, 2) := by decide +kernel
theorem dX0_faultFor_20 : decode cX0_faultFor 20 = .ok (.iload_n 1, 1) := by decide +kernel
theorem dX0_faultFor_21 : decode cX0_faultFor 21 = .ok (.invokestatic 41, 3) := by decide +kernel
theorem dX0_faultFor_24 : decode cX0_faultFor 24 = .ok (.iload 4, 2) := by decide +kernel
theorem dX0_faultFor_26 : decode cX0_faultFor 26 = .ok (.aload_n 0, 1) := by decide +kernel
theorem dX0_faultFor_27 : decode cX0_faultFor 27 = .ok (.getfield 24, 3) := by decide +kernel
theorem dX0_faultFor_30 : decode cX0_faultFor 30 = .ok (.iload_n 3, 1) := by decide +kernel
theorem dX0_faultFor_31 : decode cX0_faultFor 31 = .ok (.iaload, 1) := by decide +kernel
theorem dX0_faultFor_32 : decode cX0_faultFor 32 = .ok (.invokestatic 45, 3) := by decide +kernel
theorem dX0_faultFor_35 : decode cX0_faultFor 35 = .ok (.ifCond .eq 13, 3) := by decide +kernel
theorem dX0_faultFor_38 : decode cX0_faultFor 38 = .ok (.iload_n 2, 1) := by decide +kernel
theorem dX0_faultFor_39 : decode cX0_faultFor 39 = .ok (.getstatic 49, 3) := by decide +kernel
theorem dX0_faultFor_42 : decode cX0_faultFor 42 = .ok (.iload 4, 2) := by decide +kernel
theorem dX0_faultFor_44 : decode cX0_faultFor 44 = .ok (.iaload, 1) := by decide +kernel
theorem dX0_faultFor_45 : decode cX0_faultFor 45 = .ok (.if_icmp .ge 7, 3) := by decide +kernel
theorem dX0_faultFor_48 : decode cX0_faultFor 48 = .ok (.iconst (-1), 1) := by decide +kernel
theorem dX0_faultFor_49 : decode cX0_faultFor 49 = .ok (.iload_n 3, 1) := by decide +kernel
theorem dX0_faultFor_50 : decode cX0_faultFor 50 = .ok (.isub, 1) := by decide +kernel
theorem dX0_faultFor_51 : decode cX0_faultFor 51 = .ok (.ireturn, 1) := by decide +kernel
theorem dX0_faultFor_52 : decode cX0_faultFor 52 = .ok (.iload_n 2, 1) := by decide +kernel
theorem dX0_faultFor_53 : decode cX0_faultFor 53 = .ok (.getstatic 52, 3) := by decide +kernel
theorem dX0_faultFor_56 : decode cX0_faultFor 56 = .ok (.iload 4, 2) := by decide +kernel
theorem dX0_faultFor_58 : decode cX0_faultFor 58 = .ok (.iaload, 1) := by decide +kernel
theorem dX0_faultFor_59 : decode cX0_faultFor 59 = .ok (.getstatic 49, 3) := by decide +kernel
theorem dX0_faultFor_62 : decode cX0_faultFor 62 = .ok (.iload 4, 2) := by decide +kernel
theorem dX0_faultFor_64 : decode cX0_faultFor 64 = .ok (.iaload, 1) := by decide +kernel
theorem dX0_faultFor_65 : decode cX0_faultFor 65 = .ok (.isub, 1) := by decide +kernel
theorem dX0_faultFor_66 : decode cX0_faultFor 66 = .ok (.iadd, 1) := by decide +kernel
theorem dX0_faultFor_67 : decode cX0_faultFor 67 = .ok (.istore_n 2, 1) := by decide +kernel
theorem dX0_faultFor_68 : decode cX0_faultFor 68 = .ok (.iload_n 2, 1) := by decide +kernel
theorem dX0_faultFor_69 : decode cX0_faultFor 69 = .ok (.bipush 8, 2) := by decide +kernel
theorem dX0_faultFor_71 : decode cX0_faultFor 71 = .ok (.if_icmp .le 7, 3) := by decide +kernel
theorem dX0_faultFor_74 : decode cX0_faultFor 74 = .ok (.iconst (-1), 1) := by decide +kernel
theorem dX0_faultFor_75 : decode cX0_faultFor 75 = .ok (.iload_n 3, 1) := by decide +kernel
theorem dX0_faultFor_76 : decode cX0_faultFor 76 = .ok (.isub, 1) := by decide +kernel
theorem dX0_faultFor_77 : decode cX0_faultFor 77 = .ok (.ireturn, 1) := by decide +kernel
theorem dX0_faultFor_78 : decode cX0_faultFor 78 = .ok (.iinc 3 1, 3) := by decide +kernel
theorem dX0_faultFor_81 : decode cX0_faultFor 81 = .ok (.goto (-77), 3) := by decide +kernel
theorem dX0_faultFor_84 : decode cX0_faultFor 84 = .ok (.iload_n 2, 1) := by decide +kernel
theorem dX0_faultFor_85 : decode cX0_faultFor 85 = .ok (.iconst 1, 1) := by decide +kernel
theorem dX0_faultFor_86 : decode cX0_faultFor 86 = .ok (.if_icmp .ne 7, 3) := by decide +kernel
theorem dX0_faultFor_89 : decode cX0_faultFor 89 = .ok (.iconst 0, 1) := by decide +kernel
theorem dX0_faultFor_90 : decode cX0_faultFor 90 = .ok (.goto 9, 3) := by decide +kernel
theorem dX0_faultFor_93 : decode cX0_faultFor 93 = .ok (.iconst (-1), 1) := by decide +kernel
theorem dX0_faultFor_94 : decode cX0_faultFor 94 = .ok (.aload_n 0, 1) := by decide +kernel
theorem dX0_faultFor_95 : decode cX0_faultFor 95 = .ok (.getfield 27, 3) := by decide +kernel
theorem dX0_faultFor_98 : decode cX0_faultFor 98 = .ok (.isub, 1) := by decide +kernel
theorem dX0_faultFor_99 : decode cX0_faultFor 99 = .ok (.ireturn, 1) := by decide +kernel
theorem dX0_isStep_0 : decode cX0_isStep 0 = .ok (.iload_n 1, 1) := by decide +kernel
theorem dX0_isStep_1 : decode cX0_isStep 1 = .ok (.tableswitch 201 0 13 #[71, 73, 96, 115, 134, 150, 150, 150, 167, 184, 184, 184, 184, 184], 71) := by decide +kernel
theorem dX0_isStep_72 : decode cX0_isStep 72 = .ok (.iconst 1, 1) := by decide +kernel
theorem dX0_isStep_73 : decode cX0_isStep 73 = .ok (.ireturn, 1) := by decide +kernel
theorem dX0_isStep_74 : decode cX0_isStep 74 = .ok (.iload_n 2, 1) := by decide +kernel
theorem dX0_isStep_75 : decode cX0_isStep 75 = .ok (.ifCond .lt 20, 3) := by decide +kernel
theorem dX0_isStep_78 : decode cX0_isStep 78 = .ok (.iload_n 2, 1) := by decide +kernel
theorem dX0_isStep_79 : decode cX0_isStep 79 = .ok (.iload_n 0, 1) := by decide +kernel
theorem dX0_isStep_80 : decode cX0_isStep 80 = .ok (.ifCond .eq 7, 3) := by decide +kernel
theorem dX0_isStep_83 : decode cX0_isStep 83 = .ok (.iconst 4, 1) := by decide +kernel
theorem dX0_isStep_84 : decode cX0_isStep 84 = .ok (.goto 4, 3) := by decide +kernel
theorem dX0_isStep_87 : decode cX0_isStep 87 = .ok (.iconst 2, 1) := by decide +kernel
theorem dX0_isStep_88 : decode cX0_isStep 88 = .ok (.if_icmp .ge 7, 3) := by decide +kernel
theorem dX0_isStep_91 : decode cX0_isStep 91 = .ok (.iconst 1, 1) := by decide +kernel
theorem dX0_isStep_92 : decode cX0_isStep 92 = .ok (.goto 4, 3) := by decide +kernel
theorem dX0_isStep_95 : decode cX0_isStep 95 = .ok (.iconst 0, 1) := by decide +kernel
theorem dX0_isStep_96 : decode cX0_isStep 96 = .ok (.ireturn, 1) := by decide +kernel
theorem dX0_isStep_97 : decode cX0_isStep 97 = .ok (.iload_n 0, 1) := by decide +kernel
theorem dX0_isStep_98 : decode cX0_isStep 98 = .ok (.ifCond .eq 16, 3) := by decide +kernel
theorem dX0_isStep_101 : decode cX0_isStep 101 = .ok (.iload_n 2, 1) := by decide +kernel
theorem dX0_isStep_102 : decode cX0_isStep 102 = .ok (.ifCond .lt 12, 3) := by decide +kernel
theorem dX0_isStep_105 : decode cX0_isStep 105 = .ok (.iload_n 2, 1) := by decide +kernel
theorem dX0_isStep_106 : decode cX0_isStep 106 = .ok (.iconst 2, 1) := by decide +kernel
theorem dX0_isStep_107 : decode cX0_isStep 107 = .ok (.if_icmp .ge 7, 3) := by decide +kernel
theorem dX0_isStep_110 : decode cX0_isStep 110 = .ok (.iconst 1, 1) := by decide +kernel
theorem dX0_isStep_111 : decode cX0_isStep 111 = .ok (.goto 4, 3) := by decide +kernel
theorem dX0_isStep_114 : decode cX0_isStep 114 = .ok (.iconst 0, 1) := by decide +kernel
theorem dX0_isStep_115 : decode cX0_isStep 115 = .ok (.ireturn, 1) := by decide +kernel
theorem dX0_isStep_116 : decode cX0_isStep 116 = .ok (.iload_n 2, 1) := by decide +kernel
theorem dX0_isStep_117 : decode cX0_isStep 117 = .ok (.iconst 1, 1) := by decide +kernel
theorem dX0_isStep_118 : decode cX0_isStep 118 = .ok (.if_icmp .eq 11, 3) := by decide +kernel
theorem dX0_isStep_121 : decode cX0_isStep 121 = .ok (.iload_n 0, 1) := by decide +kernel
theorem dX0_isStep_122 : decode cX0_isStep 122 = .ok (.ifCond .eq 11, 3) := by decide +kernel
theorem dX0_isStep_125 : decode cX0_isStep 125 = .ok (.iload_n 2, 1) := by decide +kernel
theorem dX0_isStep_126 : decode cX0_isStep 126 = .ok (.ifCond .ne 7, 3) := by decide +kernel
theorem dX0_isStep_129 : decode cX0_isStep 129 = .ok (.iconst 1, 1) := by decide +kernel
theorem dX0_isStep_130 : decode cX0_isStep 130 = .ok (.goto 4, 3) := by decide +kernel
theorem dX0_isStep_133 : decode cX0_isStep 133 = .ok (.iconst 0, 1) := by decide +kernel
theorem dX0_isStep_134 : decode cX0_isStep 134 = .ok (.ireturn, 1) := by decide +kernel
theorem dX0_isStep_135 : decode cX0_isStep 135 = .ok (.iload_n 0, 1) := by decide +kernel
theorem dX0_isStep_136 : decode cX0_isStep 136 = .ok (.ifCond .eq 10, 3) := by decide +kernel
theorem dX0_isStep_139 : decode cX0_isStep 139 = .ok (.iload_n 2, 1) := by decide +kernel
theorem dX0_isStep_140 : decode cX0_isStep 140 = .ok (.invokestatic 41, 3) := by decide +kernel
theorem dX0_isStep_143 : decode cX0_isStep 143 = .ok (.goto 7, 3) := by decide +kernel
theorem dX0_isStep_146 : decode cX0_isStep 146 = .ok (.iload_n 2, 1) := by decide +kernel
theorem dX0_isStep_147 : decode cX0_isStep 147 = .ok (.invokestatic 55, 3) := by decide +kernel
theorem dX0_isStep_150 : decode cX0_isStep 150 = .ok (.ireturn, 1) := by decide +kernel
theorem dX0_isStep_151 : decode cX0_isStep 151 = .ok (.iload_n 0, 1) := by decide +kernel
theorem dX0_isStep_152 : decode cX0_isStep 152 = .ok (.ifCond .eq 14, 3) := by decide +kernel
theorem dX0_isStep_155 : decode cX0_isStep 155 = .ok (.iload_n 2, 1) := by decide +kernel
theorem dX0_isStep_156 : decode cX0_isStep 156 = .ok (.invokestatic 41, 3) := by decide +kernel
theorem dX0_isStep_159 : decode cX0_isStep 159 = .ok (.ifCond .eq 7, 3) := by decide +kernel
theorem dX0_isStep_162 : decode cX0_isStep 162 = .ok (.iconst 1, 1) := by decide +kernel
theorem dX0_isStep_163 : decode cX0_isStep 163 = .ok (.goto 4, 3) := by decide +kernel
theorem dX0_isStep_166 : decode cX0_isStep 166 = .ok (.iconst 0, 1) := by decide +kernel
theorem dX0_isStep_167 : decode cX0_isStep 167 = .ok (.ireturn, 1) := by decide +kernel
theorem dX0_isStep_168 : decode cX0_isStep 168 = .ok (.iload_n 0, 1) := by decide +kernel
theorem dX0_isStep_169 : decode cX0_isStep 169 = .ok (.ifCond .eq 14, 3) := by decide +kernel
theorem dX0_isStep_172 : decode cX0_isStep 172 = .ok (.iload_n 2, 1) := by decide +kernel
theorem dX0_isStep_173 : decode cX0_isStep 173 = .ok (.invokestatic 55, 3) := by decide +kernel
theorem dX0_isStep_176 : decode cX0_isStep 176 = .ok (.ifCond .eq 7, 3) := by decide +kernel
theorem dX0_isStep_179 : decode cX0_isStep 179 = .ok (.iconst 1, 1) := by decide +kernel
theorem dX0_isStep_180 : decode cX0_isStep 180 = .ok (.goto 4, 3) := by decide +kernel
theorem dX0_isStep_183 : decode cX0_isStep 183 = .ok (.iconst 0, 1) := by decide +kernel
theorem dX0_isStep_184 : decode cX0_isStep 184 = .ok (.ireturn, 1) := by decide +kernel
theorem dX0_isStep_185 : decode cX0_isStep 185 = .ok (.iload_n 0, 1) := by decide +kernel
theorem dX0_isStep_186 : decode cX0_isStep 186 = .ok (.ifCond .ne 14, 3) := by decide +kernel
theorem dX0_isStep_189 : decode cX0_isStep 189 = .ok (.iload_n 2, 1) := by decide +kernel
theorem dX0_isStep_190 : decode cX0_isStep 190 = .ok (.invokestatic 41, 3) := by decide +kernel
theorem dX0_isStep_193 : decode cX0_isStep 193 = .ok (.ifCond .eq 7, 3) := by decide +kernel
theorem dX0_isStep_196 : decode cX0_isStep 196 = .ok (.iconst 1, 1) := by decide +kernel
theorem dX0_isStep_197 : decode cX0_isStep 197 = .ok (.goto 4, 3) := by decide +kernel
theorem dX0_isStep_200 : decode cX0_isStep 200 = .ok (.iconst 0, 1) := by decide +kernel
theorem dX0_isStep_201 : decode cX0_isStep 201 = .ok (.ireturn, 1) := by decide +kernel
theorem dX0_isStep_202 : decode cX0_isStep 202 = .ok (.iload_n 1, 1) := by decide +kernel
theorem dX0_isStep_203 : decode cX0_isStep 203 = .ok (.bipush 14, 2) := by decide +kernel
theorem dX0_isStep_205 : decode cX0_isStep 205 = .ok (.if_icmp .lt 13, 3) := by decide +kernel
theorem dX0_isStep_208 : decode cX0_isStep 208 = .ok (.iload_n 1, 1) := by decide +kernel
theorem dX0_isStep_209 : decode cX0_isStep 209 = .ok (.bipush 24, 2) := by decide +kernel
theorem dX0_isStep_211 : decode cX0_isStep 211 = .ok (.if_icmp .gt 7, 3) := by decide +kernel
theorem dX0_isStep_214 : decode cX0_isStep 214 = .ok (.iconst 1, 1) := by decide +kernel
theorem dX0_isStep_215 : decode cX0_isStep 215 = .ok (.goto 4, 3) := by decide +kernel
theorem dX0_isStep_218 : decode cX0_isStep 218 = .ok (.iconst 0, 1) := by decide +kernel
theorem dX0_isStep_219 : decode cX0_isStep 219 = .ok (.ireturn, 1) := by decide +kernel
theorem dX0_stepsOf_0 : decode cX0_stepsOf 0 = .ok (.aload_n 0, 1) := by decide +kernel
theorem dX0_stepsOf_1 : decode cX0_stepsOf 1 = .ok (.getfield 18, 3) := by decide +kernel
theorem dX0_stepsOf_4 : decode cX0_stepsOf 4 = .ok (.iload_n 1, 1) := by decide +kernel
theorem dX0_stepsOf_5 : decode cX0_stepsOf 5 = .ok (.invokestatic 58, 3) := by decide +kernel
theorem dX0_stepsOf_8 : decode cX0_stepsOf 8 = .ok (.iaload, 1) := by decide +kernel
theorem dX0_stepsOf_9 : decode cX0_stepsOf 9 = .ok (.ireturn, 1) := by decide +kernel
theorem dX0_codeOf_0 : decode cX0_codeOf 0 = .ok (.aload_n 0, 1) := by decide +kernel
theorem dX0_codeOf_1 : decode cX0_codeOf 1 = .ok (.getfield 9, 3) := by decide +kernel
theorem dX0_codeOf_4 : decode cX0_codeOf 4 = .ok (.bipush 24, 2) := by decide +kernel
theorem dX0_codeOf_6 : decode cX0_codeOf 6 = .ok (.iload_n 1, 1) := by decide +kernel
theorem dX0_codeOf_7 : decode cX0_codeOf 7 = .ok (.invokestatic 58, 3) := by decide +kernel
theorem dX0_codeOf_10 : decode cX0_codeOf 10 = .ok (.imul, 1) := by decide +kernel
theorem dX0_codeOf_11 : decode cX0_codeOf 11 = .ok (.iload_n 2, 1) := by decide +kernel
theorem dX0_codeOf_12 : decode cX0_codeOf 12 = .ok (.iadd, 1) := by decide +kernel
theorem dX0_codeOf_13 : decode cX0_codeOf 13 = .ok (.iaload, 1) := by decide +kernel
theorem dX0_codeOf_14 : decode cX0_codeOf 14 = .ok (.ireturn, 1) := by decide +kernel
theorem dX0_valueOf_0 : decode cX0_valueOf 0 = .ok (.aload_n 0, 1) := by decide +kernel
theorem dX0_valueOf_1 : decode cX0_valueOf 1 = .ok (.getfield 15, 3) := by decide +kernel
theorem dX0_valueOf_4 : decode cX0_valueOf 4 = .ok (.bipush 24, 2) := by decide +kernel
theorem dX0_valueOf_6 : decode cX0_valueOf 6 = .ok (.iload_n 1, 1) := by decide +kernel
theorem dX0_valueOf_7 : decode cX0_valueOf 7 = .ok (.invokestatic 58, 3) := by decide +kernel
theorem dX0_valueOf_10 : decode cX0_valueOf 10 = .ok (.imul, 1) := by decide +kernel
theorem dX0_valueOf_11 : decode cX0_valueOf 11 = .ok (.iload_n 2, 1) := by decide +kernel
theorem dX0_valueOf_12 : decode cX0_valueOf 12 = .ok (.iadd, 1) := by decide +kernel
theorem dX0_valueOf_13 : decode cX0_valueOf 13 = .ok (.iaload, 1) := by decide +kernel
theorem dX0_valueOf_14 : decode cX0_valueOf 14 = .ok (.ireturn, 1) := by decide +kernel
theorem dX0_isCell_0 : decode cX0_isCell 0 = .ok (.aload_n 0, 1) := by decide +kernel
theorem dX0_isCell_1 : decode cX0_isCell 1 = .ok (.getfield 18, 3) := by decide +kernel
theorem dX0_isCell_4 : decode cX0_isCell 4 = .ok (.iload_n 2, 1) := by decide +kernel
theorem dX0_isCell_5 : decode cX0_isCell 5 = .ok (.invokestatic 58, 3) := by decide +kernel
theorem dX0_isCell_8 : decode cX0_isCell 8 = .ok (.iaload, 1) := by decide +kernel
theorem dX0_isCell_9 : decode cX0_isCell 9 = .ok (.ifCond .ne 5, 3) := by decide +kernel
theorem dX0_isCell_12 : decode cX0_isCell 12 = .ok (.iconst 0, 1) := by decide +kernel
theorem dX0_isCell_13 : decode cX0_isCell 13 = .ok (.ireturn, 1) := by decide +kernel
theorem dX0_isCell_14 : decode cX0_isCell 14 = .ok (.iload_n 2, 1) := by decide +kernel
theorem dX0_isCell_15 : decode cX0_isCell 15 = .ok (.invokestatic 61, 3) := by decide +kernel
theorem dX0_isCell_18 : decode cX0_isCell 18 = .ok (.ifCond .eq 24, 3) := by decide +kernel
theorem dX0_isCell_21 : decode cX0_isCell 21 = .ok (.aload_n 1, 1) := by decide +kernel
theorem dX0_isCell_22 : decode cX0_isCell 22 = .ok (.getfield 64, 3) := by decide +kernel
theorem dX0_isCell_25 : decode cX0_isCell 25 = .ok (.iload_n 2, 1) := by decide +kernel
theorem dX0_isCell_26 : decode cX0_isCell 26 = .ok (.invokestatic 69, 3) := by decide +kernel
theorem dX0_isCell_29 : decode cX0_isCell 29 = .ok (.iaload, 1) := by decide +kernel
theorem dX0_isCell_30 : decode cX0_isCell 30 = .ok (.iconst (-1), 1) := by decide +kernel
theorem dX0_isCell_31 : decode cX0_isCell 31 = .ok (.if_icmp .eq 7, 3) := by decide +kernel
theorem dX0_isCell_34 : decode cX0_isCell 34 = .ok (.iconst 1, 1) := by decide +kernel
theorem dX0_isCell_35 : decode cX0_isCell 35 = .ok (.goto 23, 3) := by decide +kernel
theorem dX0_isCell_38 : decode cX0_isCell 38 = .ok (.iconst 0, 1) := by decide +kernel
theorem dX0_isCell_39 : decode cX0_isCell 39 = .ok (.goto 19, 3) := by decide +kernel
theorem dX0_isCell_42 : decode cX0_isCell 42 = .ok (.iload_n 2, 1) := by decide +kernel
theorem dX0_isCell_43 : decode cX0_isCell 43 = .ok (.invokestatic 69, 3) := by decide +kernel
theorem dX0_isCell_46 : decode cX0_isCell 46 = .ok (.aload_n 0, 1) := by decide +kernel
theorem dX0_isCell_47 : decode cX0_isCell 47 = .ok (.getfield 72, 3) := by decide +kernel
theorem dX0_isCell_50 : decode cX0_isCell 50 = .ok (.if_icmp .ge 7, 3) := by decide +kernel
theorem dX0_isCell_53 : decode cX0_isCell 53 = .ok (.iconst 1, 1) := by decide +kernel
theorem dX0_isCell_54 : decode cX0_isCell 54 = .ok (.goto 4, 3) := by decide +kernel
theorem dX0_isCell_57 : decode cX0_isCell 57 = .ok (.iconst 0, 1) := by decide +kernel
theorem dX0_isCell_58 : decode cX0_isCell 58 = .ok (.ireturn, 1) := by decide +kernel
theorem dX1_init_0 : decode cX1_init 0 = .ok (.aload_n 0, 1) := by decide +kernel
theorem dX1_init_1 : decode cX1_init 1 = .ok (.invokespecial 3, 3) := by decide +kernel
theorem dX1_init_4 : decode cX1_init 4 = .ok (.aload_n 0, 1) := by decide +kernel
theorem dX1_init_5 : decode cX1_init 5 = .ok (.new 9, 3) := by decide +kernel
theorem dX1_init_8 : decode cX1_init 8 = .ok (.dup, 1) := by decide +kernel
theorem dX1_init_9 : decode cX1_init 9 = .ok (.invokespecial 11, 3) := by decide +kernel
theorem dX1_init_12 : decode cX1_init 12 = .ok (.putfield 12, 3) := by decide +kernel
theorem dX1_init_15 : decode cX1_init 15 = .ok (.aload_n 0, 1) := by decide +kernel
theorem dX1_init_16 : decode cX1_init 16 = .ok (.sipush 258, 3) := by decide +kernel
theorem dX1_init_19 : decode cX1_init 19 = .ok (.newarray .long, 2) := by decide +kernel
theorem dX1_init_21 : decode cX1_init 21 = .ok (.putfield 18, 3) := by decide +kernel
theorem dX1_init_24 : decode cX1_init 24 = .ok (.aload_n 0, 1) := by decide +kernel
theorem dX1_init_25 : decode cX1_init 25 = .ok (.iconst (-1), 1) := by decide +kernel
theorem dX1_init_26 : decode cX1_init 26 = .ok (.putfield 22, 3) := by decide +kernel
theorem dX1_init_29 : decode cX1_init 29 = .ok (.aload_n 0, 1) := by decide +kernel
theorem dX1_init_30 : decode cX1_init 30 = .ok (.iconst (-1), 1) := by decide +kernel
theorem dX1_init_31 : decode cX1_init 31 = .ok (.putfield 26, 3) := by decide +kernel
theorem dX1_init_34 : decode cX1_init 34 = .ok (.aload_n 0, 1) := by decide +kernel
theorem dX1_init_35 : decode cX1_init 35 = .ok (.iconst (-1), 1) := by decide +kernel
theorem dX1_init_36 : decode cX1_init 36 = .ok (.putfield 29, 3) := by decide +kernel
theorem dX1_init_39 : decode cX1_init 39 = .ok (.aload_n 0, 1) := by decide +kernel
theorem dX1_init_40 : decode cX1_init 40 = .ok (.aload_n 1, 1) := by decide +kernel
theorem dX1_init_41 : decode cX1_init 41 = .ok (.putfield 32, 3) := by decide +kernel
theorem dX1_init_44 : decode cX1_init 44 = .ok (.aload_n 0, 1) := by decide +kernel
theorem dX1_init_45 : decode cX1_init 45 = .ok (.aload_n 2, 1) := by decide +kernel
theorem dX1_init_46 : decode cX1_init 46 = .ok (.putfield 36, 3) := by decide +kernel
theorem dX1_init_49 : decode cX1_init 49 = .ok (.aload_n 0, 1) := by decide +kernel
theorem dX1_init_50 : decode cX1_init 50 = .ok (.aload_n 2, 1) := by decide +kernel
theorem dX1_init_51 : decode cX1_init 51 = .ok (.putfield 40, 3) := by decide +kernel
theorem dX1_init_54 : decode cX1_init 54 = .ok (.aload_n 0, 1) := by decide +kernel
theorem dX1_init_55 : decode cX1_init 55 = .ok (.aload_n 3, 1) := by decide +kernel
theorem dX1_init_56 : decode cX1_init 56 = .ok (.putfield 43, 3) := by decide +kernel
theorem dX1_init_59 : decode cX1_init 59 = .ok (.aload_n 0, 1) := by decide +kernel
theorem dX1_init_60 : decode cX1_init 60 = .ok (.new 46, 3) := by decide +kernel
theorem dX1_init_63 : decode cX1_init 63 = .ok (.dup, 1) := by decide +kernel
theorem dX1_init_64 : decode cX1_init 64 = .ok (.aload_n 1, 1) := by decide +kernel
theorem dX1_init_65 : decode cX1_init 65 = .ok (.aload_n 2, 1) := by decide +kernel
theorem dX1_init_66 : decode cX1_init 66 = .ok (.invokespecial 48, 3) := by decide +kernel
theorem dX1_init_69 : decode cX1_init 69 = .ok (.putfield 51, 3) := by decide +kernel
theorem dX1_init_72 : decode cX1_init 72 = .ok (.aload_n 0, 1) := by decide +kernel
theorem dX1_init_73 : decode cX1_init 73 = .ok (.new 55, 3) := by decide +kernel
theorem dX1_init_76 : decode cX1_init 76 = .ok (.dup, 1) := by decide +kernel
theorem dX1_init_77 : decode cX1_init 77 = .ok (.aload_n 1, 1) := by decide +kernel
theorem dX1_init_78 : decode cX1_init 78 = .ok (.aload_n 2, 1) := by decide +kernel
theorem dX1_init_79 : decode cX1_init 79 = .ok (.aload_n 3, 1) := by decide +kernel
theorem dX1_init_80 : decode cX1_init 80 = .ok (.invokespecial 57, 3) := by decide +kernel
theorem dX1_init_83 : decode cX1_init 83 = .ok (.putfield 60, 3) := by decide +kernel
theorem dX1_init_86 : decode cX1_init 86 = .ok (.return_, 1) := by decide +kernel
theorem dX1_weigh_0 : decode cX1_weigh 0 = .ok (.aload_n 0, 1) := by decide +kernel
theorem dX1_weigh_1 : decode cX1_weigh 1 = .ok (.aload_n 1, 1) := by decide +kernel
theorem dX1_weigh_2 : decode cX1_weigh 2 = .ok (.putfield 36, 3) := by decide +kernel
theorem dX1_weigh_5 : decode cX1_weigh 5 = .ok (.aload_n 0, 1) := by decide +kernel
theorem dX1_weigh_6 : decode cX1_weigh 6 = .ok (.aload_n 2, 1) := by decide +kernel
theorem dX1_weigh_7 : decode cX1_weigh 7 = .ok (.putfield 40, 3) := by decide +kernel
theorem dX1_weigh_10 : decode cX1_weigh 10 = .ok (.aload_n 0, 1) := by decide +kernel
theorem dX1_weigh_11 : decode cX1_weigh 11 = .ok (.aload_n 3, 1) := by decide +kernel
theorem dX1_weigh_12 : decode cX1_weigh 12 = .ok (.putfield 43, 3) := by decide +kernel
theorem dX1_weigh_15 : decode cX1_weigh 15 = .ok (.aload_n 0, 1) := by decide +kernel
theorem dX1_weigh_16 : decode cX1_weigh 16 = .ok (.invokevirtual 64, 3) := by decide +kernel
theorem dX1_weigh_19 : decode cX1_weigh 19 = .ok (.aload_n 0, 1) := by decide +kernel
theorem dX1_weigh_20 : decode cX1_weigh 20 = .ok (.getfield 51, 3) := by decide +kernel
theorem dX1_weigh_23 : decode cX1_weigh 23 = .ok (.aload_n 0, 1) := by decide +kernel
theorem dX1_weigh_24 : decode cX1_weigh 24 = .ok (.getfield 40, 3) := by decide +kernel
theorem dX1_weigh_27 : decode cX1_weigh 27 = .ok (.invokevirtual 67, 3) := by decide +kernel
theorem dX1_weigh_30 : decode cX1_weigh 30 = .ok (.ifCond .ne 17, 3) := by decide +kernel
theorem dX1_weigh_33 : decode cX1_weigh 33 = .ok (.aload_n 0, 1) := by decide +kernel
theorem dX1_weigh_34 : decode cX1_weigh 34 = .ok (.getfield 51, 3) := by decide +kernel
theorem dX1_weigh_37 : decode cX1_weigh 37 = .ok (.invokevirtual 71, 3) := by decide +kernel
theorem dX1_weigh_40 : decode cX1_weigh 40 = .ok (.aload_n 0, 1) := by decide +kernel
theorem dX1_weigh_41 : decode cX1_weigh 41 = .ok (.iconst 1, 1) := by decide +kernel
theorem dX1_weigh_42 : decode cX1_weigh 42 = .ok (.putfield 74, 3) := by decide +kernel
theorem dX1_weigh_45 : decode cX1_weigh 45 = .ok (.iconst (-1), 1) := by decide +kernel
theorem dX1_weigh_46 : decode cX1_weigh 46 = .ok (.ireturn, 1) := by decide +kernel
theorem dX1_weigh_47 : decode cX1_weigh 47 = .ok (.aload_n 0, 1) := by decide +kernel
theorem dX1_weigh_48 : decode cX1_weigh 48 = .ok (.invokevirtual 77, 3) := by decide +kernel
theorem dX1_weigh_51 : decode cX1_weigh 51 = .ok (.aload_n 0, 1) := by decide +kernel
theorem dX1_weigh_52 : decode cX1_weigh 52 = .ok (.getfield 51, 3) := by decide +kernel
theorem dX1_weigh_55 : decode cX1_weigh 55 = .ok (.getfield 80, 3) := by decide +kernel
theorem dX1_weigh_58 : decode cX1_weigh 58 = .ok (.astore 5, 2) := by decide +kernel
theorem dX1_weigh_60 : decode cX1_weigh 60 = .ok (.iconst 0, 1) := by decide +kernel
theorem dX1_weigh_61 : decode cX1_weigh 61 = .ok (.istore 6, 2) := by decide +kernel
theorem dX1_weigh_63 : decode cX1_weigh 63 = .ok (.iload 6, 2) := by decide +kernel
theorem dX1_weigh_65 : decode cX1_weigh 65 = .ok (.aload 5, 2) := by decide +kernel
theorem dX1_weigh_67 : decode cX1_weigh 67 = .ok (.getfield 83, 3) := by decide +kernel
theorem dX1_weigh_70 : decode cX1_weigh 70 = .ok (.if_icmp .ge 99, 3) := by decide +kernel
theorem dX1_weigh_73 : decode cX1_weigh 73 = .ok (.aload 5, 2) := by decide +kernel
theorem dX1_weigh_75 : decode cX1_weigh 75 = .ok (.iload 6, 2) := by decide +kernel
theorem dX1_weigh_77 : decode cX1_weigh 77 = .ok (.invokevirtual 86, 3) := by decide +kernel
theorem dX1_weigh_80 : decode cX1_weigh 80 = .ok (.istore 7, 2) := by decide +kernel
theorem dX1_weigh_82 : decode cX1_weigh 82 = .ok (.aload_n 0, 1) := by decide +kernel
theorem dX1_weigh_83 : decode cX1_weigh 83 = .ok (.getfield 40, 3) := by decide +kernel
theorem dX1_weigh_86 : decode cX1_weigh 86 = .ok (.iload 7, 2) := by decide +kernel
theorem dX1_weigh_88 : decode cX1_weigh 88 = .ok (.invokevirtual 90, 3) := by decide +kernel
theorem dX1_weigh_91 : decode cX1_weigh 91 = .ok (.ifCond .ne 72, 3) := by decide +kernel
theorem dX1_weigh_94 : decode cX1_weigh 94 = .ok (.iload 4, 2) := by decide +kernel
theorem dX1_weigh_96 : decode cX1_weigh 96 = .ok (.ifCond .ne 15, 3) := by decide +kernel
theorem dX1_weigh_99 : decode cX1_weigh 99 = .ok (.aload_n 0, 1) := by decide +kernel
theorem dX1_weigh_100 : decode cX1_weigh 100 = .ok (.iload 7, 2) := by decide +kernel
theorem dX1_weigh_102 : decode cX1_weigh 102 = .ok (.invokevirtual 96, 3) := by decide +kernel
theorem dX1_weigh_105 : decode cX1_weigh 105 = .ok (.ifCond .ne 6, 3) := by decide +kernel
theorem dX1_weigh_108 : decode cX1_weigh 108 = .ok (.goto 55, 3) := by decide +kernel
theorem dX1_weigh_111 : decode cX1_weigh 111 = .ok (.aload_n 0, 1) := by decide +kernel
theorem dX1_weigh_112 : decode cX1_weigh 112 = .ok (.getfield 60, 3) := by decide +kernel
theorem dX1_weigh_115 : decode cX1_weigh 115 = .ok (.iload 7, 2) := by decide +kernel
theorem dX1_weigh_117 : decode cX1_weigh 117 = .ok (.aload_n 0, 1) := by decide +kernel
theorem dX1_weigh_118 : decode cX1_weigh 118 = .ok (.getfield 40, 3) := by decide +kernel
theorem dX1_weigh_121 : decode cX1_weigh 121 = .ok (.aload_n 0, 1) := by decide +kernel
theorem dX1_weigh_122 : decode cX1_weigh 122 = .ok (.getfield 18, 3) := by decide +kernel
theorem dX1_weigh_125 : decode cX1_weigh 125 = .ok (.invokevirtual 99, 3) := by decide +kernel
theorem dX1_weigh_128 : decode cX1_weigh 128 = .ok (.ifCond .ne 12, 3) := by decide +kernel
theorem dX1_weigh_131 : decode cX1_weigh 131 = .ok (.aload_n 0, 1) := by decide +kernel
theorem dX1_weigh_132 : decode cX1_weigh 132 = .ok (.iload 7, 2) := by decide +kernel
theorem dX1_weigh_134 : decode cX1_weigh 134 = .ok (.invokevirtual 103, 3) := by decide +kernel
theorem dX1_weigh_137 : decode cX1_weigh 137 = .ok (.bipush (-2), 2) := by decide +kernel
theorem dX1_weigh_139 : decode cX1_weigh 139 = .ok (.ireturn, 1) := by decide +kernel
theorem dX1_weigh_140 : decode cX1_weigh 140 = .ok (.aload_n 0, 1) := by decide +kernel
theorem dX1_weigh_141 : decode cX1_weigh 141 = .ok (.getfield 18, 3) := by decide +kernel
theorem dX1_weigh_144 : decode cX1_weigh 144 = .ok (.iload 7, 2) := by decide +kernel
theorem dX1_weigh_146 : decode cX1_weigh 146 = .ok (.aload_n 0, 1) := by decide +kernel
theorem dX1_weigh_147 : decode cX1_weigh 147 = .ok (.getfield 60, 3) := by decide +kernel
theorem dX1_weigh_150 : decode cX1_weigh 150 = .ok (.getfield 107, 3) := by decide +kernel
theorem dX1_weigh_153 : decode cX1_weigh 153 = .ok (.lastore, 1) := by decide +kernel
theorem dX1_weigh_154 : decode cX1_weigh 154 = .ok (.aload_n 0, 1) := by decide +kernel
theorem dX1_weigh_155 : decode cX1_weigh 155 = .ok (.getfield 12, 3) := by decide +kernel
theorem dX1_weigh_158 : decode cX1_weigh 158 = .ok (.iload 7, 2) := by decide +kernel
theorem dX1_weigh_160 : decode cX1_weigh 160 = .ok (.invokevirtual 111, 3) := by decide +kernel
theorem dX1_weigh_163 : decode cX1_weigh 163 = .ok (.iinc 6 1, 3) := by decide +kernel
theorem dX1_weigh_166 : decode cX1_weigh 166 = .ok (.goto (-103), 3) := by decide +kernel
theorem dX1_weigh_169 : decode cX1_weigh 169 = .ok (.aload_n 0, 1) := by decide +kernel
theorem dX1_weigh_170 : decode cX1_weigh 170 = .ok (.getfield 12, 3) := by decide +kernel
theorem dX1_weigh_173 : decode cX1_weigh 173 = .ok (.getfield 83, 3) := by decide +kernel
theorem dX1_weigh_176 : decode cX1_weigh 176 = .ok (.ireturn, 1) := by decide +kernel
theorem dX1_forget_0 : decode cX1_forget 0 = .ok (.aload_n 0, 1) := by decide +kernel
theorem dX1_forget_1 : decode cX1_forget 1 = .ok (.getfield 12, 3) := by decide +kernel
theorem dX1_forget_4 : decode cX1_forget 4 = .ok (.invokevirtual 114, 3) := by decide +kernel
theorem dX1_forget_7 : decode cX1_forget 7 = .ok (.aload_n 0, 1) := by decide +kernel
theorem dX1_forget_8 : decode cX1_forget 8 = .ok (.getfield 51, 3) := by decide +kernel
theorem dX1_forget_11 : decode cX1_forget 11 = .ok (.getfield 117, 3) := by decide +kernel
theorem dX1_forget_14 : decode cX1_forget 14 = .ok (.invokevirtual 114, 3) := by decide +kernel
theorem dX1_forget_17 : decode cX1_forget 17 = .ok (.aload_n 0, 1) := by decide +kernel
theorem dX1_forget_18 : decode cX1_forget 18 = .ok (.iconst 0, 1) := by decide +kernel
theorem dX1_forget_19 : decode cX1_forget 19 = .ok (.putfield 74, 3) := by decide +kernel
theorem dX1_forget_22 : decode cX1_forget 22 = .ok (.aload_n 0, 1) := by decide +kernel
theorem dX1_forget_23 : decode cX1_forget 23 = .ok (.iconst (-1), 1) := by decide +kernel
theorem dX1_forget_24 : decode cX1_forget 24 = .ok (.putfield 22, 3) := by decide +kernel
theorem dX1_forget_27 : decode cX1_forget 27 = .ok (.aload_n 0, 1) := by decide +kernel
theorem dX1_forget_28 : decode cX1_forget 28 = .ok (.iconst (-1), 1) := by decide +kernel
theorem dX1_forget_29 : decode cX1_forget 29 = .ok (.putfield 26, 3) := by decide +kernel
theorem dX1_forget_32 : decode cX1_forget 32 = .ok (.aload_n 0, 1) := by decide +kernel
theorem dX1_forget_33 : decode cX1_forget 33 = .ok (.iconst (-1), 1) := by decide +kernel
theorem dX1_forget_34 : decode cX1_forget 34 = .ok (.putfield 29, 3) := by decide +kernel
theorem dX1_forget_37 : decode cX1_forget 37 = .ok (.return_, 1) := by decide +kernel
theorem dX1_fails_0 : decode cX1_fails 0 = .ok (.aload_n 0, 1) := by decide +kernel
theorem dX1_fails_1 : decode cX1_fails 1 = .ok (.iconst 2, 1) := by decide +kernel
theorem dX1_fails_2 : decode cX1_fails 2 = .ok (.putfield 74, 3) := by decide +kernel
theorem dX1_fails_5 : decode cX1_fails 5 = .ok (.aload_n 0, 1) := by decide +kernel
theorem dX1_fails_6 : decode cX1_fails 6 = .ok (.iload_n 1, 1) := by decide +kernel
theorem dX1_fails_7 : decode cX1_fails 7 = .ok (.putfield 22, 3) := by decide +kernel
theorem dX1_fails_10 : decode cX1_fails 10 = .ok (.aload_n 0, 1) := by decide +kernel
theorem dX1_fails_11 : decode cX1_fails 11 = .ok (.aload_n 0, 1) := by decide +kernel
theorem dX1_fails_12 : decode cX1_fails 12 = .ok (.getfield 60, 3) := by decide +kernel
theorem dX1_fails_15 : decode cX1_fails 15 = .ok (.getfield 120, 3) := by decide +kernel
theorem dX1_fails_18 : decode cX1_fails 18 = .ok (.putfield 26, 3) := by decide +kernel
theorem dX1_fails_21 : decode cX1_fails 21 = .ok (.aload_n 0, 1) := by decide +kernel
theorem dX1_fails_22 : decode cX1_fails 22 = .ok (.aload_n 0, 1) := by decide +kernel
theorem dX1_fails_23 : decode cX1_fails 23 = .ok (.getfield 60, 3) := by decide +kernel
theorem dX1_fails_26 : decode cX1_fails 26 = .ok (.getfield 123, 3) := by decide +kernel
theorem dX1_fails_29 : decode cX1_fails 29 = .ok (.putfield 29, 3) := by decide +kernel
theorem dX1_fails_32 : decode cX1_fails 32 = .ok (.return_, 1) := by decide +kernel
theorem dX1_startFresh_0 : decode cX1_startFresh 0 = .ok (.iconst 0, 1) := by decide +kernel
theorem dX1_startFresh_1 : decode cX1_startFresh 1 = .ok (.istore_n 1, 1) := by decide +kernel
theorem dX1_startFresh_2 : decode cX1_startFresh 2 = .ok (.iload_n 1, 1) := by decide +kernel
theorem dX1_startFresh_3 : decode cX1_startFresh 3 = .ok (.sipush 258, 3) := by decide +kernel
theorem dX1_startFresh_6 : decode cX1_startFresh 6 = .ok (.if_icmp .ge 40, 3) := by decide +kernel
theorem dX1_startFresh_9 : decode cX1_startFresh 9 = .ok (.aload_n 0, 1) := by decide +kernel
theorem dX1_startFresh_10 : decode cX1_startFresh 10 = .ok (.getfield 18, 3) := by decide +kernel
theorem dX1_startFresh_13 : decode cX1_startFresh 13 = .ok (.iload_n 1, 1) := by decide +kernel
theorem dX1_startFresh_14 : decode cX1_startFresh 14 = .ok (.aload_n 0, 1) := by decide +kernel
theorem dX1_startFresh_15 : decode cX1_startFresh 15 = .ok (.getfield 32, 3) := by decide +kernel
theorem dX1_startFresh_18 : decode cX1_startFresh 18 = .ok (.aload_n 0, 1) := by decide +kernel
theorem dX1_startFresh_19 : decode cX1_startFresh 19 = .ok (.getfield 40, 3) := by decide +kernel
theorem dX1_startFresh_22 : decode cX1_startFresh 22 = .ok (.iload_n 1, 1) := by decide +kernel
theorem dX1_startFresh_23 : decode cX1_startFresh 23 = .ok (.invokevirtual 126, 3) := by decide +kernel
theorem dX1_startFresh_26 : decode cX1_startFresh 26 = .ok (.ifCond .eq 12, 3) := by decide +kernel
theorem dX1_startFresh_29 : decode cX1_startFresh 29 = .ok (.aload_n 0, 1) := by decide +kernel
theorem dX1_startFresh_30 : decode cX1_startFresh 30 = .ok (.getfield 43, 3) := by decide +kernel
theorem dX1_startFresh_33 : decode cX1_startFresh 33 = .ok (.iload_n 1, 1) := by decide +kernel
theorem dX1_startFresh_34 : decode cX1_startFresh 34 = .ok (.laload, 1) := by decide +kernel
theorem dX1_startFresh_35 : decode cX1_startFresh 35 = .ok (.goto 4, 3) := by decide +kernel
theorem dX1_startFresh_38 : decode cX1_startFresh 38 = .ok (.lconst 0, 1) := by decide +kernel
theorem dX1_startFresh_39 : decode cX1_startFresh 39 = .ok (.lastore, 1) := by decide +kernel
theorem dX1_startFresh_40 : decode cX1_startFresh 40 = .ok (.iinc 1 1, 3) := by decide +kernel
theorem dX1_startFresh_43 : decode cX1_startFresh 43 = .ok (.goto (-41), 3) := by decide +kernel
theorem dX1_startFresh_46 : decode cX1_startFresh 46 = .ok (.return_, 1) := by decide +kernel
theorem dX1_isTouched_0 : decode cX1_isTouched 0 = .ok (.aload_n 0, 1) := by decide +kernel
theorem dX1_isTouched_1 : decode cX1_isTouched 1 = .ok (.getfield 32, 3) := by decide +kernel
theorem dX1_isTouched_4 : decode cX1_isTouched 4 = .ok (.aload_n 0, 1) := by decide +kernel
theorem dX1_isTouched_5 : decode cX1_isTouched 5 = .ok (.getfield 36, 3) := by decide +kernel
theorem dX1_isTouched_8 : decode cX1_isTouched 8 = .ok (.iload_n 1, 1) := by decide +kernel
theorem dX1_isTouched_9 : decode cX1_isTouched 9 = .ok (.invokevirtual 126, 3) := by decide +kernel
theorem dX1_isTouched_12 : decode cX1_isTouched 12 = .ok (.ifCond .eq 14, 3) := by decide +kernel
theorem dX1_isTouched_15 : decode cX1_isTouched 15 = .ok (.aload_n 0, 1) := by decide +kernel
theorem dX1_isTouched_16 : decode cX1_isTouched 16 = .ok (.getfield 36, 3) := by decide +kernel
theorem dX1_isTouched_19 : decode cX1_isTouched 19 = .ok (.iload_n 1, 1) := by decide +kernel
theorem dX1_isTouched_20 : decode cX1_isTouched 20 = .ok (.invokevirtual 90, 3) := by decide +kernel
theorem dX1_isTouched_23 : decode cX1_isTouched 23 = .ok (.ifCond .eq 5, 3) := by decide +kernel
theorem dX1_isTouched_26 : decode cX1_isTouched 26 = .ok (.iconst 1, 1) := by decide +kernel
theorem dX1_isTouched_27 : decode cX1_isTouched 27 = .ok (.ireturn, 1) := by decide +kernel
theorem dX1_isTouched_28 : decode cX1_isTouched 28 = .ok (.aload_n 0, 1) := by decide +kernel
theorem dX1_isTouched_29 : decode cX1_isTouched 29 = .ok (.getfield 32, 3) := by decide +kernel
theorem dX1_isTouched_32 : decode cX1_isTouched 32 = .ok (.iload_n 1, 1) := by decide +kernel
theorem dX1_isTouched_33 : decode cX1_isTouched 33 = .ok (.invokevirtual 132, 3) := by decide +kernel
theorem dX1_isTouched_36 : decode cX1_isTouched 36 = .ok (.istore_n 2, 1) := by decide +kernel
theorem dX1_isTouched_37 : decode cX1_isTouched 37 = .ok (.iconst 0, 1) := by decide +kernel
theorem dX1_isTouched_38 : decode cX1_isTouched 38 = .ok (.istore_n 3, 1) := by decide +kernel
theorem dX1_isTouched_39 : decode cX1_isTouched 39 = .ok (.iload_n 3, 1) := by decide +kernel
theorem dX1_isTouched_40 : decode cX1_isTouched 40 = .ok (.iload_n 2, 1) := by decide +kernel
theorem dX1_isTouched_41 : decode cX1_isTouched 41 = .ok (.if_icmp .ge 87, 3) := by decide +kernel
theorem dX1_isTouched_44 : decode cX1_isTouched 44 = .ok (.aload_n 0, 1) := by decide +kernel
theorem dX1_isTouched_45 : decode cX1_isTouched 45 = .ok (.getfield 32, 3) := by decide +kernel
theorem dX1_isTouched_48 : decode cX1_isTouched 48 = .ok (.iload_n 1, 1) := by decide +kernel
theorem dX1_isTouched_49 : decode cX1_isTouched 49 = .ok (.iload_n 3, 1) := by decide +kernel
theorem dX1_isTouched_50 : decode cX1_isTouched 50 = .ok (.invokevirtual 135, 3) := by decide +kernel
theorem dX1_isTouched_53 : decode cX1_isTouched 53 = .ok (.istore 4, 2) := by decide +kernel
theorem dX1_isTouched_55 : decode cX1_isTouched 55 = .ok (.aload_n 0, 1) := by decide +kernel
theorem dX1_isTouched_56 : decode cX1_isTouched 56 = .ok (.getfield 32, 3) := by decide +kernel
theorem dX1_isTouched_59 : decode cX1_isTouched 59 = .ok (.iload_n 1, 1) := by decide +kernel
theorem dX1_isTouched_60 : decode cX1_isTouched 60 = .ok (.iload_n 3, 1) := by decide +kernel
theorem dX1_isTouched_61 : decode cX1_isTouched 61 = .ok (.invokevirtual 139, 3) := by decide +kernel
theorem dX1_isTouched_64 : decode cX1_isTouched 64 = .ok (.istore 5, 2) := by decide +kernel
theorem dX1_isTouched_66 : decode cX1_isTouched 66 = .ok (.iload 4, 2) := by decide +kernel
theorem dX1_isTouched_68 : decode cX1_isTouched 68 = .ok (.invokestatic 142, 3) := by decide +kernel
theorem dX1_isTouched_71 : decode cX1_isTouched 71 = .ok (.ifCond .eq 13, 3) := by decide +kernel
theorem dX1_isTouched_74 : decode cX1_isTouched 74 = .ok (.aload_n 0, 1) := by decide +kernel
theorem dX1_isTouched_75 : decode cX1_isTouched 75 = .ok (.iload_n 1, 1) := by decide +kernel
theorem dX1_isTouched_76 : decode cX1_isTouched 76 = .ok (.iload 5, 2) := by decide +kernel
theorem dX1_isTouched_78 : decode cX1_isTouched 78 = .ok (.invokevirtual 145, 3) := by decide +kernel
theorem dX1_isTouched_81 : decode cX1_isTouched 81 = .ok (.goto 32, 3) := by decide +kernel
theorem dX1_isTouched_84 : decode cX1_isTouched 84 = .ok (.iload 4, 2) := by decide +kernel
theorem dX1_isTouched_86 : decode cX1_isTouched 86 = .ok (.invokestatic 149, 3) := by decide +kernel
theorem dX1_isTouched_89 : decode cX1_isTouched 89 = .ok (.ifCond .eq 15, 3) := by decide +kernel
theorem dX1_isTouched_92 : decode cX1_isTouched 92 = .ok (.aload_n 0, 1) := by decide +kernel
theorem dX1_isTouched_93 : decode cX1_isTouched 93 = .ok (.iload_n 1, 1) := by decide +kernel
theorem dX1_isTouched_94 : decode cX1_isTouched 94 = .ok (.iload 4, 2) := by decide +kernel
theorem dX1_isTouched_96 : decode cX1_isTouched 96 = .ok (.iload 5, 2) := by decide +kernel
theorem dX1_isTouched_98 : decode cX1_isTouched 98 = .ok (.invokevirtual 152, 3) := by decide +kernel
theorem dX1_isTouched_101 : decode cX1_isTouched 101 = .ok (.goto 12, 3) := by decide +kernel
theorem dX1_isTouched_104 : decode cX1_isTouched 104 = .ok (.aload_n 0, 1) := by decide +kernel
theorem dX1_isTouched_105 : decode cX1_isTouched 105 = .ok (.iload_n 1, 1) := by decide +kernel
theorem dX1_isTouched_106 : decode cX1_isTouched 106 = .ok (.iload 4, 2) := by decide +kernel
theorem dX1_isTouched_108 : decode cX1_isTouched 108 = .ok (.iload 5, 2) := by decide +kernel
theorem dX1_isTouched_110 : decode cX1_isTouched 110 = .ok (.invokevirtual 156, 3) := by decide +kernel
theorem dX1_isTouched_113 : decode cX1_isTouched 113 = .ok (.istore 6, 2) := by decide +kernel
theorem dX1_isTouched_115 : decode cX1_isTouched 115 = .ok (.iload 6, 2) := by decide +kernel
theorem dX1_isTouched_117 : decode cX1_isTouched 117 = .ok (.ifCond .eq 5, 3) := by decide +kernel
theorem dX1_isTouched_120 : decode cX1_isTouched 120 = .ok (.iconst 1, 1) := by decide +kernel
theorem dX1_isTouched_121 : decode cX1_isTouched 121 = .ok (.ireturn, 1) := by decide +kernel
theorem dX1_isTouched_122 : decode cX1_isTouched 122 = .ok (.iinc 3 1, 3) := by decide +kernel
theorem dX1_isTouched_125 : decode cX1_isTouched 125 = .ok (.goto (-86), 3) := by decide +kernel
theorem dX1_isTouched_128 : decode cX1_isTouched 128 = .ok (.iconst 0, 1) := by decide +kernel
theorem dX1_isTouched_129 : decode cX1_isTouched 129 = .ok (.ireturn, 1) := by decide +kernel
theorem dX1_allDiffer_0 : decode cX1_allDiffer 0 = .ok (.iload_n 1, 1) := by decide +kernel
theorem dX1_allDiffer_1 : decode cX1_allDiffer 1 = .ok (.invokestatic 159, 3) := by decide +kernel
theorem dX1_allDiffer_4 : decode cX1_allDiffer 4 = .ok (.istore_n 3, 1) := by decide +kernel
theorem dX1_allDiffer_5 : decode cX1_allDiffer 5 = .ok (.aload_n 0, 1) := by decide +kernel
theorem dX1_allDiffer_6 : decode cX1_allDiffer 6 = .ok (.getfield 36, 3) := by decide +kernel
theorem dX1_allDiffer_9 : decode cX1_allDiffer 9 = .ok (.getfield 162, 3) := by decide +kernel
theorem dX1_allDiffer_12 : decode cX1_allDiffer 12 = .ok (.iload_n 3, 1) := by decide +kernel
theorem dX1_allDiffer_13 : decode cX1_allDiffer 13 = .ok (.iaload, 1) := by decide +kernel
theorem dX1_allDiffer_14 : decode cX1_allDiffer 14 = .ok (.aload_n 0, 1) := by decide +kernel
theorem dX1_allDiffer_15 : decode cX1_allDiffer 15 = .ok (.getfield 40, 3) := by decide +kernel
theorem dX1_allDiffer_18 : decode cX1_allDiffer 18 = .ok (.getfield 162, 3) := by decide +kernel
theorem dX1_allDiffer_21 : decode cX1_allDiffer 21 = .ok (.iload_n 3, 1) := by decide +kernel
theorem dX1_allDiffer_22 : decode cX1_allDiffer 22 = .ok (.iaload, 1) := by decide +kernel
theorem dX1_allDiffer_23 : decode cX1_allDiffer 23 = .ok (.if_icmp .eq 5, 3) := by decide +kernel
theorem dX1_allDiffer_26 : decode cX1_allDiffer 26 = .ok (.iconst 1, 1) := by decide +kernel
theorem dX1_allDiffer_27 : decode cX1_allDiffer 27 = .ok (.ireturn, 1) := by decide +kernel
theorem dX1_allDiffer_28 : decode cX1_allDiffer 28 = .ok (.iconst 0, 1) := by decide +kernel
theorem dX1_allDiffer_29 : decode cX1_allDiffer 29 = .ok (.istore 4, 2) := by decide +kernel
theorem dX1_allDiffer_31 : decode cX1_allDiffer 31 = .ok (.iload 4, 2) := by decide +kernel
theorem dX1_allDiffer_33 : decode cX1_allDiffer 33 = .ok (.aload_n 0, 1) := by decide +kernel
theorem dX1_allDiffer_34 : decode cX1_allDiffer 34 = .ok (.getfield 40, 3) := by decide +kernel
theorem dX1_allDiffer_37 : decode cX1_allDiffer 37 = .ok (.getfield 162, 3) := by decide +kernel
theorem dX1_allDiffer_40 : decode cX1_allDiffer 40 = .ok (.iload_n 3, 1) := by decide +kernel
theorem dX1_allDiffer_41 : decode cX1_allDiffer 41 = .ok (.iaload, 1) := by decide +kernel
theorem dX1_allDiffer_42 : decode cX1_allDiffer 42 = .ok (.if_icmp .ge 51, 3) := by decide +kernel
theorem dX1_allDiffer_45 : decode cX1_allDiffer 45 = .ok (.aload_n 0, 1) := by decide +kernel
theorem dX1_allDiffer_46 : decode cX1_allDiffer 46 = .ok (.getfield 40, 3) := by decide +kernel
theorem dX1_allDiffer_49 : decode cX1_allDiffer 49 = .ok (.iload_n 3, 1) := by decide +kernel
theorem dX1_allDiffer_50 : decode cX1_allDiffer 50 = .ok (.iload 4, 2) := by decide +kernel
theorem dX1_allDiffer_52 : decode cX1_allDiffer 52 = .ok (.invokevirtual 166, 3) := by decide +kernel
theorem dX1_allDiffer_55 : decode cX1_allDiffer 55 = .ok (.istore 5, 2) := by decide +kernel
theorem dX1_allDiffer_57 : decode cX1_allDiffer 57 = .ok (.aload_n 0, 1) := by decide +kernel
theorem dX1_allDiffer_58 : decode cX1_allDiffer 58 = .ok (.getfield 36, 3) := by decide +kernel
theorem dX1_allDiffer_61 : decode cX1_allDiffer 61 = .ok (.iload_n 3, 1) := by decide +kernel
theorem dX1_allDiffer_62 : decode cX1_allDiffer 62 = .ok (.iload 4, 2) := by decide +kernel
theorem dX1_allDiffer_64 : decode cX1_allDiffer 64 = .ok (.invokevirtual 166, 3) := by decide +kernel
theorem dX1_allDiffer_67 : decode cX1_allDiffer 67 = .ok (.iload 5, 2) := by decide +kernel
theorem dX1_allDiffer_69 : decode cX1_allDiffer 69 = .ok (.if_icmp .ne 16, 3) := by decide +kernel
theorem dX1_allDiffer_72 : decode cX1_allDiffer 72 = .ok (.aload_n 0, 1) := by decide +kernel
theorem dX1_allDiffer_73 : decode cX1_allDiffer 73 = .ok (.iload 5, 2) := by decide +kernel
theorem dX1_allDiffer_75 : decode cX1_allDiffer 75 = .ok (.iload_n 2, 1) := by decide +kernel
theorem dX1_allDiffer_76 : decode cX1_allDiffer 76 = .ok (.invokestatic 169, 3) := by decide +kernel
theorem dX1_allDiffer_79 : decode cX1_allDiffer 79 = .ok (.invokevirtual 172, 3) := by decide +kernel
theorem dX1_allDiffer_82 : decode cX1_allDiffer 82 = .ok (.ifCond .eq 5, 3) := by decide +kernel
theorem dX1_allDiffer_85 : decode cX1_allDiffer 85 = .ok (.iconst 1, 1) := by decide +kernel
theorem dX1_allDiffer_86 : decode cX1_allDiffer 86 = .ok (.ireturn, 1) := by decide +kernel
theorem dX1_allDiffer_87 : decode cX1_allDiffer 87 = .ok (.iinc 4 1, 3) := by decide +kernel
theorem dX1_allDiffer_90 : decode cX1_allDiffer 90 = .ok (.goto (-59), 3) := by decide +kernel
theorem dX1_allDiffer_93 : decode cX1_allDiffer 93 = .ok (.iconst 0, 1) := by decide +kernel
theorem dX1_allDiffer_94 : decode cX1_allDiffer 94 = .ok (.ireturn, 1) := by decide +kernel
theorem dX1_oneDiffers_0 : decode cX1_oneDiffers 0 = .ok (.aload_n 0, 1) := by decide +kernel
theorem dX1_oneDiffers_1 : decode cX1_oneDiffers 1 = .ok (.getfield 36, 3) := by decide +kernel
theorem dX1_oneDiffers_4 : decode cX1_oneDiffers 4 = .ok (.iload_n 1, 1) := by decide +kernel
theorem dX1_oneDiffers_5 : decode cX1_oneDiffers 5 = .ok (.iload_n 2, 1) := by decide +kernel
theorem dX1_oneDiffers_6 : decode cX1_oneDiffers 6 = .ok (.iload_n 3, 1) := by decide +kernel
theorem dX1_oneDiffers_7 : decode cX1_oneDiffers 7 = .ok (.invokevirtual 175, 3) := by decide +kernel
theorem dX1_oneDiffers_10 : decode cX1_oneDiffers 10 = .ok (.istore 4, 2) := by decide +kernel
theorem dX1_oneDiffers_12 : decode cX1_oneDiffers 12 = .ok (.aload_n 0, 1) := by decide +kernel
theorem dX1_oneDiffers_13 : decode cX1_oneDiffers 13 = .ok (.getfield 40, 3) := by decide +kernel
theorem dX1_oneDiffers_16 : decode cX1_oneDiffers 16 = .ok (.iload_n 1, 1) := by decide +kernel
theorem dX1_oneDiffers_17 : decode cX1_oneDiffers 17 = .ok (.iload_n 2, 1) := by decide +kernel
theorem dX1_oneDiffers_18 : decode cX1_oneDiffers 18 = .ok (.iload_n 3, 1) := by decide +kernel
theorem dX1_oneDiffers_19 : decode cX1_oneDiffers 19 = .ok (.invokevirtual 175, 3) := by decide +kernel
theorem dX1_oneDiffers_22 : decode cX1_oneDiffers 22 = .ok (.istore 5, 2) := by decide +kernel
theorem dX1_oneDiffers_24 : decode cX1_oneDiffers 24 = .ok (.iload 4, 2) := by decide +kernel
theorem dX1_oneDiffers_26 : decode cX1_oneDiffers 26 = .ok (.iload 5, 2) := by decide +kernel
theorem dX1_oneDiffers_28 : decode cX1_oneDiffers 28 = .ok (.if_icmp .ne 18, 3) := by decide +kernel
theorem dX1_oneDiffers_31 : decode cX1_oneDiffers 31 = .ok (.iload 5, 2) := by decide +kernel
theorem dX1_oneDiffers_33 : decode cX1_oneDiffers 33 = .ok (.iconst (-1), 1) := by decide +kernel
theorem dX1_oneDiffers_34 : decode cX1_oneDiffers 34 = .ok (.if_icmp .eq 16, 3) := by decide +kernel
theorem dX1_oneDiffers_37 : decode cX1_oneDiffers 37 = .ok (.aload_n 0, 1) := by decide +kernel
theorem dX1_oneDiffers_38 : decode cX1_oneDiffers 38 = .ok (.iload 5, 2) := by decide +kernel
theorem dX1_oneDiffers_40 : decode cX1_oneDiffers 40 = .ok (.invokevirtual 172, 3) := by decide +kernel
theorem dX1_oneDiffers_43 : decode cX1_oneDiffers 43 = .ok (.ifCond .eq 7, 3) := by decide +kernel
theorem dX1_oneDiffers_46 : decode cX1_oneDiffers 46 = .ok (.iconst 1, 1) := by decide +kernel
theorem dX1_oneDiffers_47 : decode cX1_oneDiffers 47 = .ok (.goto 4, 3) := by decide +kernel
theorem dX1_oneDiffers_50 : decode cX1_oneDiffers 50 = .ok (.iconst 0, 1) := by decide +kernel
theorem dX1_oneDiffers_51 : decode cX1_oneDiffers 51 = .ok (.ireturn, 1) := by decide +kernel
theorem dX1_hasChanged_0 : decode cX1_hasChanged 0 = .ok (.aload_n 0, 1) := by decide +kernel
theorem dX1_hasChanged_1 : decode cX1_hasChanged 1 = .ok (.getfield 43, 3) := by decide +kernel
theorem dX1_hasChanged_4 : decode cX1_hasChanged 4 = .ok (.iload_n 1, 1) := by decide +kernel
theorem dX1_hasChanged_5 : decode cX1_hasChanged 5 = .ok (.laload, 1) := by decide +kernel
theorem dX1_hasChanged_6 : decode cX1_hasChanged 6 = .ok (.aload_n 0, 1) := by decide +kernel
theorem dX1_hasChanged_7 : decode cX1_hasChanged 7 = .ok (.getfield 18, 3) := by decide +kernel
theorem dX1_hasChanged_10 : decode cX1_hasChanged 10 = .ok (.iload_n 1, 1) := by decide +kernel
theorem dX1_hasChanged_11 : decode cX1_hasChanged 11 = .ok (.laload, 1) := by decide +kernel
theorem dX1_hasChanged_12 : decode cX1_hasChanged 12 = .ok (.lcmp, 1) := by decide +kernel
theorem dX1_hasChanged_13 : decode cX1_hasChanged 13 = .ok (.ifCond .eq 7, 3) := by decide +kernel
theorem dX1_hasChanged_16 : decode cX1_hasChanged 16 = .ok (.iconst 1, 1) := by decide +kernel
theorem dX1_hasChanged_17 : decode cX1_hasChanged 17 = .ok (.goto 4, 3) := by decide +kernel
theorem dX1_hasChanged_20 : decode cX1_hasChanged 20 = .ok (.iconst 0, 1) := by decide +kernel
theorem dX1_hasChanged_21 : decode cX1_hasChanged 21 = .ok (.ireturn, 1) := by decide +kernel
theorem dX1_givenDiffers_0 : decode cX1_givenDiffers 0 = .ok (.iload_n 1, 1) := by decide +kernel
theorem dX1_givenDiffers_1 : decode cX1_givenDiffers 1 = .ok (.invokestatic 159, 3) := by decide +kernel
theorem dX1_givenDiffers_4 : decode cX1_givenDiffers 4 = .ok (.istore 4, 2) := by decide +kernel
theorem dX1_givenDiffers_6 : decode cX1_givenDiffers 6 = .ok (.aload_n 0, 1) := by decide +kernel
theorem dX1_givenDiffers_7 : decode cX1_givenDiffers 7 = .ok (.getfield 36, 3) := by decide +kernel
theorem dX1_givenDiffers_10 : decode cX1_givenDiffers 10 = .ok (.iload_n 1, 1) := by decide +kernel
theorem dX1_givenDiffers_11 : decode cX1_givenDiffers 11 = .ok (.invokevirtual 179, 3) := by decide +kernel
theorem dX1_givenDiffers_14 : decode cX1_givenDiffers 14 = .ok (.istore 5, 2) := by decide +kernel
theorem dX1_givenDiffers_16 : decode cX1_givenDiffers 16 = .ok (.aload_n 0, 1) := by decide +kernel
theorem dX1_givenDiffers_17 : decode cX1_givenDiffers 17 = .ok (.getfield 40, 3) := by decide +kernel
theorem dX1_givenDiffers_20 : decode cX1_givenDiffers 20 = .ok (.iload_n 1, 1) := by decide +kernel
theorem dX1_givenDiffers_21 : decode cX1_givenDiffers 21 = .ok (.invokevirtual 179, 3) := by decide +kernel
theorem dX1_givenDiffers_24 : decode cX1_givenDiffers 24 = .ok (.istore 6, 2) := by decide +kernel
theorem dX1_givenDiffers_26 : decode cX1_givenDiffers 26 = .ok (.iload_n 2, 1) := by decide +kernel
theorem dX1_givenDiffers_27 : decode cX1_givenDiffers 27 = .ok (.tableswitch 139 1 3 #[25, 50, 73], 25) := by decide +kernel
theorem dX1_givenDiffers_52 : decode cX1_givenDiffers 52 = .ok (.iload_n 1, 1) := by decide +kernel
theorem dX1_givenDiffers_53 : decode cX1_givenDiffers 53 = .ok (.invokestatic 182, 3) := by decide +kernel
theorem dX1_givenDiffers_56 : decode cX1_givenDiffers 56 = .ok (.ifCond .eq 13, 3) := by decide +kernel
theorem dX1_givenDiffers_59 : decode cX1_givenDiffers 59 = .ok (.aload_n 0, 1) := by decide +kernel
theorem dX1_givenDiffers_60 : decode cX1_givenDiffers 60 = .ok (.iload 4, 2) := by decide +kernel
theorem dX1_givenDiffers_62 : decode cX1_givenDiffers 62 = .ok (.iload_n 3, 1) := by decide +kernel
theorem dX1_givenDiffers_63 : decode cX1_givenDiffers 63 = .ok (.invokevirtual 185, 3) := by decide +kernel
theorem dX1_givenDiffers_66 : decode cX1_givenDiffers 66 = .ok (.goto 10, 3) := by decide +kernel
theorem dX1_givenDiffers_69 : decode cX1_givenDiffers 69 = .ok (.aload_n 0, 1) := by decide +kernel
theorem dX1_givenDiffers_70 : decode cX1_givenDiffers 70 = .ok (.iload 4, 2) := by decide +kernel
theorem dX1_givenDiffers_72 : decode cX1_givenDiffers 72 = .ok (.iload_n 3, 1) := by decide +kernel
theorem dX1_givenDiffers_73 : decode cX1_givenDiffers 73 = .ok (.invokevirtual 188, 3) := by decide +kernel
theorem dX1_givenDiffers_76 : decode cX1_givenDiffers 76 = .ok (.ireturn, 1) := by decide +kernel
theorem dX1_givenDiffers_77 : decode cX1_givenDiffers 77 = .ok (.iload 5, 2) := by decide +kernel
theorem dX1_givenDiffers_79 : decode cX1_givenDiffers 79 = .ok (.iload 6, 2) := by decide +kernel
theorem dX1_givenDiffers_81 : decode cX1_givenDiffers 81 = .ok (.if_icmp .ne 13, 3) := by decide +kernel
theorem dX1_givenDiffers_84 : decode cX1_givenDiffers 84 = .ok (.aload_n 0, 1) := by decide +kernel
theorem dX1_givenDiffers_85 : decode cX1_givenDiffers 85 = .ok (.iload 6, 2) := by decide +kernel
theorem dX1_givenDiffers_87 : decode cX1_givenDiffers 87 = .ok (.iload_n 3, 1) := by decide +kernel
theorem dX1_givenDiffers_88 : decode cX1_givenDiffers 88 = .ok (.invokevirtual 188, 3) := by decide +kernel
theorem dX1_givenDiffers_91 : decode cX1_givenDiffers 91 = .ok (.ifCond .eq 7, 3) := by decide +kernel
theorem dX1_givenDiffers_94 : decode cX1_givenDiffers 94 = .ok (.iconst 1, 1) := by decide +kernel
theorem dX1_givenDiffers_95 : decode cX1_givenDiffers 95 = .ok (.goto 4, 3) := by decide +kernel
theorem dX1_givenDiffers_98 : decode cX1_givenDiffers 98 = .ok (.iconst 0, 1) := by decide +kernel
theorem dX1_givenDiffers_99 : decode cX1_givenDiffers 99 = .ok (.ireturn, 1) := by decide +kernel
theorem dX1_givenDiffers_100 : decode cX1_givenDiffers 100 = .ok (.iload 5, 2) := by decide +kernel
theorem dX1_givenDiffers_102 : decode cX1_givenDiffers 102 = .ok (.iload 6, 2) := by decide +kernel
theorem dX1_givenDiffers_104 : decode cX1_givenDiffers 104 = .ok (.if_icmp .ne 56, 3) := by decide +kernel
theorem dX1_givenDiffers_107 : decode cX1_givenDiffers 107 = .ok (.iload_n 3, 1) := by decide +kernel
theorem dX1_givenDiffers_108 : decode cX1_givenDiffers 108 = .ok (.ifCond .ne 29, 3) := by decide +kernel
theorem dX1_givenDiffers_111 : decode cX1_givenDiffers 111 = .ok (.aload_n 0, 1) := by decide +kernel
theorem dX1_givenDiffers_112 : decode cX1_givenDiffers 112 = .ok (.getfield 36, 3) := by decide +kernel
theorem dX1_givenDiffers_115 : decode cX1_givenDiffers 115 = .ok (.getfield 191, 3) := by decide +kernel
theorem dX1_givenDiffers_118 : decode cX1_givenDiffers 118 = .ok (.iload 4, 2) := by decide +kernel
theorem dX1_givenDiffers_120 : decode cX1_givenDiffers 120 = .ok (.iaload, 1) := by decide +kernel
theorem dX1_givenDiffers_121 : decode cX1_givenDiffers 121 = .ok (.aload_n 0, 1) := by decide +kernel
theorem dX1_givenDiffers_122 : decode cX1_givenDiffers 122 = .ok (.getfield 40, 3) := by decide +kernel
theorem dX1_givenDiffers_125 : decode cX1_givenDiffers 125 = .ok (.getfield 191, 3) := by decide +kernel
theorem dX1_givenDiffers_128 : decode cX1_givenDiffers 128 = .ok (.iload 4, 2) := by decide +kernel
theorem dX1_givenDiffers_130 : decode cX1_givenDiffers 130 = .ok (.iaload, 1) := by decide +kernel
theorem dX1_givenDiffers_131 : decode cX1_givenDiffers 131 = .ok (.if_icmp .eq 33, 3) := by decide +kernel
theorem dX1_givenDiffers_134 : decode cX1_givenDiffers 134 = .ok (.goto 26, 3) := by decide +kernel
theorem dX1_givenDiffers_137 : decode cX1_givenDiffers 137 = .ok (.aload_n 0, 1) := by decide +kernel
theorem dX1_givenDiffers_138 : decode cX1_givenDiffers 138 = .ok (.getfield 36, 3) := by decide +kernel
theorem dX1_givenDiffers_141 : decode cX1_givenDiffers 141 = .ok (.getfield 162, 3) := by decide +kernel
theorem dX1_givenDiffers_144 : decode cX1_givenDiffers 144 = .ok (.iload 6, 2) := by decide +kernel
theorem dX1_givenDiffers_146 : decode cX1_givenDiffers 146 = .ok (.iaload, 1) := by decide +kernel
theorem dX1_givenDiffers_147 : decode cX1_givenDiffers 147 = .ok (.aload_n 0, 1) := by decide +kernel
theorem dX1_givenDiffers_148 : decode cX1_givenDiffers 148 = .ok (.getfield 40, 3) := by decide +kernel
theorem dX1_givenDiffers_151 : decode cX1_givenDiffers 151 = .ok (.getfield 162, 3) := by decide +kernel
theorem dX1_givenDiffers_154 : decode cX1_givenDiffers 154 = .ok (.iload 6, 2) := by decide +kernel
theorem dX1_givenDiffers_156 : decode cX1_givenDiffers 156 = .ok (.iaload, 1) := by decide +kernel
theorem dX1_givenDiffers_157 : decode cX1_givenDiffers 157 = .ok (.if_icmp .eq 7, 3) := by decide +kernel
theorem dX1_givenDiffers_160 : decode cX1_givenDiffers 160 = .ok (.iconst 1, 1) := by decide +kernel
theorem dX1_givenDiffers_161 : decode cX1_givenDiffers 161 = .ok (.goto 4, 3) := by decide +kernel
theorem dX1_givenDiffers_164 : decode cX1_givenDiffers 164 = .ok (.iconst 0, 1) := by decide +kernel
theorem dX1_givenDiffers_165 : decode cX1_givenDiffers 165 = .ok (.ireturn, 1) := by decide +kernel
theorem dX1_givenDiffers_166 : decode cX1_givenDiffers 166 = .ok (.iconst 0, 1) := by decide +kernel
theorem dX1_givenDiffers_167 : decode cX1_givenDiffers 167 = .ok (.ireturn, 1) := by decide +kernel
theorem dX1_factDiffers_0 : decode cX1_factDiffers 0 = .ok (.iconst 4, 1) := by decide +kernel
theorem dX1_factDiffers_1 : decode cX1_factDiffers 1 = .ok (.iload_n 1, 1) := by decide +kernel
theorem dX1_factDiffers_2 : decode cX1_factDiffers 2 = .ok (.imul, 1) := by decide +kernel
theorem dX1_factDiffers_3 : decode cX1_factDiffers 3 = .ok (.iload_n 2, 1) := by decide +kernel
theorem dX1_factDiffers_4 : decode cX1_factDiffers 4 = .ok (.iadd, 1) := by decide +kernel
theorem dX1_factDiffers_5 : decode cX1_factDiffers 5 = .ok (.istore_n 3, 1) := by decide +kernel
theorem dX1_factDiffers_6 : decode cX1_factDiffers 6 = .ok (.aload_n 0, 1) := by decide +kernel
theorem dX1_factDiffers_7 : decode cX1_factDiffers 7 = .ok (.getfield 36, 3) := by decide +kernel
theorem dX1_factDiffers_10 : decode cX1_factDiffers 10 = .ok (.getfield 194, 3) := by decide +kernel
theorem dX1_factDiffers_13 : decode cX1_factDiffers 13 = .ok (.iload_n 3, 1) := by decide +kernel
theorem dX1_factDiffers_14 : decode cX1_factDiffers 14 = .ok (.iaload, 1) := by decide +kernel
theorem dX1_factDiffers_15 : decode cX1_factDiffers 15 = .ok (.aload_n 0, 1) := by decide +kernel
theorem dX1_factDiffers_16 : decode cX1_factDiffers 16 = .ok (.getfield 40, 3) := by decide +kernel
theorem dX1_factDiffers_19 : decode cX1_factDiffers 19 = .ok (.getfield 194, 3) := by decide +kernel
theorem dX1_factDiffers_22 : decode cX1_factDiffers 22 = .ok (.iload_n 3, 1) := by decide +kernel
theorem dX1_factDiffers_23 : decode cX1_factDiffers 23 = .ok (.iaload, 1) := by decide +kernel
theorem dX1_factDiffers_24 : decode cX1_factDiffers 24 = .ok (.if_icmp .eq 7, 3) := by decide +kernel
theorem dX1_factDiffers_27 : decode cX1_factDiffers 27 = .ok (.iconst 1, 1) := by decide +kernel
theorem dX1_factDiffers_28 : decode cX1_factDiffers 28 = .ok (.goto 4, 3) := by decide +kernel
theorem dX1_factDiffers_31 : decode cX1_factDiffers 31 = .ok (.iconst 0, 1) := by decide +kernel
theorem dX1_factDiffers_32 : decode cX1_factDiffers 32 = .ok (.ireturn, 1) := by decide +kernel
theorem dX1_listFactDiffers_0 : decode cX1_listFactDiffers 0 = .ok (.iconst 2, 1) := by decide +kernel
theorem dX1_listFactDiffers_1 : decode cX1_listFactDiffers 1 = .ok (.iload_n 1, 1) := by decide +kernel
theorem dX1_listFactDiffers_2 : decode cX1_listFactDiffers 2 = .ok (.imul, 1) := by decide +kernel
theorem dX1_listFactDiffers_3 : decode cX1_listFactDiffers 3 = .ok (.iload_n 2, 1) := by decide +kernel
theorem dX1_listFactDiffers_4 : decode cX1_listFactDiffers 4 = .ok (.iadd, 1) := by decide +kernel
theorem dX1_listFactDiffers_5 : decode cX1_listFactDiffers 5 = .ok (.istore_n 3, 1) := by decide +kernel
theorem dX1_listFactDiffers_6 : decode cX1_listFactDiffers 6 = .ok (.aload_n 0, 1) := by decide +kernel
theorem dX1_listFactDiffers_7 : decode cX1_listFactDiffers 7 = .ok (.getfield 36, 3) := by decide +kernel
theorem dX1_listFactDiffers_10 : decode cX1_listFactDiffers 10 = .ok (.getfield 197, 3) := by decide +kernel
theorem dX1_listFactDiffers_13 : decode cX1_listFactDiffers 13 = .ok (.iload_n 3, 1) := by decide +kernel
theorem dX1_listFactDiffers_14 : decode cX1_listFactDiffers 14 = .ok (.iaload, 1) := by decide +kernel
theorem dX1_listFactDiffers_15 : decode cX1_listFactDiffers 15 = .ok (.aload_n 0, 1) := by decide +kernel
theorem dX1_listFactDiffers_16 : decode cX1_listFactDiffers 16 = .ok (.getfield 40, 3) := by decide +kernel
theorem dX1_listFactDiffers_19 : decode cX1_listFactDiffers 19 = .ok (.getfield 197, 3) := by decide +kernel
theorem dX1_listFactDiffers_22 : decode cX1_listFactDiffers 22 = .ok (.iload_n 3, 1) := by decide +kernel
theorem dX1_listFactDiffers_23 : decode cX1_listFactDiffers 23 = .ok (.iaload, 1) := by decide +kernel
theorem dX1_listFactDiffers_24 : decode cX1_listFactDiffers 24 = .ok (.if_icmp .eq 7, 3) := by decide +kernel
theorem dX1_listFactDiffers_27 : decode cX1_listFactDiffers 27 = .ok (.iconst 1, 1) := by decide +kernel
theorem dX1_listFactDiffers_28 : decode cX1_listFactDiffers 28 = .ok (.goto 4, 3) := by decide +kernel
theorem dX1_listFactDiffers_31 : decode cX1_listFactDiffers 31 = .ok (.iconst 0, 1) := by decide +kernel
theorem dX1_listFactDiffers_32 : decode cX1_listFactDiffers 32 = .ok (.ireturn, 1) := by decide +kernel
theorem dX1_agrees_0 : decode cX1_agrees 0 = .ok (.aload_n 2, 1) := by decide +kernel
theorem dX1_agrees_1 : decode cX1_agrees 1 = .ok (.iconst 0, 1) := by decide +kernel
theorem dX1_agrees_2 : decode cX1_agrees 2 = .ok (.aload_n 0, 1) := by decide +kernel
theorem dX1_agrees_3 : decode cX1_agrees 3 = .ok (.getfield 18, 3) := by decide +kernel
theorem dX1_agrees_6 : decode cX1_agrees 6 = .ok (.iconst 0, 1) := by decide +kernel
theorem dX1_agrees_7 : decode cX1_agrees 7 = .ok (.sipush 258, 3) := by decide +kernel
theorem dX1_agrees_10 : decode cX1_agrees 10 = .ok (.invokestatic 200, 3) := by decide +kernel
theorem dX1_agrees_13 : decode cX1_agrees 13 = .ok (.iconst 0, 1) := by decide +kernel
theorem dX1_agrees_14 : decode cX1_agrees 14 = .ok (.istore 4, 2) := by decide +kernel
theorem dX1_agrees_16 : decode cX1_agrees 16 = .ok (.iload 4, 2) := by decide +kernel
theorem dX1_agrees_18 : decode cX1_agrees 18 = .ok (.aload_n 3, 1) := by decide +kernel
theorem dX1_agrees_19 : decode cX1_agrees 19 = .ok (.getfield 83, 3) := by decide +kernel
theorem dX1_agrees_22 : decode cX1_agrees 22 = .ok (.if_icmp .ge 79, 3) := by decide +kernel
theorem dX1_agrees_25 : decode cX1_agrees 25 = .ok (.aload_n 3, 1) := by decide +kernel
theorem dX1_agrees_26 : decode cX1_agrees 26 = .ok (.iload 4, 2) := by decide +kernel
theorem dX1_agrees_28 : decode cX1_agrees 28 = .ok (.invokevirtual 86, 3) := by decide +kernel
theorem dX1_agrees_31 : decode cX1_agrees 31 = .ok (.istore 5, 2) := by decide +kernel
theorem dX1_agrees_33 : decode cX1_agrees 33 = .ok (.aload_n 1, 1) := by decide +kernel
theorem dX1_agrees_34 : decode cX1_agrees 34 = .ok (.iload 5, 2) := by decide +kernel
theorem dX1_agrees_36 : decode cX1_agrees 36 = .ok (.invokevirtual 90, 3) := by decide +kernel
theorem dX1_agrees_39 : decode cX1_agrees 39 = .ok (.ifCond .eq 6, 3) := by decide +kernel
theorem dX1_agrees_42 : decode cX1_agrees 42 = .ok (.goto 53, 3) := by decide +kernel
theorem dX1_agrees_45 : decode cX1_agrees 45 = .ok (.aload_n 0, 1) := by decide +kernel
theorem dX1_agrees_46 : decode cX1_agrees 46 = .ok (.getfield 60, 3) := by decide +kernel
theorem dX1_agrees_49 : decode cX1_agrees 49 = .ok (.iload 5, 2) := by decide +kernel
theorem dX1_agrees_51 : decode cX1_agrees 51 = .ok (.aload_n 1, 1) := by decide +kernel
theorem dX1_agrees_52 : decode cX1_agrees 52 = .ok (.aload_n 0, 1) := by decide +kernel
theorem dX1_agrees_53 : decode cX1_agrees 53 = .ok (.getfield 18, 3) := by decide +kernel
theorem dX1_agrees_56 : decode cX1_agrees 56 = .ok (.invokevirtual 99, 3) := by decide +kernel
theorem dX1_agrees_59 : decode cX1_agrees 59 = .ok (.ifCond .ne 5, 3) := by decide +kernel
theorem dX1_agrees_62 : decode cX1_agrees 62 = .ok (.iconst 0, 1) := by decide +kernel
theorem dX1_agrees_63 : decode cX1_agrees 63 = .ok (.ireturn, 1) := by decide +kernel
theorem dX1_agrees_64 : decode cX1_agrees 64 = .ok (.aload_n 0, 1) := by decide +kernel
theorem dX1_agrees_65 : decode cX1_agrees 65 = .ok (.getfield 18, 3) := by decide +kernel
theorem dX1_agrees_68 : decode cX1_agrees 68 = .ok (.iload 5, 2) := by decide +kernel
theorem dX1_agrees_70 : decode cX1_agrees 70 = .ok (.aload_n 0, 1) := by decide +kernel
theorem dX1_agrees_71 : decode cX1_agrees 71 = .ok (.getfield 60, 3) := by decide +kernel
theorem dX1_agrees_74 : decode cX1_agrees 74 = .ok (.getfield 107, 3) := by decide +kernel
theorem dX1_agrees_77 : decode cX1_agrees 77 = .ok (.lastore, 1) := by decide +kernel
theorem dX1_agrees_78 : decode cX1_agrees 78 = .ok (.aload_n 0, 1) := by decide +kernel
theorem dX1_agrees_79 : decode cX1_agrees 79 = .ok (.getfield 18, 3) := by decide +kernel
theorem dX1_agrees_82 : decode cX1_agrees 82 = .ok (.iload 5, 2) := by decide +kernel
theorem dX1_agrees_84 : decode cX1_agrees 84 = .ok (.laload, 1) := by decide +kernel
theorem dX1_agrees_85 : decode cX1_agrees 85 = .ok (.aload_n 2, 1) := by decide +kernel
theorem dX1_agrees_86 : decode cX1_agrees 86 = .ok (.iload 5, 2) := by decide +kernel
theorem dX1_agrees_88 : decode cX1_agrees 88 = .ok (.laload, 1) := by decide +kernel
theorem dX1_agrees_89 : decode cX1_agrees 89 = .ok (.lcmp, 1) := by decide +kernel
theorem dX1_agrees_90 : decode cX1_agrees 90 = .ok (.ifCond .eq 5, 3) := by decide +kernel
theorem dX1_agrees_93 : decode cX1_agrees 93 = .ok (.iconst 0, 1) := by decide +kernel
theorem dX1_agrees_94 : decode cX1_agrees 94 = .ok (.ireturn, 1) := by decide +kernel
theorem dX1_agrees_95 : decode cX1_agrees 95 = .ok (.iinc 4 1, 3) := by decide +kernel
theorem dX1_agrees_98 : decode cX1_agrees 98 = .ok (.goto (-82), 3) := by decide +kernel
theorem dX1_agrees_101 : decode cX1_agrees 101 = .ok (.iconst 1, 1) := by decide +kernel
theorem dX1_agrees_102 : decode cX1_agrees 102 = .ok (.ireturn, 1) := by decide +kernel
theorem dX2_init_0 : decode cX2_init 0 = .ok (.aload_n 0, 1) := by decide +kernel
theorem dX2_init_1 : decode cX2_init 1 = .ok (.invokespecial 3, 3) := by decide +kernel
theorem dX2_init_4 : decode cX2_init 4 = .ok (.aload_n 0, 1) := by decide +kernel
theorem dX2_init_5 : decode cX2_init 5 = .ok (.new 9, 3) := by decide +kernel
theorem dX2_init_8 : decode cX2_init 8 = .ok (.dup, 1) := by decide +kernel
theorem dX2_init_9 : decode cX2_init 9 = .ok (.invokespecial 11, 3) := by decide +kernel
theorem dX2_init_12 : decode cX2_init 12 = .ok (.putfield 12, 3) := by decide +kernel
theorem dX2_init_15 : decode cX2_init 15 = .ok (.aload_n 0, 1) := by decide +kernel
theorem dX2_init_16 : decode cX2_init 16 = .ok (.sipush 258, 3) := by decide +kernel
theorem dX2_init_19 : decode cX2_init 19 = .ok (.newarray .long, 2) := by decide +kernel
theorem dX2_init_21 : decode cX2_init 21 = .ok (.putfield 18, 3) := by decide +kernel
theorem dX2_init_24 : decode cX2_init 24 = .ok (.return_, 1) := by decide +kernel
theorem dX3_init_0 : decode cX3_init 0 = .ok (.aload_n 0, 1) := by decide +kernel
theorem dX3_init_1 : decode cX3_init 1 = .ok (.invokespecial 3, 3) := by decide +kernel
theorem dX3_init_4 : decode cX3_init 4 = .ok (.aload_n 0, 1) := by decide +kernel
theorem dX3_init_5 : decode cX3_init 5 = .ok (.bipush 60, 2) := by decide +kernel
theorem dX3_init_7 : decode cX3_init 7 = .ok (.anewarray 9, 3) := by decide +kernel
theorem dX3_init_10 : decode cX3_init 10 = .ok (.putfield 11, 3) := by decide +kernel
theorem dX3_init_13 : decode cX3_init 13 = .ok (.return_, 1) := by decide +kernel
theorem dX3_keep_0 : decode cX3_keep 0 = .ok (.aload_n 0, 1) := by decide +kernel
theorem dX3_keep_1 : decode cX3_keep 1 = .ok (.getfield 17, 3) := by decide +kernel
theorem dX3_keep_4 : decode cX3_keep 4 = .ok (.bipush 60, 2) := by decide +kernel
theorem dX3_keep_6 : decode cX3_keep 6 = .ok (.if_icmp .ne 26, 3) := by decide +kernel
theorem dX3_keep_9 : decode cX3_keep 9 = .ok (.aload_n 0, 1) := by decide +kernel
theorem dX3_keep_10 : decode cX3_keep 10 = .ok (.aload_n 0, 1) := by decide +kernel
theorem dX3_keep_11 : decode cX3_keep 11 = .ok (.getfield 21, 3) := by decide +kernel
theorem dX3_keep_14 : decode cX3_keep 14 = .ok (.iconst 1, 1) := by decide +kernel
theorem dX3_keep_15 : decode cX3_keep 15 = .ok (.iadd, 1) := by decide +kernel
theorem dX3_keep_16 : decode cX3_keep 16 = .ok (.bipush 60, 2) := by decide +kernel
theorem dX3_keep_18 : decode cX3_keep 18 = .ok (.irem, 1) := by decide +kernel
theorem dX3_keep_19 : decode cX3_keep 19 = .ok (.putfield 21, 3) := by decide +kernel
theorem dX3_keep_22 : decode cX3_keep 22 = .ok (.aload_n 0, 1) := by decide +kernel
theorem dX3_keep_23 : decode cX3_keep 23 = .ok (.dup, 1) := by decide +kernel
theorem dX3_keep_24 : decode cX3_keep 24 = .ok (.getfield 17, 3) := by decide +kernel
theorem dX3_keep_27 : decode cX3_keep 27 = .ok (.iconst 1, 1) := by decide +kernel
theorem dX3_keep_28 : decode cX3_keep 28 = .ok (.isub, 1) := by decide +kernel
theorem dX3_keep_29 : decode cX3_keep 29 = .ok (.putfield 17, 3) := by decide +kernel
theorem dX3_keep_32 : decode cX3_keep 32 = .ok (.aload_n 0, 1) := by decide +kernel
theorem dX3_keep_33 : decode cX3_keep 33 = .ok (.getfield 21, 3) := by decide +kernel
theorem dX3_keep_36 : decode cX3_keep 36 = .ok (.aload_n 0, 1) := by decide +kernel
theorem dX3_keep_37 : decode cX3_keep 37 = .ok (.getfield 17, 3) := by decide +kernel
theorem dX3_keep_40 : decode cX3_keep 40 = .ok (.iadd, 1) := by decide +kernel
theorem dX3_keep_41 : decode cX3_keep 41 = .ok (.bipush 60, 2) := by decide +kernel
theorem dX3_keep_43 : decode cX3_keep 43 = .ok (.irem, 1) := by decide +kernel
theorem dX3_keep_44 : decode cX3_keep 44 = .ok (.istore_n 3, 1) := by decide +kernel
theorem dX3_keep_45 : decode cX3_keep 45 = .ok (.aload_n 0, 1) := by decide +kernel
theorem dX3_keep_46 : decode cX3_keep 46 = .ok (.getfield 11, 3) := by decide +kernel
theorem dX3_keep_49 : decode cX3_keep 49 = .ok (.iload_n 3, 1) := by decide +kernel
theorem dX3_keep_50 : decode cX3_keep 50 = .ok (.aaload, 1) := by decide +kernel
theorem dX3_keep_51 : decode cX3_keep 51 = .ok (.ifnonnull 16, 3) := by decide +kernel
theorem dX3_keep_54 : decode cX3_keep 54 = .ok (.aload_n 0, 1) := by decide +kernel
theorem dX3_keep_55 : decode cX3_keep 55 = .ok (.getfield 11, 3) := by decide +kernel
theorem dX3_keep_58 : decode cX3_keep 58 = .ok (.iload_n 3, 1) := by decide +kernel
theorem dX3_keep_59 : decode cX3_keep 59 = .ok (.new 9, 3) := by decide +kernel
theorem dX3_keep_62 : decode cX3_keep 62 = .ok (.dup, 1) := by decide +kernel
theorem dX3_keep_63 : decode cX3_keep 63 = .ok (.invokespecial 24, 3) := by decide +kernel
theorem dX3_keep_66 : decode cX3_keep 66 = .ok (.aastore, 1) := by decide +kernel
theorem dX3_keep_67 : decode cX3_keep 67 = .ok (.aload_n 0, 1) := by decide +kernel
theorem dX3_keep_68 : decode cX3_keep 68 = .ok (.getfield 11, 3) := by decide +kernel
theorem dX3_keep_71 : decode cX3_keep 71 = .ok (.iload_n 3, 1) := by decide +kernel
theorem dX3_keep_72 : decode cX3_keep 72 = .ok (.aaload, 1) := by decide +kernel
theorem dX3_keep_73 : decode cX3_keep 73 = .ok (.getfield 25, 3) := by decide +kernel
theorem dX3_keep_76 : decode cX3_keep 76 = .ok (.aload_n 1, 1) := by decide +kernel
theorem dX3_keep_77 : decode cX3_keep 77 = .ok (.invokevirtual 29, 3) := by decide +kernel
theorem dX3_keep_80 : decode cX3_keep 80 = .ok (.aload_n 2, 1) := by decide +kernel
theorem dX3_keep_81 : decode cX3_keep 81 = .ok (.iconst 0, 1) := by decide +kernel
theorem dX3_keep_82 : decode cX3_keep 82 = .ok (.aload_n 0, 1) := by decide +kernel
theorem dX3_keep_83 : decode cX3_keep 83 = .ok (.getfield 11, 3) := by decide +kernel
theorem dX3_keep_86 : decode cX3_keep 86 = .ok (.iload_n 3, 1) := by decide +kernel
theorem dX3_keep_87 : decode cX3_keep 87 = .ok (.aaload, 1) := by decide +kernel
theorem dX3_keep_88 : decode cX3_keep 88 = .ok (.getfield 35, 3) := by decide +kernel
theorem dX3_keep_91 : decode cX3_keep 91 = .ok (.iconst 0, 1) := by decide +kernel
theorem dX3_keep_92 : decode cX3_keep 92 = .ok (.sipush 258, 3) := by decide +kernel
theorem dX3_keep_95 : decode cX3_keep 95 = .ok (.invokestatic 39, 3) := by decide +kernel
theorem dX3_keep_98 : decode cX3_keep 98 = .ok (.aload_n 0, 1) := by decide +kernel
theorem dX3_keep_99 : decode cX3_keep 99 = .ok (.dup, 1) := by decide +kernel
theorem dX3_keep_100 : decode cX3_keep 100 = .ok (.getfield 17, 3) := by decide +kernel
theorem dX3_keep_103 : decode cX3_keep 103 = .ok (.iconst 1, 1) := by decide +kernel
theorem dX3_keep_104 : decode cX3_keep 104 = .ok (.iadd, 1) := by decide +kernel
theorem dX3_keep_105 : decode cX3_keep 105 = .ok (.putfield 17, 3) := by decide +kernel
theorem dX3_keep_108 : decode cX3_keep 108 = .ok (.return_, 1) := by decide +kernel
theorem dX3_takeLatest_0 : decode cX3_takeLatest 0 = .ok (.aload_n 0, 1) := by decide +kernel
theorem dX3_takeLatest_1 : decode cX3_takeLatest 1 = .ok (.getfield 17, 3) := by decide +kernel
theorem dX3_takeLatest_4 : decode cX3_takeLatest 4 = .ok (.ifCond .ne 5, 3) := by decide +kernel
theorem dX3_takeLatest_7 : decode cX3_takeLatest 7 = .ok (.aconst_null, 1) := by decide +kernel
theorem dX3_takeLatest_8 : decode cX3_takeLatest 8 = .ok (.areturn, 1) := by decide +kernel
theorem dX3_takeLatest_9 : decode cX3_takeLatest 9 = .ok (.aload_n 0, 1) := by decide +kernel
theorem dX3_takeLatest_10 : decode cX3_takeLatest 10 = .ok (.dup, 1) := by decide +kernel
theorem dX3_takeLatest_11 : decode cX3_takeLatest 11 = .ok (.getfield 17, 3) := by decide +kernel
theorem dX3_takeLatest_14 : decode cX3_takeLatest 14 = .ok (.iconst 1, 1) := by decide +kernel
theorem dX3_takeLatest_15 : decode cX3_takeLatest 15 = .ok (.isub, 1) := by decide +kernel
theorem dX3_takeLatest_16 : decode cX3_takeLatest 16 = .ok (.putfield 17, 3) := by decide +kernel
theorem dX3_takeLatest_19 : decode cX3_takeLatest 19 = .ok (.aload_n 0, 1) := by decide +kernel
theorem dX3_takeLatest_20 : decode cX3_takeLatest 20 = .ok (.getfield 11, 3) := by decide +kernel
theorem dX3_takeLatest_23 : decode cX3_takeLatest 23 = .ok (.aload_n 0, 1) := by decide +kernel
theorem dX3_takeLatest_24 : decode cX3_takeLatest 24 = .ok (.getfield 21, 3) := by decide +kernel
theorem dX3_takeLatest_27 : decode cX3_takeLatest 27 = .ok (.aload_n 0, 1) := by decide +kernel
theorem dX3_takeLatest_28 : decode cX3_takeLatest 28 = .ok (.getfield 17, 3) := by decide +kernel
theorem dX3_takeLatest_31 : decode cX3_takeLatest 31 = .ok (.iadd, 1) := by decide +kernel
theorem dX3_takeLatest_32 : decode cX3_takeLatest 32 = .ok (.bipush 60, 2) := by decide +kernel
theorem dX3_takeLatest_34 : decode cX3_takeLatest 34 = .ok (.irem, 1) := by decide +kernel
theorem dX3_takeLatest_35 : decode cX3_takeLatest 35 = .ok (.aaload, 1) := by decide +kernel
theorem dX3_takeLatest_36 : decode cX3_takeLatest 36 = .ok (.areturn, 1) := by decide +kernel
theorem dX4_init_0 : decode cX4_init 0 = .ok (.aload_n 0, 1) := by decide +kernel
theorem dX4_init_1 : decode cX4_init 1 = .ok (.invokespecial 3, 3) := by decide +kernel
theorem dX4_init_4 : decode cX4_init 4 = .ok (.aload_n 0, 1) := by decide +kernel
theorem dX4_init_5 : decode cX4_init 5 = .ok (.sipush 160, 3) := by decide +kernel
theorem dX4_init_8 : decode cX4_init 8 = .ok (.newarray .int, 2) := by decide +kernel
theorem dX4_init_10 : decode cX4_init 10 = .ok (.putfield 9, 3) := by decide +kernel
theorem dX4_init_13 : decode cX4_init 13 = .ok (.aload_n 0, 1) := by decide +kernel
theorem dX4_init_14 : decode cX4_init 14 = .ok (.bipush 12, 2) := by decide +kernel
theorem dX4_init_16 : decode cX4_init 16 = .ok (.newarray .int, 2) := by decide +kernel
theorem dX4_init_18 : decode cX4_init 18 = .ok (.putfield 15, 3) := by decide +kernel
theorem dX4_init_21 : decode cX4_init 21 = .ok (.aload_n 0, 1) := by decide +kernel
theorem dX4_init_22 : decode cX4_init 22 = .ok (.bipush 40, 2) := by decide +kernel
theorem dX4_init_24 : decode cX4_init 24 = .ok (.newarray .int, 2) := by decide +kernel
theorem dX4_init_26 : decode cX4_init 26 = .ok (.putfield 18, 3) := by decide +kernel
theorem dX4_init_29 : decode cX4_init 29 = .ok (.aload_n 0, 1) := by decide +kernel
theorem dX4_init_30 : decode cX4_init 30 = .ok (.bipush 40, 2) := by decide +kernel
theorem dX4_init_32 : decode cX4_init 32 = .ok (.newarray .int, 2) := by decide +kernel
theorem dX4_init_34 : decode cX4_init 34 = .ok (.putfield 21, 3) := by decide +kernel
theorem dX4_init_37 : decode cX4_init 37 = .ok (.aload_n 0, 1) := by decide +kernel
theorem dX4_init_38 : decode cX4_init 38 = .ok (.bipush 40, 2) := by decide +kernel
theorem dX4_init_40 : decode cX4_init 40 = .ok (.newarray .int, 2) := by decide +kernel
theorem dX4_init_42 : decode cX4_init 42 = .ok (.putfield 24, 3) := by decide +kernel
theorem dX4_init_45 : decode cX4_init 45 = .ok (.aload_n 0, 1) := by decide +kernel
theorem dX4_init_46 : decode cX4_init 46 = .ok (.sipush 240, 3) := by decide +kernel
theorem dX4_init_49 : decode cX4_init 49 = .ok (.newarray .int, 2) := by decide +kernel
theorem dX4_init_51 : decode cX4_init 51 = .ok (.putfield 27, 3) := by decide +kernel
theorem dX4_init_54 : decode cX4_init 54 = .ok (.aload_n 0, 1) := by decide +kernel
theorem dX4_init_55 : decode cX4_init 55 = .ok (.bipush 6, 2) := by decide +kernel
theorem dX4_init_57 : decode cX4_init 57 = .ok (.newarray .int, 2) := by decide +kernel
theorem dX4_init_59 : decode cX4_init 59 = .ok (.putfield 30, 3) := by decide +kernel
theorem dX4_init_62 : decode cX4_init 62 = .ok (.aload_n 0, 1) := by decide +kernel
theorem dX4_init_63 : decode cX4_init 63 = .ok (.bipush 6, 2) := by decide +kernel
theorem dX4_init_65 : decode cX4_init 65 = .ok (.newarray .int, 2) := by decide +kernel
theorem dX4_init_67 : decode cX4_init 67 = .ok (.putfield 33, 3) := by decide +kernel
theorem dX4_init_70 : decode cX4_init 70 = .ok (.aload_n 0, 1) := by decide +kernel
theorem dX4_init_71 : decode cX4_init 71 = .ok (.getfield 18, 3) := by decide +kernel
theorem dX4_init_74 : decode cX4_init 74 = .ok (.iconst (-1), 1) := by decide +kernel
theorem dX4_init_75 : decode cX4_init 75 = .ok (.invokestatic 36, 3) := by decide +kernel
theorem dX4_init_78 : decode cX4_init 78 = .ok (.aload_n 0, 1) := by decide +kernel
theorem dX4_init_79 : decode cX4_init 79 = .ok (.getfield 21, 3) := by decide +kernel
theorem dX4_init_82 : decode cX4_init 82 = .ok (.iconst (-1), 1) := by decide +kernel
theorem dX4_init_83 : decode cX4_init 83 = .ok (.invokestatic 36, 3) := by decide +kernel
theorem dX4_init_86 : decode cX4_init 86 = .ok (.aload_n 0, 1) := by decide +kernel
theorem dX4_init_87 : decode cX4_init 87 = .ok (.getfield 24, 3) := by decide +kernel
theorem dX4_init_90 : decode cX4_init 90 = .ok (.iconst (-1), 1) := by decide +kernel
theorem dX4_init_91 : decode cX4_init 91 = .ok (.invokestatic 36, 3) := by decide +kernel
theorem dX4_init_94 : decode cX4_init 94 = .ok (.return_, 1) := by decide +kernel
theorem dX4_copyFrom_0 : decode cX4_copyFrom 0 = .ok (.aload_n 1, 1) := by decide +kernel
theorem dX4_copyFrom_1 : decode cX4_copyFrom 1 = .ok (.getfield 9, 3) := by decide +kernel
theorem dX4_copyFrom_4 : decode cX4_copyFrom 4 = .ok (.iconst 0, 1) := by decide +kernel
theorem dX4_copyFrom_5 : decode cX4_copyFrom 5 = .ok (.aload_n 0, 1) := by decide +kernel
theorem dX4_copyFrom_6 : decode cX4_copyFrom 6 = .ok (.getfield 9, 3) := by decide +kernel
theorem dX4_copyFrom_9 : decode cX4_copyFrom 9 = .ok (.iconst 0, 1) := by decide +kernel
theorem dX4_copyFrom_10 : decode cX4_copyFrom 10 = .ok (.aload_n 0, 1) := by decide +kernel
theorem dX4_copyFrom_11 : decode cX4_copyFrom 11 = .ok (.getfield 9, 3) := by decide +kernel
theorem dX4_copyFrom_14 : decode cX4_copyFrom 14 = .ok (.arraylength, 1) := by decide +kernel
theorem dX4_copyFrom_15 : decode cX4_copyFrom 15 = .ok (.invokestatic 42, 3) := by decide +kernel
theorem dX4_copyFrom_18 : decode cX4_copyFrom 18 = .ok (.aload_n 1, 1) := by decide +kernel
theorem dX4_copyFrom_19 : decode cX4_copyFrom 19 = .ok (.getfield 15, 3) := by decide +kernel
theorem dX4_copyFrom_22 : decode cX4_copyFrom 22 = .ok (.iconst 0, 1) := by decide +kernel
theorem dX4_copyFrom_23 : decode cX4_copyFrom 23 = .ok (.aload_n 0, 1) := by decide +kernel
theorem dX4_copyFrom_24 : decode cX4_copyFrom 24 = .ok (.getfield 15, 3) := by decide +kernel
theorem dX4_copyFrom_27 : decode cX4_copyFrom 27 = .ok (.iconst 0, 1) := by decide +kernel
theorem dX4_copyFrom_28 : decode cX4_copyFrom 28 = .ok (.aload_n 0, 1) := by decide +kernel
theorem dX4_copyFrom_29 : decode cX4_copyFrom 29 = .ok (.getfield 15, 3) := by decide +kernel
theorem dX4_copyFrom_32 : decode cX4_copyFrom 32 = .ok (.arraylength, 1) := by decide +kernel
theorem dX4_copyFrom_33 : decode cX4_copyFrom 33 = .ok (.invokestatic 42, 3) := by decide +kernel
theorem dX4_copyFrom_36 : decode cX4_copyFrom 36 = .ok (.aload_n 1, 1) := by decide +kernel
theorem dX4_copyFrom_37 : decode cX4_copyFrom 37 = .ok (.getfield 18, 3) := by decide +kernel
theorem dX4_copyFrom_40 : decode cX4_copyFrom 40 = .ok (.iconst 0, 1) := by decide +kernel
theorem dX4_copyFrom_41 : decode cX4_copyFrom 41 = .ok (.aload_n 0, 1) := by decide +kernel
theorem dX4_copyFrom_42 : decode cX4_copyFrom 42 = .ok (.getfield 18, 3) := by decide +kernel
theorem dX4_copyFrom_45 : decode cX4_copyFrom 45 = .ok (.iconst 0, 1) := by decide +kernel
theorem dX4_copyFrom_46 : decode cX4_copyFrom 46 = .ok (.bipush 40, 2) := by decide +kernel
theorem dX4_copyFrom_48 : decode cX4_copyFrom 48 = .ok (.invokestatic 42, 3) := by decide +kernel
theorem dX4_copyFrom_51 : decode cX4_copyFrom 51 = .ok (.aload_n 1, 1) := by decide +kernel
theorem dX4_copyFrom_52 : decode cX4_copyFrom 52 = .ok (.getfield 21, 3) := by decide +kernel
theorem dX4_copyFrom_55 : decode cX4_copyFrom 55 = .ok (.iconst 0, 1) := by decide +kernel
theorem dX4_copyFrom_56 : decode cX4_copyFrom 56 = .ok (.aload_n 0, 1) := by decide +kernel
theorem dX4_copyFrom_57 : decode cX4_copyFrom 57 = .ok (.getfield 21, 3) := by decide +kernel
theorem dX4_copyFrom_60 : decode cX4_copyFrom 60 = .ok (.iconst 0, 1) := by decide +kernel
theorem dX4_copyFrom_61 : decode cX4_copyFrom 61 = .ok (.bipush 40, 2) := by decide +kernel
theorem dX4_copyFrom_63 : decode cX4_copyFrom 63 = .ok (.invokestatic 42, 3) := by decide +kernel
theorem dX4_copyFrom_66 : decode cX4_copyFrom 66 = .ok (.aload_n 1, 1) := by decide +kernel
theorem dX4_copyFrom_67 : decode cX4_copyFrom 67 = .ok (.getfield 24, 3) := by decide +kernel
theorem dX4_copyFrom_70 : decode cX4_copyFrom 70 = .ok (.iconst 0, 1) := by decide +kernel
theorem dX4_copyFrom_71 : decode cX4_copyFrom 71 = .ok (.aload_n 0, 1) := by decide +kernel
theorem dX4_copyFrom_72 : decode cX4_copyFrom 72 = .ok (.getfield 24, 3) := by decide +kernel
theorem dX4_copyFrom_75 : decode cX4_copyFrom 75 = .ok (.iconst 0, 1) := by decide +kernel
theorem dX4_copyFrom_76 : decode cX4_copyFrom 76 = .ok (.bipush 40, 2) := by decide +kernel
theorem dX4_copyFrom_78 : decode cX4_copyFrom 78 = .ok (.invokestatic 42, 3) := by decide +kernel
theorem dX4_copyFrom_81 : decode cX4_copyFrom 81 = .ok (.aload_n 1, 1) := by decide +kernel
theorem dX4_copyFrom_82 : decode cX4_copyFrom 82 = .ok (.getfield 27, 3) := by decide +kernel
theorem dX4_copyFrom_85 : decode cX4_copyFrom 85 = .ok (.iconst 0, 1) := by decide +kernel
theorem dX4_copyFrom_86 : decode cX4_copyFrom 86 = .ok (.aload_n 0, 1) := by decide +kernel
theorem dX4_copyFrom_87 : decode cX4_copyFrom 87 = .ok (.getfield 27, 3) := by decide +kernel
theorem dX4_copyFrom_90 : decode cX4_copyFrom 90 = .ok (.iconst 0, 1) := by decide +kernel
theorem dX4_copyFrom_91 : decode cX4_copyFrom 91 = .ok (.aload_n 0, 1) := by decide +kernel
theorem dX4_copyFrom_92 : decode cX4_copyFrom 92 = .ok (.getfield 27, 3) := by decide +kernel
theorem dX4_copyFrom_95 : decode cX4_copyFrom 95 = .ok (.arraylength, 1) := by decide +kernel
theorem dX4_copyFrom_96 : decode cX4_copyFrom 96 = .ok (.invokestatic 42, 3) := by decide +kernel
theorem dX4_copyFrom_99 : decode cX4_copyFrom 99 = .ok (.aload_n 1, 1) := by decide +kernel
theorem dX4_copyFrom_100 : decode cX4_copyFrom 100 = .ok (.getfield 30, 3) := by decide +kernel
theorem dX4_copyFrom_103 : decode cX4_copyFrom 103 = .ok (.iconst 0, 1) := by decide +kernel
theorem dX4_copyFrom_104 : decode cX4_copyFrom 104 = .ok (.aload_n 0, 1) := by decide +kernel
theorem dX4_copyFrom_105 : decode cX4_copyFrom 105 = .ok (.getfield 30, 3) := by decide +kernel
theorem dX4_copyFrom_108 : decode cX4_copyFrom 108 = .ok (.iconst 0, 1) := by decide +kernel
theorem dX4_copyFrom_109 : decode cX4_copyFrom 109 = .ok (.bipush 6, 2) := by decide +kernel
theorem dX4_copyFrom_111 : decode cX4_copyFrom 111 = .ok (.invokestatic 42, 3) := by decide +kernel
theorem dX4_copyFrom_114 : decode cX4_copyFrom 114 = .ok (.aload_n 1, 1) := by decide +kernel
theorem dX4_copyFrom_115 : decode cX4_copyFrom 115 = .ok (.getfield 33, 3) := by decide +kernel
theorem dX4_copyFrom_118 : decode cX4_copyFrom 118 = .ok (.iconst 0, 1) := by decide +kernel
theorem dX4_copyFrom_119 : decode cX4_copyFrom 119 = .ok (.aload_n 0, 1) := by decide +kernel
theorem dX4_copyFrom_120 : decode cX4_copyFrom 120 = .ok (.getfield 33, 3) := by decide +kernel
theorem dX4_copyFrom_123 : decode cX4_copyFrom 123 = .ok (.iconst 0, 1) := by decide +kernel
theorem dX4_copyFrom_124 : decode cX4_copyFrom 124 = .ok (.bipush 6, 2) := by decide +kernel
theorem dX4_copyFrom_126 : decode cX4_copyFrom 126 = .ok (.invokestatic 42, 3) := by decide +kernel
theorem dX4_copyFrom_129 : decode cX4_copyFrom 129 = .ok (.return_, 1) := by decide +kernel
theorem dX4_setFacts_0 : decode cX4_setFacts 0 = .ok (.iconst 4, 1) := by decide +kernel
theorem dX4_setFacts_1 : decode cX4_setFacts 1 = .ok (.iload_n 1, 1) := by decide +kernel
theorem dX4_setFacts_2 : decode cX4_setFacts 2 = .ok (.imul, 1) := by decide +kernel
theorem dX4_setFacts_3 : decode cX4_setFacts 3 = .ok (.istore 6, 2) := by decide +kernel
theorem dX4_setFacts_5 : decode cX4_setFacts 5 = .ok (.aload_n 0, 1) := by decide +kernel
theorem dX4_setFacts_6 : decode cX4_setFacts 6 = .ok (.getfield 9, 3) := by decide +kernel
theorem dX4_setFacts_9 : decode cX4_setFacts 9 = .ok (.iload 6, 2) := by decide +kernel
theorem dX4_setFacts_11 : decode cX4_setFacts 11 = .ok (.iload_n 2, 1) := by decide +kernel
theorem dX4_setFacts_12 : decode cX4_setFacts 12 = .ok (.iastore, 1) := by decide +kernel
theorem dX4_setFacts_13 : decode cX4_setFacts 13 = .ok (.aload_n 0, 1) := by decide +kernel
theorem dX4_setFacts_14 : decode cX4_setFacts 14 = .ok (.getfield 9, 3) := by decide +kernel
theorem dX4_setFacts_17 : decode cX4_setFacts 17 = .ok (.iload 6, 2) := by decide +kernel
theorem dX4_setFacts_19 : decode cX4_setFacts 19 = .ok (.iconst 1, 1) := by decide +kernel
theorem dX4_setFacts_20 : decode cX4_setFacts 20 = .ok (.iadd, 1) := by decide +kernel
theorem dX4_setFacts_21 : decode cX4_setFacts 21 = .ok (.iload_n 3, 1) := by decide +kernel
theorem dX4_setFacts_22 : decode cX4_setFacts 22 = .ok (.iastore, 1) := by decide +kernel
theorem dX4_setFacts_23 : decode cX4_setFacts 23 = .ok (.aload_n 0, 1) := by decide +kernel
theorem dX4_setFacts_24 : decode cX4_setFacts 24 = .ok (.getfield 9, 3) := by decide +kernel
theorem dX4_setFacts_27 : decode cX4_setFacts 27 = .ok (.iload 6, 2) := by decide +kernel
theorem dX4_setFacts_29 : decode cX4_setFacts 29 = .ok (.iconst 2, 1) := by decide +kernel
theorem dX4_setFacts_30 : decode cX4_setFacts 30 = .ok (.iadd, 1) := by decide +kernel
theorem dX4_setFacts_31 : decode cX4_setFacts 31 = .ok (.iload 4, 2) := by decide +kernel
theorem dX4_setFacts_33 : decode cX4_setFacts 33 = .ok (.iastore, 1) := by decide +kernel
theorem dX4_setFacts_34 : decode cX4_setFacts 34 = .ok (.aload_n 0, 1) := by decide +kernel
theorem dX4_setFacts_35 : decode cX4_setFacts 35 = .ok (.getfield 9, 3) := by decide +kernel
theorem dX4_setFacts_38 : decode cX4_setFacts 38 = .ok (.iload 6, 2) := by decide +kernel
theorem dX4_setFacts_40 : decode cX4_setFacts 40 = .ok (.iconst 3, 1) := by decide +kernel
theorem dX4_setFacts_41 : decode cX4_setFacts 41 = .ok (.iadd, 1) := by decide +kernel
theorem dX4_setFacts_42 : decode cX4_setFacts 42 = .ok (.iload 5, 2) := by decide +kernel
theorem dX4_setFacts_44 : decode cX4_setFacts 44 = .ok (.iastore, 1) := by decide +kernel
theorem dX4_setFacts_45 : decode cX4_setFacts 45 = .ok (.return_, 1) := by decide +kernel
theorem dX4_setListFacts_0 : decode cX4_setListFacts 0 = .ok (.iconst 2, 1) := by decide +kernel
theorem dX4_setListFacts_1 : decode cX4_setListFacts 1 = .ok (.iload_n 1, 1) := by decide +kernel
theorem dX4_setListFacts_2 : decode cX4_setListFacts 2 = .ok (.imul, 1) := by decide +kernel
theorem dX4_setListFacts_3 : decode cX4_setListFacts 3 = .ok (.istore 4, 2) := by decide +kernel
theorem dX4_setListFacts_5 : decode cX4_setListFacts 5 = .ok (.aload_n 0, 1) := by decide +kernel
theorem dX4_setListFacts_6 : decode cX4_setListFacts 6 = .ok (.getfield 15, 3) := by decide +kernel
theorem dX4_setListFacts_9 : decode cX4_setListFacts 9 = .ok (.iload 4, 2) := by decide +kernel
theorem dX4_setListFacts_11 : decode cX4_setListFacts 11 = .ok (.iload_n 2, 1) := by decide +kernel
theorem dX4_setListFacts_12 : decode cX4_setListFacts 12 = .ok (.iastore, 1) := by decide +kernel
theorem dX4_setListFacts_13 : decode cX4_setListFacts 13 = .ok (.aload_n 0, 1) := by decide +kernel
theorem dX4_setListFacts_14 : decode cX4_setListFacts 14 = .ok (.getfield 15, 3) := by decide +kernel
theorem dX4_setListFacts_17 : decode cX4_setListFacts 17 = .ok (.iload 4, 2) := by decide +kernel
theorem dX4_setListFacts_19 : decode cX4_setListFacts 19 = .ok (.iconst 1, 1) := by decide +kernel
theorem dX4_setListFacts_20 : decode cX4_setListFacts 20 = .ok (.iadd, 1) := by decide +kernel
theorem dX4_setListFacts_21 : decode cX4_setListFacts 21 = .ok (.iload_n 3, 1) := by decide +kernel
theorem dX4_setListFacts_22 : decode cX4_setListFacts 22 = .ok (.iastore, 1) := by decide +kernel
theorem dX4_setListFacts_23 : decode cX4_setListFacts 23 = .ok (.return_, 1) := by decide +kernel
theorem dX4_isFrozen_0 : decode cX4_isFrozen 0 = .ok (.aload_n 0, 1) := by decide +kernel
theorem dX4_isFrozen_1 : decode cX4_isFrozen 1 = .ok (.getfield 21, 3) := by decide +kernel
theorem dX4_isFrozen_4 : decode cX4_isFrozen 4 = .ok (.iload_n 1, 1) := by decide +kernel
theorem dX4_isFrozen_5 : decode cX4_isFrozen 5 = .ok (.iaload, 1) := by decide +kernel
theorem dX4_isFrozen_6 : decode cX4_isFrozen 6 = .ok (.istore_n 2, 1) := by decide +kernel
theorem dX4_isFrozen_7 : decode cX4_isFrozen 7 = .ok (.iload_n 2, 1) := by decide +kernel
theorem dX4_isFrozen_8 : decode cX4_isFrozen 8 = .ok (.iconst (-1), 1) := by decide +kernel
theorem dX4_isFrozen_9 : decode cX4_isFrozen 9 = .ok (.if_icmp .eq 22, 3) := by decide +kernel
theorem dX4_isFrozen_12 : decode cX4_isFrozen 12 = .ok (.aload_n 0, 1) := by decide +kernel
theorem dX4_isFrozen_13 : decode cX4_isFrozen 13 = .ok (.getfield 24, 3) := by decide +kernel
theorem dX4_isFrozen_16 : decode cX4_isFrozen 16 = .ok (.iload_n 1, 1) := by decide +kernel
theorem dX4_isFrozen_17 : decode cX4_isFrozen 17 = .ok (.iaload, 1) := by decide +kernel
theorem dX4_isFrozen_18 : decode cX4_isFrozen 18 = .ok (.aload_n 0, 1) := by decide +kernel
theorem dX4_isFrozen_19 : decode cX4_isFrozen 19 = .ok (.getfield 33, 3) := by decide +kernel
theorem dX4_isFrozen_22 : decode cX4_isFrozen 22 = .ok (.iload_n 2, 1) := by decide +kernel
theorem dX4_isFrozen_23 : decode cX4_isFrozen 23 = .ok (.iaload, 1) := by decide +kernel
theorem dX4_isFrozen_24 : decode cX4_isFrozen 24 = .ok (.if_icmp .ge 7, 3) := by decide +kernel
theorem dX4_isFrozen_27 : decode cX4_isFrozen 27 = .ok (.iconst 1, 1) := by decide +kernel
theorem dX4_isFrozen_28 : decode cX4_isFrozen 28 = .ok (.goto 4, 3) := by decide +kernel
theorem dX4_isFrozen_31 : decode cX4_isFrozen 31 = .ok (.iconst 0, 1) := by decide +kernel
theorem dX4_isFrozen_32 : decode cX4_isFrozen 32 = .ok (.ireturn, 1) := by decide +kernel
theorem dX4_isFrozenCell_0 : decode cX4_isFrozenCell 0 = .ok (.iload_n 1, 1) := by decide +kernel
theorem dX4_isFrozenCell_1 : decode cX4_isFrozenCell 1 = .ok (.invokestatic 48, 3) := by decide +kernel
theorem dX4_isFrozenCell_4 : decode cX4_isFrozenCell 4 = .ok (.ifCond .eq 18, 3) := by decide +kernel
theorem dX4_isFrozenCell_7 : decode cX4_isFrozenCell 7 = .ok (.aload_n 0, 1) := by decide +kernel
theorem dX4_isFrozenCell_8 : decode cX4_isFrozenCell 8 = .ok (.iload_n 1, 1) := by decide +kernel
theorem dX4_isFrozenCell_9 : decode cX4_isFrozenCell 9 = .ok (.invokestatic 52, 3) := by decide +kernel
theorem dX4_isFrozenCell_12 : decode cX4_isFrozenCell 12 = .ok (.invokevirtual 56, 3) := by decide +kernel
theorem dX4_isFrozenCell_15 : decode cX4_isFrozenCell 15 = .ok (.ifCond .eq 7, 3) := by decide +kernel
theorem dX4_isFrozenCell_18 : decode cX4_isFrozenCell 18 = .ok (.iconst 1, 1) := by decide +kernel
theorem dX4_isFrozenCell_19 : decode cX4_isFrozenCell 19 = .ok (.goto 4, 3) := by decide +kernel
theorem dX4_isFrozenCell_22 : decode cX4_isFrozenCell 22 = .ok (.iconst 0, 1) := by decide +kernel
theorem dX4_isFrozenCell_23 : decode cX4_isFrozenCell 23 = .ok (.ireturn, 1) := by decide +kernel
theorem dX4_listOf_0 : decode cX4_listOf 0 = .ok (.iload_n 1, 1) := by decide +kernel
theorem dX4_listOf_1 : decode cX4_listOf 1 = .ok (.invokestatic 48, 3) := by decide +kernel
theorem dX4_listOf_4 : decode cX4_listOf 4 = .ok (.ifCond .eq 15, 3) := by decide +kernel
theorem dX4_listOf_7 : decode cX4_listOf 7 = .ok (.aload_n 0, 1) := by decide +kernel
theorem dX4_listOf_8 : decode cX4_listOf 8 = .ok (.getfield 21, 3) := by decide +kernel
theorem dX4_listOf_11 : decode cX4_listOf 11 = .ok (.iload_n 1, 1) := by decide +kernel
theorem dX4_listOf_12 : decode cX4_listOf 12 = .ok (.invokestatic 52, 3) := by decide +kernel
theorem dX4_listOf_15 : decode cX4_listOf 15 = .ok (.iaload, 1) := by decide +kernel
theorem dX4_listOf_16 : decode cX4_listOf 16 = .ok (.goto 7, 3) := by decide +kernel
theorem dX4_listOf_19 : decode cX4_listOf 19 = .ok (.iload_n 1, 1) := by decide +kernel
theorem dX4_listOf_20 : decode cX4_listOf 20 = .ok (.invokestatic 52, 3) := by decide +kernel
theorem dX4_listOf_23 : decode cX4_listOf 23 = .ok (.ireturn, 1) := by decide +kernel
theorem dX4_standsAt_0 : decode cX4_standsAt 0 = .ok (.iload_n 2, 1) := by decide +kernel
theorem dX4_standsAt_1 : decode cX4_standsAt 1 = .ok (.ifCond .lt 13, 3) := by decide +kernel
theorem dX4_standsAt_4 : decode cX4_standsAt 4 = .ok (.iload_n 2, 1) := by decide +kernel
theorem dX4_standsAt_5 : decode cX4_standsAt 5 = .ok (.aload_n 0, 1) := by decide +kernel
theorem dX4_standsAt_6 : decode cX4_standsAt 6 = .ok (.getfield 30, 3) := by decide +kernel
theorem dX4_standsAt_9 : decode cX4_standsAt 9 = .ok (.iload_n 1, 1) := by decide +kernel
theorem dX4_standsAt_10 : decode cX4_standsAt 10 = .ok (.iaload, 1) := by decide +kernel
theorem dX4_standsAt_11 : decode cX4_standsAt 11 = .ok (.if_icmp .lt 7, 3) := by decide +kernel
theorem dX4_standsAt_14 : decode cX4_standsAt 14 = .ok (.iconst (-1), 1) := by decide +kernel
theorem dX4_standsAt_15 : decode cX4_standsAt 15 = .ok (.goto 14, 3) := by decide +kernel
theorem dX4_standsAt_18 : decode cX4_standsAt 18 = .ok (.aload_n 0, 1) := by decide +kernel
theorem dX4_standsAt_19 : decode cX4_standsAt 19 = .ok (.getfield 27, 3) := by decide +kernel
theorem dX4_standsAt_22 : decode cX4_standsAt 22 = .ok (.bipush 40, 2) := by decide +kernel
theorem dX4_standsAt_24 : decode cX4_standsAt 24 = .ok (.iload_n 1, 1) := by decide +kernel
theorem dX4_standsAt_25 : decode cX4_standsAt 25 = .ok (.imul, 1) := by decide +kernel
theorem dX4_standsAt_26 : decode cX4_standsAt 26 = .ok (.iload_n 2, 1) := by decide +kernel
theorem dX4_standsAt_27 : decode cX4_standsAt 27 = .ok (.iadd, 1) := by decide +kernel
theorem dX4_standsAt_28 : decode cX4_standsAt 28 = .ok (.iaload, 1) := by decide +kernel
theorem dX4_standsAt_29 : decode cX4_standsAt 29 = .ok (.ireturn, 1) := by decide +kernel
theorem dX4_neighbour_0 : decode cX4_neighbour 0 = .ok (.aload_n 0, 1) := by decide +kernel
theorem dX4_neighbour_1 : decode cX4_neighbour 1 = .ok (.getfield 21, 3) := by decide +kernel
theorem dX4_neighbour_4 : decode cX4_neighbour 4 = .ok (.iload_n 1, 1) := by decide +kernel
theorem dX4_neighbour_5 : decode cX4_neighbour 5 = .ok (.iaload, 1) := by decide +kernel
theorem dX4_neighbour_6 : decode cX4_neighbour 6 = .ok (.istore_n 3, 1) := by decide +kernel
theorem dX4_neighbour_7 : decode cX4_neighbour 7 = .ok (.iload_n 3, 1) := by decide +kernel
theorem dX4_neighbour_8 : decode cX4_neighbour 8 = .ok (.iconst (-1), 1) := by decide +kernel
theorem dX4_neighbour_9 : decode cX4_neighbour 9 = .ok (.if_icmp .ne 7, 3) := by decide +kernel
theorem dX4_neighbour_12 : decode cX4_neighbour 12 = .ok (.iconst (-1), 1) := by decide +kernel
theorem dX4_neighbour_13 : decode cX4_neighbour 13 = .ok (.goto 16, 3) := by decide +kernel
theorem dX4_neighbour_16 : decode cX4_neighbour 16 = .ok (.aload_n 0, 1) := by decide +kernel
theorem dX4_neighbour_17 : decode cX4_neighbour 17 = .ok (.iload_n 3, 1) := by decide +kernel
theorem dX4_neighbour_18 : decode cX4_neighbour 18 = .ok (.aload_n 0, 1) := by decide +kernel
theorem dX4_neighbour_19 : decode cX4_neighbour 19 = .ok (.getfield 24, 3) := by decide +kernel
theorem dX4_neighbour_22 : decode cX4_neighbour 22 = .ok (.iload_n 1, 1) := by decide +kernel
theorem dX4_neighbour_23 : decode cX4_neighbour 23 = .ok (.iaload, 1) := by decide +kernel
theorem dX4_neighbour_24 : decode cX4_neighbour 24 = .ok (.iload_n 2, 1) := by decide +kernel
theorem dX4_neighbour_25 : decode cX4_neighbour 25 = .ok (.iadd, 1) := by decide +kernel
theorem dX4_neighbour_26 : decode cX4_neighbour 26 = .ok (.invokevirtual 59, 3) := by decide +kernel
theorem dX4_neighbour_29 : decode cX4_neighbour 29 = .ok (.ireturn, 1) := by decide +kernel
theorem dX4_shadowSeen_0 : decode cX4_shadowSeen 0 = .ok (.iload_n 1, 1) := by decide +kernel
theorem dX4_shadowSeen_1 : decode cX4_shadowSeen 1 = .ok (.invokestatic 52, 3) := by decide +kernel
theorem dX4_shadowSeen_4 : decode cX4_shadowSeen 4 = .ok (.istore 4, 2) := by decide +kernel
theorem dX4_shadowSeen_6 : decode cX4_shadowSeen 6 = .ok (.aload_n 0, 1) := by decide +kernel
theorem dX4_shadowSeen_7 : decode cX4_shadowSeen 7 = .ok (.iload_n 1, 1) := by decide +kernel
theorem dX4_shadowSeen_8 : decode cX4_shadowSeen 8 = .ok (.invokevirtual 63, 3) := by decide +kernel
theorem dX4_shadowSeen_11 : decode cX4_shadowSeen 11 = .ok (.istore 5, 2) := by decide +kernel
theorem dX4_shadowSeen_13 : decode cX4_shadowSeen 13 = .ok (.iload_n 2, 1) := by decide +kernel
theorem dX4_shadowSeen_14 : decode cX4_shadowSeen 14 = .ok (.iconst 4, 1) := by decide +kernel
theorem dX4_shadowSeen_15 : decode cX4_shadowSeen 15 = .ok (.if_icmp .ne 26, 3) := by decide +kernel
theorem dX4_shadowSeen_18 : decode cX4_shadowSeen 18 = .ok (.iload_n 1, 1) := by decide +kernel
theorem dX4_shadowSeen_19 : decode cX4_shadowSeen 19 = .ok (.invokestatic 48, 3) := by decide +kernel
theorem dX4_shadowSeen_22 : decode cX4_shadowSeen 22 = .ok (.ifCond .eq 12, 3) := by decide +kernel
theorem dX4_shadowSeen_25 : decode cX4_shadowSeen 25 = .ok (.iload 4, 2) := by decide +kernel
theorem dX4_shadowSeen_27 : decode cX4_shadowSeen 27 = .ok (.iload_n 3, 1) := by decide +kernel
theorem dX4_shadowSeen_28 : decode cX4_shadowSeen 28 = .ok (.invokestatic 66, 3) := by decide +kernel
theorem dX4_shadowSeen_31 : decode cX4_shadowSeen 31 = .ok (.goto 9, 3) := by decide +kernel
theorem dX4_shadowSeen_34 : decode cX4_shadowSeen 34 = .ok (.iload 4, 2) := by decide +kernel
theorem dX4_shadowSeen_36 : decode cX4_shadowSeen 36 = .ok (.iload_n 3, 1) := by decide +kernel
theorem dX4_shadowSeen_37 : decode cX4_shadowSeen 37 = .ok (.invokestatic 69, 3) := by decide +kernel
theorem dX4_shadowSeen_40 : decode cX4_shadowSeen 40 = .ok (.ireturn, 1) := by decide +kernel
theorem dX4_shadowSeen_41 : decode cX4_shadowSeen 41 = .ok (.iload 5, 2) := by decide +kernel
theorem dX4_shadowSeen_43 : decode cX4_shadowSeen 43 = .ok (.iconst (-1), 1) := by decide +kernel
theorem dX4_shadowSeen_44 : decode cX4_shadowSeen 44 = .ok (.if_icmp .ne 5, 3) := by decide +kernel
theorem dX4_shadowSeen_47 : decode cX4_shadowSeen 47 = .ok (.iconst (-1), 1) := by decide +kernel
theorem dX4_shadowSeen_48 : decode cX4_shadowSeen 48 = .ok (.ireturn, 1) := by decide +kernel
theorem dX4_shadowSeen_49 : decode cX4_shadowSeen 49 = .ok (.iconst (-1), 1) := by decide +kernel
theorem dX4_shadowSeen_50 : decode cX4_shadowSeen 50 = .ok (.istore 6, 2) := by decide +kernel
theorem dX4_shadowSeen_52 : decode cX4_shadowSeen 52 = .ok (.iload_n 2, 1) := by decide +kernel
theorem dX4_shadowSeen_53 : decode cX4_shadowSeen 53 = .ok (.tableswitch 173 5 13 #[58, 78, 98, 51, 173, 173, 173, 141, 153], 51) := by decide +kernel
theorem dX4_shadowSeen_104 : decode cX4_shadowSeen 104 = .ok (.iload 5, 2) := by decide +kernel
theorem dX4_shadowSeen_106 : decode cX4_shadowSeen 106 = .ok (.iload_n 3, 1) := by decide +kernel
theorem dX4_shadowSeen_107 : decode cX4_shadowSeen 107 = .ok (.invokestatic 69, 3) := by decide +kernel
theorem dX4_shadowSeen_110 : decode cX4_shadowSeen 110 = .ok (.ireturn, 1) := by decide +kernel
theorem dX4_shadowSeen_111 : decode cX4_shadowSeen 111 = .ok (.aload_n 0, 1) := by decide +kernel
theorem dX4_shadowSeen_112 : decode cX4_shadowSeen 112 = .ok (.iload 5, 2) := by decide +kernel
theorem dX4_shadowSeen_114 : decode cX4_shadowSeen 114 = .ok (.aload_n 0, 1) := by decide +kernel
theorem dX4_shadowSeen_115 : decode cX4_shadowSeen 115 = .ok (.getfield 24, 3) := by decide +kernel
theorem dX4_shadowSeen_118 : decode cX4_shadowSeen 118 = .ok (.iload 4, 2) := by decide +kernel
theorem dX4_shadowSeen_120 : decode cX4_shadowSeen 120 = .ok (.iaload, 1) := by decide +kernel
theorem dX4_shadowSeen_121 : decode cX4_shadowSeen 121 = .ok (.iconst 1, 1) := by decide +kernel
theorem dX4_shadowSeen_122 : decode cX4_shadowSeen 122 = .ok (.isub, 1) := by decide +kernel
theorem dX4_shadowSeen_123 : decode cX4_shadowSeen 123 = .ok (.invokevirtual 59, 3) := by decide +kernel
theorem dX4_shadowSeen_126 : decode cX4_shadowSeen 126 = .ok (.istore 6, 2) := by decide +kernel
theorem dX4_shadowSeen_128 : decode cX4_shadowSeen 128 = .ok (.goto 98, 3) := by decide +kernel
theorem dX4_shadowSeen_131 : decode cX4_shadowSeen 131 = .ok (.aload_n 0, 1) := by decide +kernel
theorem dX4_shadowSeen_132 : decode cX4_shadowSeen 132 = .ok (.iload 5, 2) := by decide +kernel
theorem dX4_shadowSeen_134 : decode cX4_shadowSeen 134 = .ok (.aload_n 0, 1) := by decide +kernel
theorem dX4_shadowSeen_135 : decode cX4_shadowSeen 135 = .ok (.getfield 24, 3) := by decide +kernel
theorem dX4_shadowSeen_138 : decode cX4_shadowSeen 138 = .ok (.iload 4, 2) := by decide +kernel
theorem dX4_shadowSeen_140 : decode cX4_shadowSeen 140 = .ok (.iaload, 1) := by decide +kernel
theorem dX4_shadowSeen_141 : decode cX4_shadowSeen 141 = .ok (.iconst 1, 1) := by decide +kernel
theorem dX4_shadowSeen_142 : decode cX4_shadowSeen 142 = .ok (.iadd, 1) := by decide +kernel
theorem dX4_shadowSeen_143 : decode cX4_shadowSeen 143 = .ok (.invokevirtual 59, 3) := by decide +kernel
theorem dX4_shadowSeen_146 : decode cX4_shadowSeen 146 = .ok (.istore 6, 2) := by decide +kernel
theorem dX4_shadowSeen_148 : decode cX4_shadowSeen 148 = .ok (.goto 78, 3) := by decide +kernel
theorem dX4_shadowSeen_151 : decode cX4_shadowSeen 151 = .ok (.aload_n 0, 1) := by decide +kernel
theorem dX4_shadowSeen_152 : decode cX4_shadowSeen 152 = .ok (.getfield 18, 3) := by decide +kernel
theorem dX4_shadowSeen_155 : decode cX4_shadowSeen 155 = .ok (.iload 4, 2) := by decide +kernel
theorem dX4_shadowSeen_157 : decode cX4_shadowSeen 157 = .ok (.iaload, 1) := by decide +kernel
theorem dX4_shadowSeen_158 : decode cX4_shadowSeen 158 = .ok (.iconst (-1), 1) := by decide +kernel
theorem dX4_shadowSeen_159 : decode cX4_shadowSeen 159 = .ok (.if_icmp .eq 19, 3) := by decide +kernel
theorem dX4_shadowSeen_162 : decode cX4_shadowSeen 162 = .ok (.aload_n 0, 1) := by decide +kernel
theorem dX4_shadowSeen_163 : decode cX4_shadowSeen 163 = .ok (.getfield 21, 3) := by decide +kernel
theorem dX4_shadowSeen_166 : decode cX4_shadowSeen 166 = .ok (.aload_n 0, 1) := by decide +kernel
theorem dX4_shadowSeen_167 : decode cX4_shadowSeen 167 = .ok (.getfield 18, 3) := by decide +kernel
theorem dX4_shadowSeen_170 : decode cX4_shadowSeen 170 = .ok (.iload 4, 2) := by decide +kernel
theorem dX4_shadowSeen_172 : decode cX4_shadowSeen 172 = .ok (.iaload, 1) := by decide +kernel
theorem dX4_shadowSeen_173 : decode cX4_shadowSeen 173 = .ok (.iaload, 1) := by decide +kernel
theorem dX4_shadowSeen_174 : decode cX4_shadowSeen 174 = .ok (.iconst (-1), 1) := by decide +kernel
theorem dX4_shadowSeen_175 : decode cX4_shadowSeen 175 = .ok (.if_icmp .ne 7, 3) := by decide +kernel
theorem dX4_shadowSeen_178 : decode cX4_shadowSeen 178 = .ok (.iconst (-1), 1) := by decide +kernel
theorem dX4_shadowSeen_179 : decode cX4_shadowSeen 179 = .ok (.goto 10, 3) := by decide +kernel
theorem dX4_shadowSeen_182 : decode cX4_shadowSeen 182 = .ok (.aload_n 0, 1) := by decide +kernel
theorem dX4_shadowSeen_183 : decode cX4_shadowSeen 183 = .ok (.getfield 18, 3) := by decide +kernel
theorem dX4_shadowSeen_186 : decode cX4_shadowSeen 186 = .ok (.iload 4, 2) := by decide +kernel
theorem dX4_shadowSeen_188 : decode cX4_shadowSeen 188 = .ok (.iaload, 1) := by decide +kernel
theorem dX4_shadowSeen_189 : decode cX4_shadowSeen 189 = .ok (.istore 6, 2) := by decide +kernel
theorem dX4_shadowSeen_191 : decode cX4_shadowSeen 191 = .ok (.goto 35, 3) := by decide +kernel
theorem dX4_shadowSeen_194 : decode cX4_shadowSeen 194 = .ok (.aload_n 0, 1) := by decide +kernel
theorem dX4_shadowSeen_195 : decode cX4_shadowSeen 195 = .ok (.iload 5, 2) := by decide +kernel
theorem dX4_shadowSeen_197 : decode cX4_shadowSeen 197 = .ok (.iconst 0, 1) := by decide +kernel
theorem dX4_shadowSeen_198 : decode cX4_shadowSeen 198 = .ok (.invokevirtual 59, 3) := by decide +kernel
theorem dX4_shadowSeen_201 : decode cX4_shadowSeen 201 = .ok (.istore 6, 2) := by decide +kernel
theorem dX4_shadowSeen_203 : decode cX4_shadowSeen 203 = .ok (.goto 23, 3) := by decide +kernel
theorem dX4_shadowSeen_206 : decode cX4_shadowSeen 206 = .ok (.aload_n 0, 1) := by decide +kernel
theorem dX4_shadowSeen_207 : decode cX4_shadowSeen 207 = .ok (.iload 5, 2) := by decide +kernel
theorem dX4_shadowSeen_209 : decode cX4_shadowSeen 209 = .ok (.aload_n 0, 1) := by decide +kernel
theorem dX4_shadowSeen_210 : decode cX4_shadowSeen 210 = .ok (.getfield 30, 3) := by decide +kernel
theorem dX4_shadowSeen_213 : decode cX4_shadowSeen 213 = .ok (.iload 5, 2) := by decide +kernel
theorem dX4_shadowSeen_215 : decode cX4_shadowSeen 215 = .ok (.iaload, 1) := by decide +kernel
theorem dX4_shadowSeen_216 : decode cX4_shadowSeen 216 = .ok (.iconst 1, 1) := by decide +kernel
theorem dX4_shadowSeen_217 : decode cX4_shadowSeen 217 = .ok (.isub, 1) := by decide +kernel
theorem dX4_shadowSeen_218 : decode cX4_shadowSeen 218 = .ok (.invokevirtual 59, 3) := by decide +kernel
theorem dX4_shadowSeen_221 : decode cX4_shadowSeen 221 = .ok (.istore 6, 2) := by decide +kernel
theorem dX4_shadowSeen_223 : decode cX4_shadowSeen 223 = .ok (.goto 3, 3) := by decide +kernel
theorem dX4_shadowSeen_226 : decode cX4_shadowSeen 226 = .ok (.iload 6, 2) := by decide +kernel
theorem dX4_shadowSeen_228 : decode cX4_shadowSeen 228 = .ok (.iconst (-1), 1) := by decide +kernel
theorem dX4_shadowSeen_229 : decode cX4_shadowSeen 229 = .ok (.if_icmp .ne 7, 3) := by decide +kernel
theorem dX4_shadowSeen_232 : decode cX4_shadowSeen 232 = .ok (.iconst (-1), 1) := by decide +kernel
theorem dX4_shadowSeen_233 : decode cX4_shadowSeen 233 = .ok (.goto 9, 3) := by decide +kernel
theorem dX4_shadowSeen_236 : decode cX4_shadowSeen 236 = .ok (.iload 6, 2) := by decide +kernel
theorem dX4_shadowSeen_238 : decode cX4_shadowSeen 238 = .ok (.iload_n 3, 1) := by decide +kernel
theorem dX4_shadowSeen_239 : decode cX4_shadowSeen 239 = .ok (.invokestatic 66, 3) := by decide +kernel
theorem dX4_shadowSeen_242 : decode cX4_shadowSeen 242 = .ok (.ireturn, 1) := by decide +kernel
theorem dX4_insert_0 : decode cX4_insert 0 = .ok (.aload_n 0, 1) := by decide +kernel
theorem dX4_insert_1 : decode cX4_insert 1 = .ok (.getfield 30, 3) := by decide +kernel
theorem dX4_insert_4 : decode cX4_insert 4 = .ok (.iload_n 2, 1) := by decide +kernel
theorem dX4_insert_5 : decode cX4_insert 5 = .ok (.iaload, 1) := by decide +kernel
theorem dX4_insert_6 : decode cX4_insert 6 = .ok (.bipush 40, 2) := by decide +kernel
theorem dX4_insert_8 : decode cX4_insert 8 = .ok (.if_icmp .lt 4, 3) := by decide +kernel
theorem dX4_insert_11 : decode cX4_insert 11 = .ok (.return_, 1) := by decide +kernel
theorem dX4_insert_12 : decode cX4_insert 12 = .ok (.bipush 40, 2) := by decide +kernel
theorem dX4_insert_14 : decode cX4_insert 14 = .ok (.iload_n 2, 1) := by decide +kernel
theorem dX4_insert_15 : decode cX4_insert 15 = .ok (.imul, 1) := by decide +kernel
theorem dX4_insert_16 : decode cX4_insert 16 = .ok (.istore 4, 2) := by decide +kernel
theorem dX4_insert_18 : decode cX4_insert 18 = .ok (.aload_n 0, 1) := by decide +kernel
theorem dX4_insert_19 : decode cX4_insert 19 = .ok (.getfield 30, 3) := by decide +kernel
theorem dX4_insert_22 : decode cX4_insert 22 = .ok (.iload_n 2, 1) := by decide +kernel
theorem dX4_insert_23 : decode cX4_insert 23 = .ok (.iaload, 1) := by decide +kernel
theorem dX4_insert_24 : decode cX4_insert 24 = .ok (.istore 5, 2) := by decide +kernel
theorem dX4_insert_26 : decode cX4_insert 26 = .ok (.iload 5, 2) := by decide +kernel
theorem dX4_insert_28 : decode cX4_insert 28 = .ok (.iload_n 3, 1) := by decide +kernel
theorem dX4_insert_29 : decode cX4_insert 29 = .ok (.if_icmp .le 31, 3) := by decide +kernel
theorem dX4_insert_32 : decode cX4_insert 32 = .ok (.aload_n 0, 1) := by decide +kernel
theorem dX4_insert_33 : decode cX4_insert 33 = .ok (.getfield 27, 3) := by decide +kernel
theorem dX4_insert_36 : decode cX4_insert 36 = .ok (.iload 4, 2) := by decide +kernel
theorem dX4_insert_38 : decode cX4_insert 38 = .ok (.iload 5, 2) := by decide +kernel
theorem dX4_insert_40 : decode cX4_insert 40 = .ok (.iadd, 1) := by decide +kernel
theorem dX4_insert_41 : decode cX4_insert 41 = .ok (.aload_n 0, 1) := by decide +kernel
theorem dX4_insert_42 : decode cX4_insert 42 = .ok (.getfield 27, 3) := by decide +kernel
theorem dX4_insert_45 : decode cX4_insert 45 = .ok (.iload 4, 2) := by decide +kernel
theorem dX4_insert_47 : decode cX4_insert 47 = .ok (.iload 5, 2) := by decide +kernel
theorem dX4_insert_49 : decode cX4_insert 49 = .ok (.iadd, 1) := by decide +kernel
theorem dX4_insert_50 : decode cX4_insert 50 = .ok (.iconst 1, 1) := by decide +kernel
theorem dX4_insert_51 : decode cX4_insert 51 = .ok (.isub, 1) := by decide +kernel
theorem dX4_insert_52 : decode cX4_insert 52 = .ok (.iaload, 1) := by decide +kernel
theorem dX4_insert_53 : decode cX4_insert 53 = .ok (.iastore, 1) := by decide +kernel
theorem dX4_insert_54 : decode cX4_insert 54 = .ok (.iinc 5 (-1), 3) := by decide +kernel
theorem dX4_insert_57 : decode cX4_insert 57 = .ok (.goto (-31), 3) := by decide +kernel
theorem dX4_insert_60 : decode cX4_insert 60 = .ok (.aload_n 0, 1) := by decide +kernel
theorem dX4_insert_61 : decode cX4_insert 61 = .ok (.getfield 27, 3) := by decide +kernel
theorem dX4_insert_64 : decode cX4_insert 64 = .ok (.iload 4, 2) := by decide +kernel
theorem dX4_insert_66 : decode cX4_insert 66 = .ok (.iload_n 3, 1) := by decide +kernel
theorem dX4_insert_67 : decode cX4_insert 67 = .ok (.iadd, 1) := by decide +kernel
theorem dX4_insert_68 : decode cX4_insert 68 = .ok (.iload_n 1, 1) := by decide +kernel
theorem dX4_insert_69 : decode cX4_insert 69 = .ok (.iastore, 1) := by decide +kernel
theorem dX4_insert_70 : decode cX4_insert 70 = .ok (.aload_n 0, 1) := by decide +kernel
theorem dX4_insert_71 : decode cX4_insert 71 = .ok (.getfield 30, 3) := by decide +kernel
theorem dX4_insert_74 : decode cX4_insert 74 = .ok (.iload_n 2, 1) := by decide +kernel
theorem dX4_insert_75 : decode cX4_insert 75 = .ok (.dup2, 1) := by decide +kernel
theorem dX4_insert_76 : decode cX4_insert 76 = .ok (.iaload, 1) := by decide +kernel
theorem dX4_insert_77 : decode cX4_insert 77 = .ok (.iconst 1, 1) := by decide +kernel
theorem dX4_insert_78 : decode cX4_insert 78 = .ok (.iadd, 1) := by decide +kernel
theorem dX4_insert_79 : decode cX4_insert 79 = .ok (.iastore, 1) := by decide +kernel
theorem dX4_insert_80 : decode cX4_insert 80 = .ok (.aload_n 0, 1) := by decide +kernel
theorem dX4_insert_81 : decode cX4_insert 81 = .ok (.iload_n 2, 1) := by decide +kernel
theorem dX4_insert_82 : decode cX4_insert 82 = .ok (.iload_n 3, 1) := by decide +kernel
theorem dX4_insert_83 : decode cX4_insert 83 = .ok (.invokevirtual 72, 3) := by decide +kernel
theorem dX4_insert_86 : decode cX4_insert 86 = .ok (.return_, 1) := by decide +kernel
theorem dX4_remove_0 : decode cX4_remove 0 = .ok (.aload_n 0, 1) := by decide +kernel
theorem dX4_remove_1 : decode cX4_remove 1 = .ok (.getfield 21, 3) := by decide +kernel
theorem dX4_remove_4 : decode cX4_remove 4 = .ok (.iload_n 1, 1) := by decide +kernel
theorem dX4_remove_5 : decode cX4_remove 5 = .ok (.iaload, 1) := by decide +kernel
theorem dX4_remove_6 : decode cX4_remove 6 = .ok (.istore_n 2, 1) := by decide +kernel
theorem dX4_remove_7 : decode cX4_remove 7 = .ok (.iload_n 2, 1) := by decide +kernel
theorem dX4_remove_8 : decode cX4_remove 8 = .ok (.iconst (-1), 1) := by decide +kernel
theorem dX4_remove_9 : decode cX4_remove 9 = .ok (.if_icmp .ne 4, 3) := by decide +kernel
theorem dX4_remove_12 : decode cX4_remove 12 = .ok (.return_, 1) := by decide +kernel
theorem dX4_remove_13 : decode cX4_remove 13 = .ok (.aload_n 0, 1) := by decide +kernel
theorem dX4_remove_14 : decode cX4_remove 14 = .ok (.getfield 24, 3) := by decide +kernel
theorem dX4_remove_17 : decode cX4_remove 17 = .ok (.iload_n 1, 1) := by decide +kernel
theorem dX4_remove_18 : decode cX4_remove 18 = .ok (.iaload, 1) := by decide +kernel
theorem dX4_remove_19 : decode cX4_remove 19 = .ok (.istore_n 3, 1) := by decide +kernel
theorem dX4_remove_20 : decode cX4_remove 20 = .ok (.bipush 40, 2) := by decide +kernel
theorem dX4_remove_22 : decode cX4_remove 22 = .ok (.iload_n 2, 1) := by decide +kernel
theorem dX4_remove_23 : decode cX4_remove 23 = .ok (.imul, 1) := by decide +kernel
theorem dX4_remove_24 : decode cX4_remove 24 = .ok (.istore 4, 2) := by decide +kernel
theorem dX4_remove_26 : decode cX4_remove 26 = .ok (.aload_n 0, 1) := by decide +kernel
theorem dX4_remove_27 : decode cX4_remove 27 = .ok (.getfield 30, 3) := by decide +kernel
theorem dX4_remove_30 : decode cX4_remove 30 = .ok (.iload_n 2, 1) := by decide +kernel
theorem dX4_remove_31 : decode cX4_remove 31 = .ok (.dup2, 1) := by decide +kernel
theorem dX4_remove_32 : decode cX4_remove 32 = .ok (.iaload, 1) := by decide +kernel
theorem dX4_remove_33 : decode cX4_remove 33 = .ok (.iconst 1, 1) := by decide +kernel
theorem dX4_remove_34 : decode cX4_remove 34 = .ok (.isub, 1) := by decide +kernel
theorem dX4_remove_35 : decode cX4_remove 35 = .ok (.iastore, 1) := by decide +kernel
theorem dX4_remove_36 : decode cX4_remove 36 = .ok (.iload_n 3, 1) := by decide +kernel
theorem dX4_remove_37 : decode cX4_remove 37 = .ok (.istore 5, 2) := by decide +kernel
theorem dX4_remove_39 : decode cX4_remove 39 = .ok (.iload 5, 2) := by decide +kernel
theorem dX4_remove_41 : decode cX4_remove 41 = .ok (.aload_n 0, 1) := by decide +kernel
theorem dX4_remove_42 : decode cX4_remove 42 = .ok (.getfield 30, 3) := by decide +kernel
theorem dX4_remove_45 : decode cX4_remove 45 = .ok (.iload_n 2, 1) := by decide +kernel
theorem dX4_remove_46 : decode cX4_remove 46 = .ok (.iaload, 1) := by decide +kernel
theorem dX4_remove_47 : decode cX4_remove 47 = .ok (.if_icmp .ge 31, 3) := by decide +kernel
theorem dX4_remove_50 : decode cX4_remove 50 = .ok (.aload_n 0, 1) := by decide +kernel
theorem dX4_remove_51 : decode cX4_remove 51 = .ok (.getfield 27, 3) := by decide +kernel
theorem dX4_remove_54 : decode cX4_remove 54 = .ok (.iload 4, 2) := by decide +kernel
theorem dX4_remove_56 : decode cX4_remove 56 = .ok (.iload 5, 2) := by decide +kernel
theorem dX4_remove_58 : decode cX4_remove 58 = .ok (.iadd, 1) := by decide +kernel
theorem dX4_remove_59 : decode cX4_remove 59 = .ok (.aload_n 0, 1) := by decide +kernel
theorem dX4_remove_60 : decode cX4_remove 60 = .ok (.getfield 27, 3) := by decide +kernel
theorem dX4_remove_63 : decode cX4_remove 63 = .ok (.iload 4, 2) := by decide +kernel
theorem dX4_remove_65 : decode cX4_remove 65 = .ok (.iload 5, 2) := by decide +kernel
theorem dX4_remove_67 : decode cX4_remove 67 = .ok (.iadd, 1) := by decide +kernel
theorem dX4_remove_68 : decode cX4_remove 68 = .ok (.iconst 1, 1) := by decide +kernel
theorem dX4_remove_69 : decode cX4_remove 69 = .ok (.iadd, 1) := by decide +kernel
theorem dX4_remove_70 : decode cX4_remove 70 = .ok (.iaload, 1) := by decide +kernel
theorem dX4_remove_71 : decode cX4_remove 71 = .ok (.iastore, 1) := by decide +kernel
theorem dX4_remove_72 : decode cX4_remove 72 = .ok (.iinc 5 1, 3) := by decide +kernel
theorem dX4_remove_75 : decode cX4_remove 75 = .ok (.goto (-36), 3) := by decide +kernel
theorem dX4_remove_78 : decode cX4_remove 78 = .ok (.aload_n 0, 1) := by decide +kernel
theorem dX4_remove_79 : decode cX4_remove 79 = .ok (.getfield 21, 3) := by decide +kernel
theorem dX4_remove_82 : decode cX4_remove 82 = .ok (.iload_n 1, 1) := by decide +kernel
theorem dX4_remove_83 : decode cX4_remove 83 = .ok (.iconst (-1), 1) := by decide +kernel
theorem dX4_remove_84 : decode cX4_remove 84 = .ok (.iastore, 1) := by decide +kernel
theorem dX4_remove_85 : decode cX4_remove 85 = .ok (.aload_n 0, 1) := by decide +kernel
theorem dX4_remove_86 : decode cX4_remove 86 = .ok (.getfield 24, 3) := by decide +kernel
theorem dX4_remove_89 : decode cX4_remove 89 = .ok (.iload_n 1, 1) := by decide +kernel
theorem dX4_remove_90 : decode cX4_remove 90 = .ok (.iconst (-1), 1) := by decide +kernel
theorem dX4_remove_91 : decode cX4_remove 91 = .ok (.iastore, 1) := by decide +kernel
theorem dX4_remove_92 : decode cX4_remove 92 = .ok (.aload_n 0, 1) := by decide +kernel
theorem dX4_remove_93 : decode cX4_remove 93 = .ok (.iload_n 2, 1) := by decide +kernel
theorem dX4_remove_94 : decode cX4_remove 94 = .ok (.iload_n 3, 1) := by decide +kernel
theorem dX4_remove_95 : decode cX4_remove 95 = .ok (.invokevirtual 72, 3) := by decide +kernel
theorem dX4_remove_98 : decode cX4_remove 98 = .ok (.return_, 1) := by decide +kernel
theorem dX4_exchange_0 : decode cX4_exchange 0 = .ok (.aload_n 0, 1) := by decide +kernel
theorem dX4_exchange_1 : decode cX4_exchange 1 = .ok (.getfield 21, 3) := by decide +kernel
theorem dX4_exchange_4 : decode cX4_exchange 4 = .ok (.iload_n 1, 1) := by decide +kernel
theorem dX4_exchange_5 : decode cX4_exchange 5 = .ok (.iaload, 1) := by decide +kernel
theorem dX4_exchange_6 : decode cX4_exchange 6 = .ok (.istore_n 3, 1) := by decide +kernel
theorem dX4_exchange_7 : decode cX4_exchange 7 = .ok (.aload_n 0, 1) := by decide +kernel
theorem dX4_exchange_8 : decode cX4_exchange 8 = .ok (.getfield 24, 3) := by decide +kernel
theorem dX4_exchange_11 : decode cX4_exchange 11 = .ok (.iload_n 1, 1) := by decide +kernel
theorem dX4_exchange_12 : decode cX4_exchange 12 = .ok (.iaload, 1) := by decide +kernel
theorem dX4_exchange_13 : decode cX4_exchange 13 = .ok (.istore 4, 2) := by decide +kernel
theorem dX4_exchange_15 : decode cX4_exchange 15 = .ok (.aload_n 0, 1) := by decide +kernel
theorem dX4_exchange_16 : decode cX4_exchange 16 = .ok (.iload_n 1, 1) := by decide +kernel
theorem dX4_exchange_17 : decode cX4_exchange 17 = .ok (.aload_n 0, 1) := by decide +kernel
theorem dX4_exchange_18 : decode cX4_exchange 18 = .ok (.getfield 21, 3) := by decide +kernel
theorem dX4_exchange_21 : decode cX4_exchange 21 = .ok (.iload_n 2, 1) := by decide +kernel
theorem dX4_exchange_22 : decode cX4_exchange 22 = .ok (.iaload, 1) := by decide +kernel
theorem dX4_exchange_23 : decode cX4_exchange 23 = .ok (.aload_n 0, 1) := by decide +kernel
theorem dX4_exchange_24 : decode cX4_exchange 24 = .ok (.getfield 24, 3) := by decide +kernel
theorem dX4_exchange_27 : decode cX4_exchange 27 = .ok (.iload_n 2, 1) := by decide +kernel
theorem dX4_exchange_28 : decode cX4_exchange 28 = .ok (.iaload, 1) := by decide +kernel
theorem dX4_exchange_29 : decode cX4_exchange 29 = .ok (.invokevirtual 76, 3) := by decide +kernel
theorem dX4_exchange_32 : decode cX4_exchange 32 = .ok (.aload_n 0, 1) := by decide +kernel
theorem dX4_exchange_33 : decode cX4_exchange 33 = .ok (.iload_n 2, 1) := by decide +kernel
theorem dX4_exchange_34 : decode cX4_exchange 34 = .ok (.iload_n 3, 1) := by decide +kernel
theorem dX4_exchange_35 : decode cX4_exchange 35 = .ok (.iload 4, 2) := by decide +kernel
theorem dX4_exchange_37 : decode cX4_exchange 37 = .ok (.invokevirtual 76, 3) := by decide +kernel
theorem dX4_exchange_40 : decode cX4_exchange 40 = .ok (.return_, 1) := by decide +kernel
theorem dX4_reverse_0 : decode cX4_reverse 0 = .ok (.bipush 40, 2) := by decide +kernel
theorem dX4_reverse_2 : decode cX4_reverse 2 = .ok (.iload_n 1, 1) := by decide +kernel
theorem dX4_reverse_3 : decode cX4_reverse 3 = .ok (.imul, 1) := by decide +kernel
theorem dX4_reverse_4 : decode cX4_reverse 4 = .ok (.istore 4, 2) := by decide +kernel
theorem dX4_reverse_6 : decode cX4_reverse 6 = .ok (.iload_n 2, 1) := by decide +kernel
theorem dX4_reverse_7 : decode cX4_reverse 7 = .ok (.istore 5, 2) := by decide +kernel
theorem dX4_reverse_9 : decode cX4_reverse 9 = .ok (.iload_n 3, 1) := by decide +kernel
theorem dX4_reverse_10 : decode cX4_reverse 10 = .ok (.istore 6, 2) := by decide +kernel
theorem dX4_reverse_12 : decode cX4_reverse 12 = .ok (.iload 5, 2) := by decide +kernel
theorem dX4_reverse_14 : decode cX4_reverse 14 = .ok (.iload 6, 2) := by decide +kernel
theorem dX4_reverse_16 : decode cX4_reverse 16 = .ok (.if_icmp .ge 50, 3) := by decide +kernel
theorem dX4_reverse_19 : decode cX4_reverse 19 = .ok (.aload_n 0, 1) := by decide +kernel
theorem dX4_reverse_20 : decode cX4_reverse 20 = .ok (.getfield 27, 3) := by decide +kernel
theorem dX4_reverse_23 : decode cX4_reverse 23 = .ok (.iload 4, 2) := by decide +kernel
theorem dX4_reverse_25 : decode cX4_reverse 25 = .ok (.iload 5, 2) := by decide +kernel
theorem dX4_reverse_27 : decode cX4_reverse 27 = .ok (.iadd, 1) := by decide +kernel
theorem dX4_reverse_28 : decode cX4_reverse 28 = .ok (.iaload, 1) := by decide +kernel
theorem dX4_reverse_29 : decode cX4_reverse 29 = .ok (.istore 7, 2) := by decide +kernel
theorem dX4_reverse_31 : decode cX4_reverse 31 = .ok (.aload_n 0, 1) := by decide +kernel
theorem dX4_reverse_32 : decode cX4_reverse 32 = .ok (.aload_n 0, 1) := by decide +kernel
theorem dX4_reverse_33 : decode cX4_reverse 33 = .ok (.getfield 27, 3) := by decide +kernel
theorem dX4_reverse_36 : decode cX4_reverse 36 = .ok (.iload 4, 2) := by decide +kernel
theorem dX4_reverse_38 : decode cX4_reverse 38 = .ok (.iload 6, 2) := by decide +kernel
theorem dX4_reverse_40 : decode cX4_reverse 40 = .ok (.iadd, 1) := by decide +kernel
theorem dX4_reverse_41 : decode cX4_reverse 41 = .ok (.iaload, 1) := by decide +kernel
theorem dX4_reverse_42 : decode cX4_reverse 42 = .ok (.iload_n 1, 1) := by decide +kernel
theorem dX4_reverse_43 : decode cX4_reverse 43 = .ok (.iload 5, 2) := by decide +kernel
theorem dX4_reverse_45 : decode cX4_reverse 45 = .ok (.invokevirtual 76, 3) := by decide +kernel
theorem dX4_reverse_48 : decode cX4_reverse 48 = .ok (.aload_n 0, 1) := by decide +kernel
theorem dX4_reverse_49 : decode cX4_reverse 49 = .ok (.iload 7, 2) := by decide +kernel
theorem dX4_reverse_51 : decode cX4_reverse 51 = .ok (.iload_n 1, 1) := by decide +kernel
theorem dX4_reverse_52 : decode cX4_reverse 52 = .ok (.iload 6, 2) := by decide +kernel
theorem dX4_reverse_54 : decode cX4_reverse 54 = .ok (.invokevirtual 76, 3) := by decide +kernel
theorem dX4_reverse_57 : decode cX4_reverse 57 = .ok (.iinc 5 1, 3) := by decide +kernel
theorem dX4_reverse_60 : decode cX4_reverse 60 = .ok (.iinc 6 (-1), 3) := by decide +kernel
theorem dX4_reverse_63 : decode cX4_reverse 63 = .ok (.goto (-51), 3) := by decide +kernel
theorem dX4_reverse_66 : decode cX4_reverse 66 = .ok (.return_, 1) := by decide +kernel
theorem dX4_crossTails_0 : decode cX4_crossTails 0 = .ok (.bipush 40, 2) := by decide +kernel
theorem dX4_crossTails_2 : decode cX4_crossTails 2 = .ok (.iload_n 1, 1) := by decide +kernel
theorem dX4_crossTails_3 : decode cX4_crossTails 3 = .ok (.imul, 1) := by decide +kernel
theorem dX4_crossTails_4 : decode cX4_crossTails 4 = .ok (.iload_n 2, 1) := by decide +kernel
theorem dX4_crossTails_5 : decode cX4_crossTails 5 = .ok (.iadd, 1) := by decide +kernel
theorem dX4_crossTails_6 : decode cX4_crossTails 6 = .ok (.istore 5, 2) := by decide +kernel
theorem dX4_crossTails_8 : decode cX4_crossTails 8 = .ok (.bipush 40, 2) := by decide +kernel
theorem dX4_crossTails_10 : decode cX4_crossTails 10 = .ok (.iload_n 3, 1) := by decide +kernel
theorem dX4_crossTails_11 : decode cX4_crossTails 11 = .ok (.imul, 1) := by decide +kernel
theorem dX4_crossTails_12 : decode cX4_crossTails 12 = .ok (.iload 4, 2) := by decide +kernel
theorem dX4_crossTails_14 : decode cX4_crossTails 14 = .ok (.iadd, 1) := by decide +kernel
theorem dX4_crossTails_15 : decode cX4_crossTails 15 = .ok (.istore 6, 2) := by decide +kernel
theorem dX4_crossTails_17 : decode cX4_crossTails 17 = .ok (.aload_n 0, 1) := by decide +kernel
theorem dX4_crossTails_18 : decode cX4_crossTails 18 = .ok (.getfield 30, 3) := by decide +kernel
theorem dX4_crossTails_21 : decode cX4_crossTails 21 = .ok (.iload_n 1, 1) := by decide +kernel
theorem dX4_crossTails_22 : decode cX4_crossTails 22 = .ok (.iaload, 1) := by decide +kernel
theorem dX4_crossTails_23 : decode cX4_crossTails 23 = .ok (.iload_n 2, 1) := by decide +kernel
theorem dX4_crossTails_24 : decode cX4_crossTails 24 = .ok (.isub, 1) := by decide +kernel
theorem dX4_crossTails_25 : decode cX4_crossTails 25 = .ok (.istore 7, 2) := by decide +kernel
theorem dX4_crossTails_27 : decode cX4_crossTails 27 = .ok (.aload_n 0, 1) := by decide +kernel
theorem dX4_crossTails_28 : decode cX4_crossTails 28 = .ok (.getfield 30, 3) := by decide +kernel
theorem dX4_crossTails_31 : decode cX4_crossTails 31 = .ok (.iload_n 3, 1) := by decide +kernel
theorem dX4_crossTails_32 : decode cX4_crossTails 32 = .ok (.iaload, 1) := by decide +kernel
theorem dX4_crossTails_33 : decode cX4_crossTails 33 = .ok (.iload 4, 2) := by decide +kernel
theorem dX4_crossTails_35 : decode cX4_crossTails 35 = .ok (.isub, 1) := by decide +kernel
theorem dX4_crossTails_36 : decode cX4_crossTails 36 = .ok (.istore 8, 2) := by decide +kernel
theorem dX4_crossTails_38 : decode cX4_crossTails 38 = .ok (.iconst 0, 1) := by decide +kernel
theorem dX4_crossTails_39 : decode cX4_crossTails 39 = .ok (.istore 9, 2) := by decide +kernel
theorem dX4_crossTails_41 : decode cX4_crossTails 41 = .ok (.iload 9, 2) := by decide +kernel
theorem dX4_crossTails_43 : decode cX4_crossTails 43 = .ok (.iload 7, 2) := by decide +kernel
theorem dX4_crossTails_45 : decode cX4_crossTails 45 = .ok (.if_icmp .lt 10, 3) := by decide +kernel
theorem dX4_crossTails_48 : decode cX4_crossTails 48 = .ok (.iload 9, 2) := by decide +kernel
theorem dX4_crossTails_50 : decode cX4_crossTails 50 = .ok (.iload 8, 2) := by decide +kernel
theorem dX4_crossTails_52 : decode cX4_crossTails 52 = .ok (.if_icmp .ge 78, 3) := by decide +kernel
theorem dX4_crossTails_55 : decode cX4_crossTails 55 = .ok (.iload 9, 2) := by decide +kernel
theorem dX4_crossTails_57 : decode cX4_crossTails 57 = .ok (.iload 7, 2) := by decide +kernel
theorem dX4_crossTails_59 : decode cX4_crossTails 59 = .ok (.if_icmp .ge 16, 3) := by decide +kernel
theorem dX4_crossTails_62 : decode cX4_crossTails 62 = .ok (.aload_n 0, 1) := by decide +kernel
theorem dX4_crossTails_63 : decode cX4_crossTails 63 = .ok (.getfield 27, 3) := by decide +kernel
theorem dX4_crossTails_66 : decode cX4_crossTails 66 = .ok (.iload 5, 2) := by decide +kernel
theorem dX4_crossTails_68 : decode cX4_crossTails 68 = .ok (.iload 9, 2) := by decide +kernel
theorem dX4_crossTails_70 : decode cX4_crossTails 70 = .ok (.iadd, 1) := by decide +kernel
theorem dX4_crossTails_71 : decode cX4_crossTails 71 = .ok (.iaload, 1) := by decide +kernel
theorem dX4_crossTails_72 : decode cX4_crossTails 72 = .ok (.goto 4, 3) := by decide +kernel
theorem dX4_crossTails_75 : decode cX4_crossTails 75 = .ok (.iconst (-1), 1) := by decide +kernel
theorem dX4_crossTails_76 : decode cX4_crossTails 76 = .ok (.istore 10, 2) := by decide +kernel
theorem dX4_crossTails_78 : decode cX4_crossTails 78 = .ok (.iload 9, 2) := by decide +kernel
theorem dX4_crossTails_80 : decode cX4_crossTails 80 = .ok (.iload 8, 2) := by decide +kernel
theorem dX4_crossTails_82 : decode cX4_crossTails 82 = .ok (.if_icmp .ge 23, 3) := by decide +kernel
theorem dX4_crossTails_85 : decode cX4_crossTails 85 = .ok (.aload_n 0, 1) := by decide +kernel
theorem dX4_crossTails_86 : decode cX4_crossTails 86 = .ok (.getfield 27, 3) := by decide +kernel
theorem dX4_crossTails_89 : decode cX4_crossTails 89 = .ok (.iload 5, 2) := by decide +kernel
theorem dX4_crossTails_91 : decode cX4_crossTails 91 = .ok (.iload 9, 2) := by decide +kernel
theorem dX4_crossTails_93 : decode cX4_crossTails 93 = .ok (.iadd, 1) := by decide +kernel
theorem dX4_crossTails_94 : decode cX4_crossTails 94 = .ok (.aload_n 0, 1) := by decide +kernel
theorem dX4_crossTails_95 : decode cX4_crossTails 95 = .ok (.getfield 27, 3) := by decide +kernel
theorem dX4_crossTails_98 : decode cX4_crossTails 98 = .ok (.iload 6, 2) := by decide +kernel
theorem dX4_crossTails_100 : decode cX4_crossTails 100 = .ok (.iload 9, 2) := by decide +kernel
theorem dX4_crossTails_102 : decode cX4_crossTails 102 = .ok (.iadd, 1) := by decide +kernel
theorem dX4_crossTails_103 : decode cX4_crossTails 103 = .ok (.iaload, 1) := by decide +kernel
theorem dX4_crossTails_104 : decode cX4_crossTails 104 = .ok (.iastore, 1) := by decide +kernel
theorem dX4_crossTails_105 : decode cX4_crossTails 105 = .ok (.iload 9, 2) := by decide +kernel
theorem dX4_crossTails_107 : decode cX4_crossTails 107 = .ok (.iload 7, 2) := by decide +kernel
theorem dX4_crossTails_109 : decode cX4_crossTails 109 = .ok (.if_icmp .ge 15, 3) := by decide +kernel
theorem dX4_crossTails_112 : decode cX4_crossTails 112 = .ok (.aload_n 0, 1) := by decide +kernel
theorem dX4_crossTails_113 : decode cX4_crossTails 113 = .ok (.getfield 27, 3) := by decide +kernel
theorem dX4_crossTails_116 : decode cX4_crossTails 116 = .ok (.iload 6, 2) := by decide +kernel
theorem dX4_crossTails_118 : decode cX4_crossTails 118 = .ok (.iload 9, 2) := by decide +kernel
theorem dX4_crossTails_120 : decode cX4_crossTails 120 = .ok (.iadd, 1) := by decide +kernel
theorem dX4_crossTails_121 : decode cX4_crossTails 121 = .ok (.iload 10, 2) := by decide +kernel
theorem dX4_crossTails_123 : decode cX4_crossTails 123 = .ok (.iastore, 1) := by decide +kernel
theorem dX4_crossTails_124 : decode cX4_crossTails 124 = .ok (.iinc 9 1, 3) := by decide +kernel
theorem dX4_crossTails_127 : decode cX4_crossTails 127 = .ok (.goto (-86), 3) := by decide +kernel
theorem dX4_crossTails_130 : decode cX4_crossTails 130 = .ok (.aload_n 0, 1) := by decide +kernel
theorem dX4_crossTails_131 : decode cX4_crossTails 131 = .ok (.getfield 30, 3) := by decide +kernel
theorem dX4_crossTails_134 : decode cX4_crossTails 134 = .ok (.iload_n 1, 1) := by decide +kernel
theorem dX4_crossTails_135 : decode cX4_crossTails 135 = .ok (.iload_n 2, 1) := by decide +kernel
theorem dX4_crossTails_136 : decode cX4_crossTails 136 = .ok (.iload 8, 2) := by decide +kernel
theorem dX4_crossTails_138 : decode cX4_crossTails 138 = .ok (.iadd, 1) := by decide +kernel
theorem dX4_crossTails_139 : decode cX4_crossTails 139 = .ok (.iastore, 1) := by decide +kernel
theorem dX4_crossTails_140 : decode cX4_crossTails 140 = .ok (.aload_n 0, 1) := by decide +kernel
theorem dX4_crossTails_141 : decode cX4_crossTails 141 = .ok (.getfield 30, 3) := by decide +kernel
theorem dX4_crossTails_144 : decode cX4_crossTails 144 = .ok (.iload_n 3, 1) := by decide +kernel
theorem dX4_crossTails_145 : decode cX4_crossTails 145 = .ok (.iload 4, 2) := by decide +kernel
theorem dX4_crossTails_147 : decode cX4_crossTails 147 = .ok (.iload 7, 2) := by decide +kernel
theorem dX4_crossTails_149 : decode cX4_crossTails 149 = .ok (.iadd, 1) := by decide +kernel
theorem dX4_crossTails_150 : decode cX4_crossTails 150 = .ok (.iastore, 1) := by decide +kernel
theorem dX4_crossTails_151 : decode cX4_crossTails 151 = .ok (.aload_n 0, 1) := by decide +kernel
theorem dX4_crossTails_152 : decode cX4_crossTails 152 = .ok (.iload_n 1, 1) := by decide +kernel
theorem dX4_crossTails_153 : decode cX4_crossTails 153 = .ok (.iload_n 2, 1) := by decide +kernel
theorem dX4_crossTails_154 : decode cX4_crossTails 154 = .ok (.invokevirtual 72, 3) := by decide +kernel
theorem dX4_crossTails_157 : decode cX4_crossTails 157 = .ok (.aload_n 0, 1) := by decide +kernel
theorem dX4_crossTails_158 : decode cX4_crossTails 158 = .ok (.iload_n 3, 1) := by decide +kernel
theorem dX4_crossTails_159 : decode cX4_crossTails 159 = .ok (.iload 4, 2) := by decide +kernel
theorem dX4_crossTails_161 : decode cX4_crossTails 161 = .ok (.invokevirtual 72, 3) := by decide +kernel
theorem dX4_crossTails_164 : decode cX4_crossTails 164 = .ok (.return_, 1) := by decide +kernel
theorem dX4_putAt_0 : decode cX4_putAt 0 = .ok (.aload_n 0, 1) := by decide +kernel
theorem dX4_putAt_1 : decode cX4_putAt 1 = .ok (.getfield 27, 3) := by decide +kernel
theorem dX4_putAt_4 : decode cX4_putAt 4 = .ok (.bipush 40, 2) := by decide +kernel
theorem dX4_putAt_6 : decode cX4_putAt 6 = .ok (.iload_n 2, 1) := by decide +kernel
theorem dX4_putAt_7 : decode cX4_putAt 7 = .ok (.imul, 1) := by decide +kernel
theorem dX4_putAt_8 : decode cX4_putAt 8 = .ok (.iload_n 3, 1) := by decide +kernel
theorem dX4_putAt_9 : decode cX4_putAt 9 = .ok (.iadd, 1) := by decide +kernel
theorem dX4_putAt_10 : decode cX4_putAt 10 = .ok (.iload_n 1, 1) := by decide +kernel
theorem dX4_putAt_11 : decode cX4_putAt 11 = .ok (.iastore, 1) := by decide +kernel
theorem dX4_putAt_12 : decode cX4_putAt 12 = .ok (.aload_n 0, 1) := by decide +kernel
theorem dX4_putAt_13 : decode cX4_putAt 13 = .ok (.getfield 21, 3) := by decide +kernel
theorem dX4_putAt_16 : decode cX4_putAt 16 = .ok (.iload_n 1, 1) := by decide +kernel
theorem dX4_putAt_17 : decode cX4_putAt 17 = .ok (.iload_n 2, 1) := by decide +kernel
theorem dX4_putAt_18 : decode cX4_putAt 18 = .ok (.iastore, 1) := by decide +kernel
theorem dX4_putAt_19 : decode cX4_putAt 19 = .ok (.aload_n 0, 1) := by decide +kernel
theorem dX4_putAt_20 : decode cX4_putAt 20 = .ok (.getfield 24, 3) := by decide +kernel
theorem dX4_putAt_23 : decode cX4_putAt 23 = .ok (.iload_n 1, 1) := by decide +kernel
theorem dX4_putAt_24 : decode cX4_putAt 24 = .ok (.iload_n 3, 1) := by decide +kernel
theorem dX4_putAt_25 : decode cX4_putAt 25 = .ok (.iastore, 1) := by decide +kernel
theorem dX4_putAt_26 : decode cX4_putAt 26 = .ok (.return_, 1) := by decide +kernel
theorem dX4_seat_0 : decode cX4_seat 0 = .ok (.iload_n 2, 1) := by decide +kernel
theorem dX4_seat_1 : decode cX4_seat 1 = .ok (.istore_n 3, 1) := by decide +kernel
theorem dX4_seat_2 : decode cX4_seat 2 = .ok (.iload_n 3, 1) := by decide +kernel
theorem dX4_seat_3 : decode cX4_seat 3 = .ok (.aload_n 0, 1) := by decide +kernel
theorem dX4_seat_4 : decode cX4_seat 4 = .ok (.getfield 30, 3) := by decide +kernel
theorem dX4_seat_7 : decode cX4_seat 7 = .ok (.iload_n 1, 1) := by decide +kernel
theorem dX4_seat_8 : decode cX4_seat 8 = .ok (.iaload, 1) := by decide +kernel
theorem dX4_seat_9 : decode cX4_seat 9 = .ok (.if_icmp .ge 38, 3) := by decide +kernel
theorem dX4_seat_12 : decode cX4_seat 12 = .ok (.aload_n 0, 1) := by decide +kernel
theorem dX4_seat_13 : decode cX4_seat 13 = .ok (.getfield 27, 3) := by decide +kernel
theorem dX4_seat_16 : decode cX4_seat 16 = .ok (.bipush 40, 2) := by decide +kernel
theorem dX4_seat_18 : decode cX4_seat 18 = .ok (.iload_n 1, 1) := by decide +kernel
theorem dX4_seat_19 : decode cX4_seat 19 = .ok (.imul, 1) := by decide +kernel
theorem dX4_seat_20 : decode cX4_seat 20 = .ok (.iload_n 3, 1) := by decide +kernel
theorem dX4_seat_21 : decode cX4_seat 21 = .ok (.iadd, 1) := by decide +kernel
theorem dX4_seat_22 : decode cX4_seat 22 = .ok (.iaload, 1) := by decide +kernel
theorem dX4_seat_23 : decode cX4_seat 23 = .ok (.istore 4, 2) := by decide +kernel
theorem dX4_seat_25 : decode cX4_seat 25 = .ok (.aload_n 0, 1) := by decide +kernel
theorem dX4_seat_26 : decode cX4_seat 26 = .ok (.getfield 21, 3) := by decide +kernel
theorem dX4_seat_29 : decode cX4_seat 29 = .ok (.iload 4, 2) := by decide +kernel
theorem dX4_seat_31 : decode cX4_seat 31 = .ok (.iload_n 1, 1) := by decide +kernel
theorem dX4_seat_32 : decode cX4_seat 32 = .ok (.iastore, 1) := by decide +kernel
theorem dX4_seat_33 : decode cX4_seat 33 = .ok (.aload_n 0, 1) := by decide +kernel
theorem dX4_seat_34 : decode cX4_seat 34 = .ok (.getfield 24, 3) := by decide +kernel
theorem dX4_seat_37 : decode cX4_seat 37 = .ok (.iload 4, 2) := by decide +kernel
theorem dX4_seat_39 : decode cX4_seat 39 = .ok (.iload_n 3, 1) := by decide +kernel
theorem dX4_seat_40 : decode cX4_seat 40 = .ok (.iastore, 1) := by decide +kernel
theorem dX4_seat_41 : decode cX4_seat 41 = .ok (.iinc 3 1, 3) := by decide +kernel
theorem dX4_seat_44 : decode cX4_seat 44 = .ok (.goto (-42), 3) := by decide +kernel
theorem dX4_seat_47 : decode cX4_seat 47 = .ok (.return_, 1) := by decide +kernel
theorem dX5_init_0 : decode cX5_init 0 = .ok (.aload_n 0, 1) := by decide +kernel
theorem dX5_init_1 : decode cX5_init 1 = .ok (.invokespecial 3, 3) := by decide +kernel
theorem dX5_init_4 : decode cX5_init 4 = .ok (.aload_n 0, 1) := by decide +kernel
theorem dX5_init_5 : decode cX5_init 5 = .ok (.sipush 1290, 3) := by decide +kernel
theorem dX5_init_8 : decode cX5_init 8 = .ok (.newarray .long, 2) := by decide +kernel
theorem dX5_init_10 : decode cX5_init 10 = .ok (.putfield 9, 3) := by decide +kernel
theorem dX5_init_13 : decode cX5_init 13 = .ok (.aload_n 0, 1) := by decide +kernel
theorem dX5_init_14 : decode cX5_init 14 = .ok (.iconst 5, 1) := by decide +kernel
theorem dX5_init_15 : decode cX5_init 15 = .ok (.newarray .long, 2) := by decide +kernel
theorem dX5_init_17 : decode cX5_init 17 = .ok (.putfield 15, 3) := by decide +kernel
theorem dX5_init_20 : decode cX5_init 20 = .ok (.aload_n 0, 1) := by decide +kernel
theorem dX5_init_21 : decode cX5_init 21 = .ok (.iconst 5, 1) := by decide +kernel
theorem dX5_init_22 : decode cX5_init 22 = .ok (.newarray .long, 2) := by decide +kernel
theorem dX5_init_24 : decode cX5_init 24 = .ok (.putfield 18, 3) := by decide +kernel
theorem dX5_init_27 : decode cX5_init 27 = .ok (.aload_n 0, 1) := by decide +kernel
theorem dX5_init_28 : decode cX5_init 28 = .ok (.iconst 5, 1) := by decide +kernel
theorem dX5_init_29 : decode cX5_init 29 = .ok (.newarray .long, 2) := by decide +kernel
theorem dX5_init_31 : decode cX5_init 31 = .ok (.putfield 21, 3) := by decide +kernel
theorem dX5_init_34 : decode cX5_init 34 = .ok (.aload_n 0, 1) := by decide +kernel
theorem dX5_init_35 : decode cX5_init 35 = .ok (.sipush 258, 3) := by decide +kernel
theorem dX5_init_38 : decode cX5_init 38 = .ok (.newarray .int, 2) := by decide +kernel
theorem dX5_init_40 : decode cX5_init 40 = .ok (.putfield 24, 3) := by decide +kernel
theorem dX5_init_43 : decode cX5_init 43 = .ok (.aload_n 0, 1) := by decide +kernel
theorem dX5_init_44 : decode cX5_init 44 = .ok (.sipush 258, 3) := by decide +kernel
theorem dX5_init_47 : decode cX5_init 47 = .ok (.newarray .int, 2) := by decide +kernel
theorem dX5_init_49 : decode cX5_init 49 = .ok (.putfield 28, 3) := by decide +kernel
theorem dX5_init_52 : decode cX5_init 52 = .ok (.aload_n 0, 1) := by decide +kernel
theorem dX5_init_53 : decode cX5_init 53 = .ok (.sipush 258, 3) := by decide +kernel
theorem dX5_init_56 : decode cX5_init 56 = .ok (.newarray .int, 2) := by decide +kernel
theorem dX5_init_58 : decode cX5_init 58 = .ok (.putfield 31, 3) := by decide +kernel
theorem dX5_init_61 : decode cX5_init 61 = .ok (.aload_n 0, 1) := by decide +kernel
theorem dX5_init_62 : decode cX5_init 62 = .ok (.sipush 258, 3) := by decide +kernel
theorem dX5_init_65 : decode cX5_init 65 = .ok (.newarray .int, 2) := by decide +kernel
theorem dX5_init_67 : decode cX5_init 67 = .ok (.putfield 34, 3) := by decide +kernel
theorem dX5_init_70 : decode cX5_init 70 = .ok (.aload_n 0, 1) := by decide +kernel
theorem dX5_init_71 : decode cX5_init 71 = .ok (.new 37, 3) := by decide +kernel
theorem dX5_init_74 : decode cX5_init 74 = .ok (.dup, 1) := by decide +kernel
theorem dX5_init_75 : decode cX5_init 75 = .ok (.invokespecial 39, 3) := by decide +kernel
theorem dX5_init_78 : decode cX5_init 78 = .ok (.putfield 40, 3) := by decide +kernel
theorem dX5_init_81 : decode cX5_init 81 = .ok (.aload_n 0, 1) := by decide +kernel
theorem dX5_init_82 : decode cX5_init 82 = .ok (.new 37, 3) := by decide +kernel
theorem dX5_init_85 : decode cX5_init 85 = .ok (.dup, 1) := by decide +kernel
theorem dX5_init_86 : decode cX5_init 86 = .ok (.invokespecial 39, 3) := by decide +kernel
theorem dX5_init_89 : decode cX5_init 89 = .ok (.putfield 44, 3) := by decide +kernel
theorem dX5_init_92 : decode cX5_init 92 = .ok (.aload_n 0, 1) := by decide +kernel
theorem dX5_init_93 : decode cX5_init 93 = .ok (.new 37, 3) := by decide +kernel
theorem dX5_init_96 : decode cX5_init 96 = .ok (.dup, 1) := by decide +kernel
theorem dX5_init_97 : decode cX5_init 97 = .ok (.invokespecial 39, 3) := by decide +kernel
theorem dX5_init_100 : decode cX5_init 100 = .ok (.putfield 47, 3) := by decide +kernel
theorem dX5_init_103 : decode cX5_init 103 = .ok (.aload_n 0, 1) := by decide +kernel
theorem dX5_init_104 : decode cX5_init 104 = .ok (.aload_n 1, 1) := by decide +kernel
theorem dX5_init_105 : decode cX5_init 105 = .ok (.putfield 50, 3) := by decide +kernel
theorem dX5_init_108 : decode cX5_init 108 = .ok (.aload_n 0, 1) := by decide +kernel
theorem dX5_init_109 : decode cX5_init 109 = .ok (.aload_n 2, 1) := by decide +kernel
theorem dX5_init_110 : decode cX5_init 110 = .ok (.putfield 54, 3) := by decide +kernel
theorem dX5_init_113 : decode cX5_init 113 = .ok (.return_, 1) := by decide +kernel
theorem dX5_arrange_0 : decode cX5_arrange 0 = .ok (.aload_n 0, 1) := by decide +kernel
theorem dX5_arrange_1 : decode cX5_arrange 1 = .ok (.aload_n 1, 1) := by decide +kernel
theorem dX5_arrange_2 : decode cX5_arrange 2 = .ok (.putfield 54, 3) := by decide +kernel
theorem dX5_arrange_5 : decode cX5_arrange 5 = .ok (.aload_n 0, 1) := by decide +kernel
theorem dX5_arrange_6 : decode cX5_arrange 6 = .ok (.getfield 40, 3) := by decide +kernel
theorem dX5_arrange_9 : decode cX5_arrange 9 = .ok (.invokevirtual 58, 3) := by decide +kernel
theorem dX5_arrange_12 : decode cX5_arrange 12 = .ok (.aload_n 0, 1) := by decide +kernel
theorem dX5_arrange_13 : decode cX5_arrange 13 = .ok (.getfield 9, 3) := by decide +kernel
theorem dX5_arrange_16 : decode cX5_arrange 16 = .ok (.lconst 0, 1) := by decide +kernel
theorem dX5_arrange_17 : decode cX5_arrange 17 = .ok (.invokestatic 61, 3) := by decide +kernel
theorem dX5_arrange_20 : decode cX5_arrange 20 = .ok (.aload_n 0, 1) := by decide +kernel
theorem dX5_arrange_21 : decode cX5_arrange 21 = .ok (.getfield 15, 3) := by decide +kernel
theorem dX5_arrange_24 : decode cX5_arrange 24 = .ok (.lconst 0, 1) := by decide +kernel
theorem dX5_arrange_25 : decode cX5_arrange 25 = .ok (.invokestatic 61, 3) := by decide +kernel
theorem dX5_arrange_28 : decode cX5_arrange 28 = .ok (.aload_n 0, 1) := by decide +kernel
theorem dX5_arrange_29 : decode cX5_arrange 29 = .ok (.getfield 24, 3) := by decide +kernel
theorem dX5_arrange_32 : decode cX5_arrange 32 = .ok (.iconst 0, 1) := by decide +kernel
theorem dX5_arrange_33 : decode cX5_arrange 33 = .ok (.invokestatic 67, 3) := by decide +kernel
theorem dX5_arrange_36 : decode cX5_arrange 36 = .ok (.aload_n 0, 1) := by decide +kernel
theorem dX5_arrange_37 : decode cX5_arrange 37 = .ok (.getfield 28, 3) := by decide +kernel
theorem dX5_arrange_40 : decode cX5_arrange 40 = .ok (.iconst (-1), 1) := by decide +kernel
theorem dX5_arrange_41 : decode cX5_arrange 41 = .ok (.invokestatic 67, 3) := by decide +kernel
theorem dX5_arrange_44 : decode cX5_arrange 44 = .ok (.aload_n 0, 1) := by decide +kernel
theorem dX5_arrange_45 : decode cX5_arrange 45 = .ok (.sipush 258, 3) := by decide +kernel
theorem dX5_arrange_48 : decode cX5_arrange 48 = .ok (.putfield 70, 3) := by decide +kernel
theorem dX5_arrange_51 : decode cX5_arrange 51 = .ok (.iconst 0, 1) := by decide +kernel
theorem dX5_arrange_52 : decode cX5_arrange 52 = .ok (.istore_n 2, 1) := by decide +kernel
theorem dX5_arrange_53 : decode cX5_arrange 53 = .ok (.iconst 0, 1) := by decide +kernel
theorem dX5_arrange_54 : decode cX5_arrange 54 = .ok (.istore_n 3, 1) := by decide +kernel
theorem dX5_arrange_55 : decode cX5_arrange 55 = .ok (.iload_n 3, 1) := by decide +kernel
theorem dX5_arrange_56 : decode cX5_arrange 56 = .ok (.sipush 258, 3) := by decide +kernel
theorem dX5_arrange_59 : decode cX5_arrange 59 = .ok (.if_icmp .ge 37, 3) := by decide +kernel
theorem dX5_arrange_62 : decode cX5_arrange 62 = .ok (.aload_n 0, 1) := by decide +kernel
theorem dX5_arrange_63 : decode cX5_arrange 63 = .ok (.getfield 50, 3) := by decide +kernel
theorem dX5_arrange_66 : decode cX5_arrange 66 = .ok (.aload_n 0, 1) := by decide +kernel
theorem dX5_arrange_67 : decode cX5_arrange 67 = .ok (.getfield 54, 3) := by decide +kernel
theorem dX5_arrange_70 : decode cX5_arrange 70 = .ok (.iload_n 3, 1) := by decide +kernel
theorem dX5_arrange_71 : decode cX5_arrange 71 = .ok (.invokevirtual 74, 3) := by decide +kernel
theorem dX5_arrange_74 : decode cX5_arrange 74 = .ok (.ifCond .eq 16, 3) := by decide +kernel
theorem dX5_arrange_77 : decode cX5_arrange 77 = .ok (.iinc 2 1, 3) := by decide +kernel
theorem dX5_arrange_80 : decode cX5_arrange 80 = .ok (.aload_n 0, 1) := by decide +kernel
theorem dX5_arrange_81 : decode cX5_arrange 81 = .ok (.iload_n 3, 1) := by decide +kernel
theorem dX5_arrange_82 : decode cX5_arrange 82 = .ok (.invokevirtual 80, 3) := by decide +kernel
theorem dX5_arrange_85 : decode cX5_arrange 85 = .ok (.aload_n 0, 1) := by decide +kernel
theorem dX5_arrange_86 : decode cX5_arrange 86 = .ok (.iload_n 3, 1) := by decide +kernel
theorem dX5_arrange_87 : decode cX5_arrange 87 = .ok (.invokevirtual 84, 3) := by decide +kernel
theorem dX5_arrange_90 : decode cX5_arrange 90 = .ok (.iinc 3 1, 3) := by decide +kernel
theorem dX5_arrange_93 : decode cX5_arrange 93 = .ok (.goto (-38), 3) := by decide +kernel
theorem dX5_arrange_96 : decode cX5_arrange 96 = .ok (.iconst 0, 1) := by decide +kernel
theorem dX5_arrange_97 : decode cX5_arrange 97 = .ok (.istore_n 3, 1) := by decide +kernel
theorem dX5_arrange_98 : decode cX5_arrange 98 = .ok (.iload_n 3, 1) := by decide +kernel
theorem dX5_arrange_99 : decode cX5_arrange 99 = .ok (.iload_n 2, 1) := by decide +kernel
theorem dX5_arrange_100 : decode cX5_arrange 100 = .ok (.if_icmp .ge 29, 3) := by decide +kernel
theorem dX5_arrange_103 : decode cX5_arrange 103 = .ok (.aload_n 0, 1) := by decide +kernel
theorem dX5_arrange_104 : decode cX5_arrange 104 = .ok (.invokevirtual 87, 3) := by decide +kernel
theorem dX5_arrange_107 : decode cX5_arrange 107 = .ok (.istore 4, 2) := by decide +kernel
theorem dX5_arrange_109 : decode cX5_arrange 109 = .ok (.iload 4, 2) := by decide +kernel
theorem dX5_arrange_111 : decode cX5_arrange 111 = .ok (.iconst (-1), 1) := by decide +kernel
theorem dX5_arrange_112 : decode cX5_arrange 112 = .ok (.if_icmp .ne 5, 3) := by decide +kernel
theorem dX5_arrange_115 : decode cX5_arrange 115 = .ok (.iconst 0, 1) := by decide +kernel
theorem dX5_arrange_116 : decode cX5_arrange 116 = .ok (.ireturn, 1) := by decide +kernel
theorem dX5_arrange_117 : decode cX5_arrange 117 = .ok (.aload_n 0, 1) := by decide +kernel
theorem dX5_arrange_118 : decode cX5_arrange 118 = .ok (.iload 4, 2) := by decide +kernel
theorem dX5_arrange_120 : decode cX5_arrange 120 = .ok (.invokevirtual 91, 3) := by decide +kernel
theorem dX5_arrange_123 : decode cX5_arrange 123 = .ok (.iinc 3 1, 3) := by decide +kernel
theorem dX5_arrange_126 : decode cX5_arrange 126 = .ok (.goto (-28), 3) := by decide +kernel
theorem dX5_arrange_129 : decode cX5_arrange 129 = .ok (.iconst 1, 1) := by decide +kernel
theorem dX5_arrange_130 : decode cX5_arrange 130 = .ok (.ireturn, 1) := by decide +kernel
theorem dX5_gather_0 : decode cX5_gather 0 = .ok (.aload_n 0, 1) := by decide +kernel
theorem dX5_gather_1 : decode cX5_gather 1 = .ok (.getfield 54, 3) := by decide +kernel
theorem dX5_gather_4 : decode cX5_gather 4 = .ok (.iload_n 1, 1) := by decide +kernel
theorem dX5_gather_5 : decode cX5_gather 5 = .ok (.invokevirtual 94, 3) := by decide +kernel
theorem dX5_gather_8 : decode cX5_gather 8 = .ok (.ifCond .eq 4, 3) := by decide +kernel
theorem dX5_gather_11 : decode cX5_gather 11 = .ok (.return_, 1) := by decide +kernel
theorem dX5_gather_12 : decode cX5_gather 12 = .ok (.aload_n 0, 1) := by decide +kernel
theorem dX5_gather_13 : decode cX5_gather 13 = .ok (.getfield 50, 3) := by decide +kernel
theorem dX5_gather_16 : decode cX5_gather 16 = .ok (.iload_n 1, 1) := by decide +kernel
theorem dX5_gather_17 : decode cX5_gather 17 = .ok (.invokevirtual 100, 3) := by decide +kernel
theorem dX5_gather_20 : decode cX5_gather 20 = .ok (.istore_n 2, 1) := by decide +kernel
theorem dX5_gather_21 : decode cX5_gather 21 = .ok (.iconst 0, 1) := by decide +kernel
theorem dX5_gather_22 : decode cX5_gather 22 = .ok (.istore_n 3, 1) := by decide +kernel
theorem dX5_gather_23 : decode cX5_gather 23 = .ok (.iload_n 3, 1) := by decide +kernel
theorem dX5_gather_24 : decode cX5_gather 24 = .ok (.iload_n 2, 1) := by decide +kernel
theorem dX5_gather_25 : decode cX5_gather 25 = .ok (.if_icmp .ge 122, 3) := by decide +kernel
theorem dX5_gather_28 : decode cX5_gather 28 = .ok (.aload_n 0, 1) := by decide +kernel
theorem dX5_gather_29 : decode cX5_gather 29 = .ok (.getfield 50, 3) := by decide +kernel
theorem dX5_gather_32 : decode cX5_gather 32 = .ok (.iload_n 1, 1) := by decide +kernel
theorem dX5_gather_33 : decode cX5_gather 33 = .ok (.iload_n 3, 1) := by decide +kernel
theorem dX5_gather_34 : decode cX5_gather 34 = .ok (.invokevirtual 104, 3) := by decide +kernel
theorem dX5_gather_37 : decode cX5_gather 37 = .ok (.istore 4, 2) := by decide +kernel
theorem dX5_gather_39 : decode cX5_gather 39 = .ok (.aload_n 0, 1) := by decide +kernel
theorem dX5_gather_40 : decode cX5_gather 40 = .ok (.getfield 50, 3) := by decide +kernel
theorem dX5_gather_43 : decode cX5_gather 43 = .ok (.iload_n 1, 1) := by decide +kernel
theorem dX5_gather_44 : decode cX5_gather 44 = .ok (.iload_n 3, 1) := by decide +kernel
theorem dX5_gather_45 : decode cX5_gather 45 = .ok (.invokevirtual 108, 3) := by decide +kernel
theorem dX5_gather_48 : decode cX5_gather 48 = .ok (.istore 5, 2) := by decide +kernel
theorem dX5_gather_50 : decode cX5_gather 50 = .ok (.iload 4, 2) := by decide +kernel
theorem dX5_gather_52 : decode cX5_gather 52 = .ok (.invokestatic 111, 3) := by decide +kernel
theorem dX5_gather_55 : decode cX5_gather 55 = .ok (.ifCond .eq 61, 3) := by decide +kernel
theorem dX5_gather_58 : decode cX5_gather 58 = .ok (.aload_n 0, 1) := by decide +kernel
theorem dX5_gather_59 : decode cX5_gather 59 = .ok (.getfield 54, 3) := by decide +kernel
theorem dX5_gather_62 : decode cX5_gather 62 = .ok (.iload_n 1, 1) := by decide +kernel
theorem dX5_gather_63 : decode cX5_gather 63 = .ok (.invokevirtual 114, 3) := by decide +kernel
theorem dX5_gather_66 : decode cX5_gather 66 = .ok (.istore 6, 2) := by decide +kernel
theorem dX5_gather_68 : decode cX5_gather 68 = .ok (.iconst 0, 1) := by decide +kernel
theorem dX5_gather_69 : decode cX5_gather 69 = .ok (.istore 7, 2) := by decide +kernel
theorem dX5_gather_71 : decode cX5_gather 71 = .ok (.iload 7, 2) := by decide +kernel
theorem dX5_gather_73 : decode cX5_gather 73 = .ok (.aload_n 0, 1) := by decide +kernel
theorem dX5_gather_74 : decode cX5_gather 74 = .ok (.getfield 54, 3) := by decide +kernel
theorem dX5_gather_77 : decode cX5_gather 77 = .ok (.getfield 117, 3) := by decide +kernel
theorem dX5_gather_80 : decode cX5_gather 80 = .ok (.iload 6, 2) := by decide +kernel
theorem dX5_gather_82 : decode cX5_gather 82 = .ok (.iaload, 1) := by decide +kernel
theorem dX5_gather_83 : decode cX5_gather 83 = .ok (.if_icmp .ge 30, 3) := by decide +kernel
theorem dX5_gather_86 : decode cX5_gather 86 = .ok (.aload_n 0, 1) := by decide +kernel
theorem dX5_gather_87 : decode cX5_gather 87 = .ok (.iload_n 1, 1) := by decide +kernel
theorem dX5_gather_88 : decode cX5_gather 88 = .ok (.aload_n 0, 1) := by decide +kernel
theorem dX5_gather_89 : decode cX5_gather 89 = .ok (.getfield 54, 3) := by decide +kernel
theorem dX5_gather_92 : decode cX5_gather 92 = .ok (.iload 6, 2) := by decide +kernel
theorem dX5_gather_94 : decode cX5_gather 94 = .ok (.iload 7, 2) := by decide +kernel
theorem dX5_gather_96 : decode cX5_gather 96 = .ok (.invokevirtual 120, 3) := by decide +kernel
theorem dX5_gather_99 : decode cX5_gather 99 = .ok (.iload 5, 2) := by decide +kernel
theorem dX5_gather_101 : decode cX5_gather 101 = .ok (.invokestatic 123, 3) := by decide +kernel
theorem dX5_gather_104 : decode cX5_gather 104 = .ok (.invokevirtual 126, 3) := by decide +kernel
theorem dX5_gather_107 : decode cX5_gather 107 = .ok (.iinc 7 1, 3) := by decide +kernel
theorem dX5_gather_110 : decode cX5_gather 110 = .ok (.goto (-39), 3) := by decide +kernel
theorem dX5_gather_113 : decode cX5_gather 113 = .ok (.goto 28, 3) := by decide +kernel
theorem dX5_gather_116 : decode cX5_gather 116 = .ok (.iload 4, 2) := by decide +kernel
theorem dX5_gather_118 : decode cX5_gather 118 = .ok (.invokestatic 130, 3) := by decide +kernel
theorem dX5_gather_121 : decode cX5_gather 121 = .ok (.ifCond .eq 20, 3) := by decide +kernel
theorem dX5_gather_124 : decode cX5_gather 124 = .ok (.aload_n 0, 1) := by decide +kernel
theorem dX5_gather_125 : decode cX5_gather 125 = .ok (.iload_n 1, 1) := by decide +kernel
theorem dX5_gather_126 : decode cX5_gather 126 = .ok (.aload_n 0, 1) := by decide +kernel
theorem dX5_gather_127 : decode cX5_gather 127 = .ok (.getfield 54, 3) := by decide +kernel
theorem dX5_gather_130 : decode cX5_gather 130 = .ok (.iload_n 1, 1) := by decide +kernel
theorem dX5_gather_131 : decode cX5_gather 131 = .ok (.iload 4, 2) := by decide +kernel
theorem dX5_gather_133 : decode cX5_gather 133 = .ok (.iload 5, 2) := by decide +kernel
theorem dX5_gather_135 : decode cX5_gather 135 = .ok (.invokevirtual 133, 3) := by decide +kernel
theorem dX5_gather_138 : decode cX5_gather 138 = .ok (.invokevirtual 126, 3) := by decide +kernel
theorem dX5_gather_141 : decode cX5_gather 141 = .ok (.iinc 3 1, 3) := by decide +kernel
theorem dX5_gather_144 : decode cX5_gather 144 = .ok (.goto (-121), 3) := by decide +kernel
theorem dX5_gather_147 : decode cX5_gather 147 = .ok (.return_, 1) := by decide +kernel
theorem dX5_addRead_0 : decode cX5_addRead 0 = .ok (.iload_n 2, 1) := by decide +kernel
theorem dX5_addRead_1 : decode cX5_addRead 1 = .ok (.iconst (-1), 1) := by decide +kernel
theorem dX5_addRead_2 : decode cX5_addRead 2 = .ok (.if_icmp .eq 38, 3) := by decide +kernel
theorem dX5_addRead_5 : decode cX5_addRead 5 = .ok (.aload_n 0, 1) := by decide +kernel
theorem dX5_addRead_6 : decode cX5_addRead 6 = .ok (.getfield 50, 3) := by decide +kernel
theorem dX5_addRead_9 : decode cX5_addRead 9 = .ok (.aload_n 0, 1) := by decide +kernel
theorem dX5_addRead_10 : decode cX5_addRead 10 = .ok (.getfield 54, 3) := by decide +kernel
theorem dX5_addRead_13 : decode cX5_addRead 13 = .ok (.iload_n 2, 1) := by decide +kernel
theorem dX5_addRead_14 : decode cX5_addRead 14 = .ok (.invokevirtual 74, 3) := by decide +kernel
theorem dX5_addRead_17 : decode cX5_addRead 17 = .ok (.ifCond .eq 23, 3) := by decide +kernel
theorem dX5_addRead_20 : decode cX5_addRead 20 = .ok (.aload_n 0, 1) := by decide +kernel
theorem dX5_addRead_21 : decode cX5_addRead 21 = .ok (.getfield 9, 3) := by decide +kernel
theorem dX5_addRead_24 : decode cX5_addRead 24 = .ok (.iconst 5, 1) := by decide +kernel
theorem dX5_addRead_25 : decode cX5_addRead 25 = .ok (.iload_n 1, 1) := by decide +kernel
theorem dX5_addRead_26 : decode cX5_addRead 26 = .ok (.imul, 1) := by decide +kernel
theorem dX5_addRead_27 : decode cX5_addRead 27 = .ok (.iload_n 2, 1) := by decide +kernel
theorem dX5_addRead_28 : decode cX5_addRead 28 = .ok (.bipush 64, 2) := by decide +kernel
theorem dX5_addRead_30 : decode cX5_addRead 30 = .ok (.idiv, 1) := by decide +kernel
theorem dX5_addRead_31 : decode cX5_addRead 31 = .ok (.iadd, 1) := by decide +kernel
theorem dX5_addRead_32 : decode cX5_addRead 32 = .ok (.dup2, 1) := by decide +kernel
theorem dX5_addRead_33 : decode cX5_addRead 33 = .ok (.laload, 1) := by decide +kernel
theorem dX5_addRead_34 : decode cX5_addRead 34 = .ok (.iload_n 2, 1) := by decide +kernel
theorem dX5_addRead_35 : decode cX5_addRead 35 = .ok (.invokestatic 137, 3) := by decide +kernel
theorem dX5_addRead_38 : decode cX5_addRead 38 = .ok (.lor, 1) := by decide +kernel
theorem dX5_addRead_39 : decode cX5_addRead 39 = .ok (.lastore, 1) := by decide +kernel
theorem dX5_addRead_40 : decode cX5_addRead 40 = .ok (.return_, 1) := by decide +kernel
theorem dX5_await_0 : decode cX5_await 0 = .ok (.aload_n 0, 1) := by decide +kernel
theorem dX5_await_1 : decode cX5_await 1 = .ok (.iload_n 1, 1) := by decide +kernel
theorem dX5_await_2 : decode cX5_await 2 = .ok (.invokevirtual 141, 3) := by decide +kernel
theorem dX5_await_5 : decode cX5_await 5 = .ok (.istore_n 2, 1) := by decide +kernel
theorem dX5_await_6 : decode cX5_await 6 = .ok (.iload_n 2, 1) := by decide +kernel
theorem dX5_await_7 : decode cX5_await 7 = .ok (.iconst (-1), 1) := by decide +kernel
theorem dX5_await_8 : decode cX5_await 8 = .ok (.if_icmp .ne 25, 3) := by decide +kernel
theorem dX5_await_11 : decode cX5_await 11 = .ok (.aload_n 0, 1) := by decide +kernel
theorem dX5_await_12 : decode cX5_await 12 = .ok (.getfield 24, 3) := by decide +kernel
theorem dX5_await_15 : decode cX5_await 15 = .ok (.iload_n 1, 1) := by decide +kernel
theorem dX5_await_16 : decode cX5_await 16 = .ok (.iconst 1, 1) := by decide +kernel
theorem dX5_await_17 : decode cX5_await 17 = .ok (.iastore, 1) := by decide +kernel
theorem dX5_await_18 : decode cX5_await 18 = .ok (.aload_n 0, 1) := by decide +kernel
theorem dX5_await_19 : decode cX5_await 19 = .ok (.aload_n 0, 1) := by decide +kernel
theorem dX5_await_20 : decode cX5_await 20 = .ok (.getfield 70, 3) := by decide +kernel
theorem dX5_await_23 : decode cX5_await 23 = .ok (.iload_n 1, 1) := by decide +kernel
theorem dX5_await_24 : decode cX5_await 24 = .ok (.invokestatic 144, 3) := by decide +kernel
theorem dX5_await_27 : decode cX5_await 27 = .ok (.putfield 70, 3) := by decide +kernel
theorem dX5_await_30 : decode cX5_await 30 = .ok (.goto 22, 3) := by decide +kernel
theorem dX5_await_33 : decode cX5_await 33 = .ok (.aload_n 0, 1) := by decide +kernel
theorem dX5_await_34 : decode cX5_await 34 = .ok (.getfield 31, 3) := by decide +kernel
theorem dX5_await_37 : decode cX5_await 37 = .ok (.iload_n 1, 1) := by decide +kernel
theorem dX5_await_38 : decode cX5_await 38 = .ok (.aload_n 0, 1) := by decide +kernel
theorem dX5_await_39 : decode cX5_await 39 = .ok (.getfield 28, 3) := by decide +kernel
theorem dX5_await_42 : decode cX5_await 42 = .ok (.iload_n 2, 1) := by decide +kernel
theorem dX5_await_43 : decode cX5_await 43 = .ok (.iaload, 1) := by decide +kernel
theorem dX5_await_44 : decode cX5_await 44 = .ok (.iastore, 1) := by decide +kernel
theorem dX5_await_45 : decode cX5_await 45 = .ok (.aload_n 0, 1) := by decide +kernel
theorem dX5_await_46 : decode cX5_await 46 = .ok (.getfield 28, 3) := by decide +kernel
theorem dX5_await_49 : decode cX5_await 49 = .ok (.iload_n 2, 1) := by decide +kernel
theorem dX5_await_50 : decode cX5_await 50 = .ok (.iload_n 1, 1) := by decide +kernel
theorem dX5_await_51 : decode cX5_await 51 = .ok (.iastore, 1) := by decide +kernel
theorem dX5_await_52 : decode cX5_await 52 = .ok (.return_, 1) := by decide +kernel
theorem dX5_firstMissing_0 : decode cX5_firstMissing 0 = .ok (.iconst 0, 1) := by decide +kernel
theorem dX5_firstMissing_1 : decode cX5_firstMissing 1 = .ok (.istore_n 2, 1) := by decide +kernel
theorem dX5_firstMissing_2 : decode cX5_firstMissing 2 = .ok (.iload_n 2, 1) := by decide +kernel
theorem dX5_firstMissing_3 : decode cX5_firstMissing 3 = .ok (.iconst 5, 1) := by decide +kernel
theorem dX5_firstMissing_4 : decode cX5_firstMissing 4 = .ok (.if_icmp .ge 52, 3) := by decide +kernel
theorem dX5_firstMissing_7 : decode cX5_firstMissing 7 = .ok (.aload_n 0, 1) := by decide +kernel
theorem dX5_firstMissing_8 : decode cX5_firstMissing 8 = .ok (.getfield 9, 3) := by decide +kernel
theorem dX5_firstMissing_11 : decode cX5_firstMissing 11 = .ok (.iconst 5, 1) := by decide +kernel
theorem dX5_firstMissing_12 : decode cX5_firstMissing 12 = .ok (.iload_n 1, 1) := by decide +kernel
theorem dX5_firstMissing_13 : decode cX5_firstMissing 13 = .ok (.imul, 1) := by decide +kernel
theorem dX5_firstMissing_14 : decode cX5_firstMissing 14 = .ok (.iload_n 2, 1) := by decide +kernel
theorem dX5_firstMissing_15 : decode cX5_firstMissing 15 = .ok (.iadd, 1) := by decide +kernel
theorem dX5_firstMissing_16 : decode cX5_firstMissing 16 = .ok (.laload, 1) := by decide +kernel
theorem dX5_firstMissing_17 : decode cX5_firstMissing 17 = .ok (.aload_n 0, 1) := by decide +kernel
theorem dX5_firstMissing_18 : decode cX5_firstMissing 18 = .ok (.getfield 15, 3) := by decide +kernel
theorem dX5_firstMissing_21 : decode cX5_firstMissing 21 = .ok (.iload_n 2, 1) := by decide +kernel
theorem dX5_firstMissing_22 : decode cX5_firstMissing 22 = .ok (.laload, 1) := by decide +kernel
theorem dX5_firstMissing_23 : decode cX5_firstMissing 23 = .ok (.ldc2_w 149, 3) := by decide +kernel
theorem dX5_firstMissing_26 : decode cX5_firstMissing 26 = .ok (.lxor, 1) := by decide +kernel
theorem dX5_firstMissing_27 : decode cX5_firstMissing 27 = .ok (.land, 1) := by decide +kernel
theorem dX5_firstMissing_28 : decode cX5_firstMissing 28 = .ok (.lstore_n 3, 1) := by decide +kernel
theorem dX5_firstMissing_29 : decode cX5_firstMissing 29 = .ok (.lload_n 3, 1) := by decide +kernel
theorem dX5_firstMissing_30 : decode cX5_firstMissing 30 = .ok (.lconst 0, 1) := by decide +kernel
theorem dX5_firstMissing_31 : decode cX5_firstMissing 31 = .ok (.lcmp, 1) := by decide +kernel
theorem dX5_firstMissing_32 : decode cX5_firstMissing 32 = .ok (.ifCond .eq 18, 3) := by decide +kernel
theorem dX5_firstMissing_35 : decode cX5_firstMissing 35 = .ok (.bipush 64, 2) := by decide +kernel
theorem dX5_firstMissing_37 : decode cX5_firstMissing 37 = .ok (.iload_n 2, 1) := by decide +kernel
theorem dX5_firstMissing_38 : decode cX5_firstMissing 38 = .ok (.imul, 1) := by decide +kernel
theorem dX5_firstMissing_39 : decode cX5_firstMissing 39 = .ok (.lload_n 3, 1) := by decide +kernel
theorem dX5_firstMissing_40 : decode cX5_firstMissing 40 = .ok (.lload_n 3, 1) := by decide +kernel
theorem dX5_firstMissing_41 : decode cX5_firstMissing 41 = .ok (.lneg, 1) := by decide +kernel
theorem dX5_firstMissing_42 : decode cX5_firstMissing 42 = .ok (.land, 1) := by decide +kernel
theorem dX5_firstMissing_43 : decode cX5_firstMissing 43 = .ok (.lconst 1, 1) := by decide +kernel
theorem dX5_firstMissing_44 : decode cX5_firstMissing 44 = .ok (.lsub, 1) := by decide +kernel
theorem dX5_firstMissing_45 : decode cX5_firstMissing 45 = .ok (.invokestatic 151, 3) := by decide +kernel
theorem dX5_firstMissing_48 : decode cX5_firstMissing 48 = .ok (.iadd, 1) := by decide +kernel
theorem dX5_firstMissing_49 : decode cX5_firstMissing 49 = .ok (.ireturn, 1) := by decide +kernel
theorem dX5_firstMissing_50 : decode cX5_firstMissing 50 = .ok (.iinc 2 1, 3) := by decide +kernel
theorem dX5_firstMissing_53 : decode cX5_firstMissing 53 = .ok (.goto (-51), 3) := by decide +kernel
theorem dX5_firstMissing_56 : decode cX5_firstMissing 56 = .ok (.iconst (-1), 1) := by decide +kernel
theorem dX5_firstMissing_57 : decode cX5_firstMissing 57 = .ok (.ireturn, 1) := by decide +kernel
theorem dX5_takeReady_0 : decode cX5_takeReady 0 = .ok (.aload_n 0, 1) := by decide +kernel
theorem dX5_takeReady_1 : decode cX5_takeReady 1 = .ok (.getfield 70, 3) := by decide +kernel
theorem dX5_takeReady_4 : decode cX5_takeReady 4 = .ok (.istore_n 1, 1) := by decide +kernel
theorem dX5_takeReady_5 : decode cX5_takeReady 5 = .ok (.iload_n 1, 1) := by decide +kernel
theorem dX5_takeReady_6 : decode cX5_takeReady 6 = .ok (.sipush 258, 3) := by decide +kernel
theorem dX5_takeReady_9 : decode cX5_takeReady 9 = .ok (.if_icmp .ge 34, 3) := by decide +kernel
theorem dX5_takeReady_12 : decode cX5_takeReady 12 = .ok (.aload_n 0, 1) := by decide +kernel
theorem dX5_takeReady_13 : decode cX5_takeReady 13 = .ok (.getfield 24, 3) := by decide +kernel
theorem dX5_takeReady_16 : decode cX5_takeReady 16 = .ok (.iload_n 1, 1) := by decide +kernel
theorem dX5_takeReady_17 : decode cX5_takeReady 17 = .ok (.iaload, 1) := by decide +kernel
theorem dX5_takeReady_18 : decode cX5_takeReady 18 = .ok (.ifCond .eq 19, 3) := by decide +kernel
theorem dX5_takeReady_21 : decode cX5_takeReady 21 = .ok (.aload_n 0, 1) := by decide +kernel
theorem dX5_takeReady_22 : decode cX5_takeReady 22 = .ok (.getfield 24, 3) := by decide +kernel
theorem dX5_takeReady_25 : decode cX5_takeReady 25 = .ok (.iload_n 1, 1) := by decide +kernel
theorem dX5_takeReady_26 : decode cX5_takeReady 26 = .ok (.iconst 0, 1) := by decide +kernel
theorem dX5_takeReady_27 : decode cX5_takeReady 27 = .ok (.iastore, 1) := by decide +kernel
theorem dX5_takeReady_28 : decode cX5_takeReady 28 = .ok (.aload_n 0, 1) := by decide +kernel
theorem dX5_takeReady_29 : decode cX5_takeReady 29 = .ok (.iload_n 1, 1) := by decide +kernel
theorem dX5_takeReady_30 : decode cX5_takeReady 30 = .ok (.iconst 1, 1) := by decide +kernel
theorem dX5_takeReady_31 : decode cX5_takeReady 31 = .ok (.iadd, 1) := by decide +kernel
theorem dX5_takeReady_32 : decode cX5_takeReady 32 = .ok (.putfield 70, 3) := by decide +kernel
theorem dX5_takeReady_35 : decode cX5_takeReady 35 = .ok (.iload_n 1, 1) := by decide +kernel
theorem dX5_takeReady_36 : decode cX5_takeReady 36 = .ok (.ireturn, 1) := by decide +kernel
theorem dX5_takeReady_37 : decode cX5_takeReady 37 = .ok (.iinc 1 1, 3) := by decide +kernel
theorem dX5_takeReady_40 : decode cX5_takeReady 40 = .ok (.goto (-35), 3) := by decide +kernel
theorem dX5_takeReady_43 : decode cX5_takeReady 43 = .ok (.iconst (-1), 1) := by decide +kernel
theorem dX5_takeReady_44 : decode cX5_takeReady 44 = .ok (.ireturn, 1) := by decide +kernel
theorem dX5_comes_0 : decode cX5_comes 0 = .ok (.aload_n 0, 1) := by decide +kernel
theorem dX5_comes_1 : decode cX5_comes 1 = .ok (.getfield 40, 3) := by decide +kernel
theorem dX5_comes_4 : decode cX5_comes 4 = .ok (.iload_n 1, 1) := by decide +kernel
theorem dX5_comes_5 : decode cX5_comes 5 = .ok (.invokevirtual 157, 3) := by decide +kernel
theorem dX5_comes_8 : decode cX5_comes 8 = .ok (.aload_n 0, 1) := by decide +kernel
theorem dX5_comes_9 : decode cX5_comes 9 = .ok (.getfield 15, 3) := by decide +kernel
theorem dX5_comes_12 : decode cX5_comes 12 = .ok (.iload_n 1, 1) := by decide +kernel
theorem dX5_comes_13 : decode cX5_comes 13 = .ok (.bipush 64, 2) := by decide +kernel
theorem dX5_comes_15 : decode cX5_comes 15 = .ok (.idiv, 1) := by decide +kernel
theorem dX5_comes_16 : decode cX5_comes 16 = .ok (.dup2, 1) := by decide +kernel
theorem dX5_comes_17 : decode cX5_comes 17 = .ok (.laload, 1) := by decide +kernel
theorem dX5_comes_18 : decode cX5_comes 18 = .ok (.iload_n 1, 1) := by decide +kernel
theorem dX5_comes_19 : decode cX5_comes 19 = .ok (.invokestatic 137, 3) := by decide +kernel
theorem dX5_comes_22 : decode cX5_comes 22 = .ok (.lor, 1) := by decide +kernel
theorem dX5_comes_23 : decode cX5_comes 23 = .ok (.lastore, 1) := by decide +kernel
theorem dX5_comes_24 : decode cX5_comes 24 = .ok (.aload_n 0, 1) := by decide +kernel
theorem dX5_comes_25 : decode cX5_comes 25 = .ok (.getfield 28, 3) := by decide +kernel
theorem dX5_comes_28 : decode cX5_comes 28 = .ok (.iload_n 1, 1) := by decide +kernel
theorem dX5_comes_29 : decode cX5_comes 29 = .ok (.iaload, 1) := by decide +kernel
theorem dX5_comes_30 : decode cX5_comes 30 = .ok (.istore_n 2, 1) := by decide +kernel
theorem dX5_comes_31 : decode cX5_comes 31 = .ok (.iconst 0, 1) := by decide +kernel
theorem dX5_comes_32 : decode cX5_comes 32 = .ok (.istore_n 3, 1) := by decide +kernel
theorem dX5_comes_33 : decode cX5_comes 33 = .ok (.iload_n 3, 1) := by decide +kernel
theorem dX5_comes_34 : decode cX5_comes 34 = .ok (.sipush 258, 3) := by decide +kernel
theorem dX5_comes_37 : decode cX5_comes 37 = .ok (.if_icmp .ge 30, 3) := by decide +kernel
theorem dX5_comes_40 : decode cX5_comes 40 = .ok (.iload_n 2, 1) := by decide +kernel
theorem dX5_comes_41 : decode cX5_comes 41 = .ok (.iconst (-1), 1) := by decide +kernel
theorem dX5_comes_42 : decode cX5_comes 42 = .ok (.if_icmp .eq 25, 3) := by decide +kernel
theorem dX5_comes_45 : decode cX5_comes 45 = .ok (.aload_n 0, 1) := by decide +kernel
theorem dX5_comes_46 : decode cX5_comes 46 = .ok (.getfield 31, 3) := by decide +kernel
theorem dX5_comes_49 : decode cX5_comes 49 = .ok (.iload_n 2, 1) := by decide +kernel
theorem dX5_comes_50 : decode cX5_comes 50 = .ok (.iaload, 1) := by decide +kernel
theorem dX5_comes_51 : decode cX5_comes 51 = .ok (.istore 4, 2) := by decide +kernel
theorem dX5_comes_53 : decode cX5_comes 53 = .ok (.aload_n 0, 1) := by decide +kernel
theorem dX5_comes_54 : decode cX5_comes 54 = .ok (.iload_n 2, 1) := by decide +kernel
theorem dX5_comes_55 : decode cX5_comes 55 = .ok (.invokevirtual 84, 3) := by decide +kernel
theorem dX5_comes_58 : decode cX5_comes 58 = .ok (.iload 4, 2) := by decide +kernel
theorem dX5_comes_60 : decode cX5_comes 60 = .ok (.istore_n 2, 1) := by decide +kernel
theorem dX5_comes_61 : decode cX5_comes 61 = .ok (.iinc 3 1, 3) := by decide +kernel
theorem dX5_comes_64 : decode cX5_comes 64 = .ok (.goto (-31), 3) := by decide +kernel
theorem dX5_comes_67 : decode cX5_comes 67 = .ok (.return_, 1) := by decide +kernel
theorem dX5_findRing_0 : decode cX5_findRing 0 = .ok (.aload_n 0, 1) := by decide +kernel
theorem dX5_findRing_1 : decode cX5_findRing 1 = .ok (.getfield 44, 3) := by decide +kernel
theorem dX5_findRing_4 : decode cX5_findRing 4 = .ok (.invokevirtual 58, 3) := by decide +kernel
theorem dX5_findRing_7 : decode cX5_findRing 7 = .ok (.aload_n 0, 1) := by decide +kernel
theorem dX5_findRing_8 : decode cX5_findRing 8 = .ok (.invokevirtual 160, 3) := by decide +kernel
theorem dX5_findRing_11 : decode cX5_findRing 11 = .ok (.istore_n 1, 1) := by decide +kernel
theorem dX5_findRing_12 : decode cX5_findRing 12 = .ok (.iload_n 1, 1) := by decide +kernel
theorem dX5_findRing_13 : decode cX5_findRing 13 = .ok (.iconst (-1), 1) := by decide +kernel
theorem dX5_findRing_14 : decode cX5_findRing 14 = .ok (.if_icmp .ne 4, 3) := by decide +kernel
theorem dX5_findRing_17 : decode cX5_findRing 17 = .ok (.return_, 1) := by decide +kernel
theorem dX5_findRing_18 : decode cX5_findRing 18 = .ok (.aload_n 0, 1) := by decide +kernel
theorem dX5_findRing_19 : decode cX5_findRing 19 = .ok (.iload_n 1, 1) := by decide +kernel
theorem dX5_findRing_20 : decode cX5_findRing 20 = .ok (.invokevirtual 163, 3) := by decide +kernel
theorem dX5_findRing_23 : decode cX5_findRing 23 = .ok (.iload_n 1, 1) := by decide +kernel
theorem dX5_findRing_24 : decode cX5_findRing 24 = .ok (.istore_n 2, 1) := by decide +kernel
theorem dX5_findRing_25 : decode cX5_findRing 25 = .ok (.iconst 0, 1) := by decide +kernel
theorem dX5_findRing_26 : decode cX5_findRing 26 = .ok (.istore_n 3, 1) := by decide +kernel
theorem dX5_findRing_27 : decode cX5_findRing 27 = .ok (.iload_n 3, 1) := by decide +kernel
theorem dX5_findRing_28 : decode cX5_findRing 28 = .ok (.sipush 258, 3) := by decide +kernel
theorem dX5_findRing_31 : decode cX5_findRing 31 = .ok (.if_icmp .ge 34, 3) := by decide +kernel
theorem dX5_findRing_34 : decode cX5_findRing 34 = .ok (.aload_n 0, 1) := by decide +kernel
theorem dX5_findRing_35 : decode cX5_findRing 35 = .ok (.getfield 44, 3) := by decide +kernel
theorem dX5_findRing_38 : decode cX5_findRing 38 = .ok (.iload_n 2, 1) := by decide +kernel
theorem dX5_findRing_39 : decode cX5_findRing 39 = .ok (.invokevirtual 157, 3) := by decide +kernel
theorem dX5_findRing_42 : decode cX5_findRing 42 = .ok (.aload_n 0, 1) := by decide +kernel
theorem dX5_findRing_43 : decode cX5_findRing 43 = .ok (.iload_n 2, 1) := by decide +kernel
theorem dX5_findRing_44 : decode cX5_findRing 44 = .ok (.invokevirtual 166, 3) := by decide +kernel
theorem dX5_findRing_47 : decode cX5_findRing 47 = .ok (.istore_n 2, 1) := by decide +kernel
theorem dX5_findRing_48 : decode cX5_findRing 48 = .ok (.iload_n 2, 1) := by decide +kernel
theorem dX5_findRing_49 : decode cX5_findRing 49 = .ok (.iload_n 1, 1) := by decide +kernel
theorem dX5_findRing_50 : decode cX5_findRing 50 = .ok (.if_icmp .eq 8, 3) := by decide +kernel
theorem dX5_findRing_53 : decode cX5_findRing 53 = .ok (.iload_n 2, 1) := by decide +kernel
theorem dX5_findRing_54 : decode cX5_findRing 54 = .ok (.iconst (-1), 1) := by decide +kernel
theorem dX5_findRing_55 : decode cX5_findRing 55 = .ok (.if_icmp .ne 4, 3) := by decide +kernel
theorem dX5_findRing_58 : decode cX5_findRing 58 = .ok (.return_, 1) := by decide +kernel
theorem dX5_findRing_59 : decode cX5_findRing 59 = .ok (.iinc 3 1, 3) := by decide +kernel
theorem dX5_findRing_62 : decode cX5_findRing 62 = .ok (.goto (-35), 3) := by decide +kernel
theorem dX5_findRing_65 : decode cX5_findRing 65 = .ok (.return_, 1) := by decide +kernel
theorem dX5_isLeft_0 : decode cX5_isLeft 0 = .ok (.aload_n 0, 1) := by decide +kernel
theorem dX5_isLeft_1 : decode cX5_isLeft 1 = .ok (.getfield 50, 3) := by decide +kernel
theorem dX5_isLeft_4 : decode cX5_isLeft 4 = .ok (.aload_n 0, 1) := by decide +kernel
theorem dX5_isLeft_5 : decode cX5_isLeft 5 = .ok (.getfield 54, 3) := by decide +kernel
theorem dX5_isLeft_8 : decode cX5_isLeft 8 = .ok (.iload_n 1, 1) := by decide +kernel
theorem dX5_isLeft_9 : decode cX5_isLeft 9 = .ok (.invokevirtual 74, 3) := by decide +kernel
theorem dX5_isLeft_12 : decode cX5_isLeft 12 = .ok (.ifCond .eq 18, 3) := by decide +kernel
theorem dX5_isLeft_15 : decode cX5_isLeft 15 = .ok (.aload_n 0, 1) := by decide +kernel
theorem dX5_isLeft_16 : decode cX5_isLeft 16 = .ok (.getfield 15, 3) := by decide +kernel
theorem dX5_isLeft_19 : decode cX5_isLeft 19 = .ok (.iload_n 1, 1) := by decide +kernel
theorem dX5_isLeft_20 : decode cX5_isLeft 20 = .ok (.invokestatic 169, 3) := by decide +kernel
theorem dX5_isLeft_23 : decode cX5_isLeft 23 = .ok (.ifCond .ne 7, 3) := by decide +kernel
theorem dX5_isLeft_26 : decode cX5_isLeft 26 = .ok (.iconst 1, 1) := by decide +kernel
theorem dX5_isLeft_27 : decode cX5_isLeft 27 = .ok (.goto 4, 3) := by decide +kernel
theorem dX5_isLeft_30 : decode cX5_isLeft 30 = .ok (.iconst 0, 1) := by decide +kernel
theorem dX5_isLeft_31 : decode cX5_isLeft 31 = .ok (.ireturn, 1) := by decide +kernel
theorem dX5_firstInRing_0 : decode cX5_firstInRing 0 = .ok (.iconst 0, 1) := by decide +kernel
theorem dX5_firstInRing_1 : decode cX5_firstInRing 1 = .ok (.istore_n 1, 1) := by decide +kernel
theorem dX5_firstInRing_2 : decode cX5_firstInRing 2 = .ok (.iload_n 1, 1) := by decide +kernel
theorem dX5_firstInRing_3 : decode cX5_firstInRing 3 = .ok (.sipush 258, 3) := by decide +kernel
theorem dX5_firstInRing_6 : decode cX5_firstInRing 6 = .ok (.if_icmp .ge 27, 3) := by decide +kernel
theorem dX5_firstInRing_9 : decode cX5_firstInRing 9 = .ok (.aload_n 0, 1) := by decide +kernel
theorem dX5_firstInRing_10 : decode cX5_firstInRing 10 = .ok (.iload_n 1, 1) := by decide +kernel
theorem dX5_firstInRing_11 : decode cX5_firstInRing 11 = .ok (.invokevirtual 173, 3) := by decide +kernel
theorem dX5_firstInRing_14 : decode cX5_firstInRing 14 = .ok (.ifCond .eq 13, 3) := by decide +kernel
theorem dX5_firstInRing_17 : decode cX5_firstInRing 17 = .ok (.aload_n 0, 1) := by decide +kernel
theorem dX5_firstInRing_18 : decode cX5_firstInRing 18 = .ok (.iload_n 1, 1) := by decide +kernel
theorem dX5_firstInRing_19 : decode cX5_firstInRing 19 = .ok (.invokevirtual 176, 3) := by decide +kernel
theorem dX5_firstInRing_22 : decode cX5_firstInRing 22 = .ok (.ifCond .eq 5, 3) := by decide +kernel
theorem dX5_firstInRing_25 : decode cX5_firstInRing 25 = .ok (.iload_n 1, 1) := by decide +kernel
theorem dX5_firstInRing_26 : decode cX5_firstInRing 26 = .ok (.ireturn, 1) := by decide +kernel
theorem dX5_firstInRing_27 : decode cX5_firstInRing 27 = .ok (.iinc 1 1, 3) := by decide +kernel
theorem dX5_firstInRing_30 : decode cX5_firstInRing 30 = .ok (.goto (-28), 3) := by decide +kernel
theorem dX5_firstInRing_33 : decode cX5_firstInRing 33 = .ok (.iconst (-1), 1) := by decide +kernel
theorem dX5_firstInRing_34 : decode cX5_firstInRing 34 = .ok (.ireturn, 1) := by decide +kernel
theorem dX5_leadsBack_0 : decode cX5_leadsBack 0 = .ok (.aload_n 0, 1) := by decide +kernel
theorem dX5_leadsBack_1 : decode cX5_leadsBack 1 = .ok (.getfield 18, 3) := by decide +kernel
theorem dX5_leadsBack_4 : decode cX5_leadsBack 4 = .ok (.lconst 0, 1) := by decide +kernel
theorem dX5_leadsBack_5 : decode cX5_leadsBack 5 = .ok (.invokestatic 61, 3) := by decide +kernel
theorem dX5_leadsBack_8 : decode cX5_leadsBack 8 = .ok (.aload_n 0, 1) := by decide +kernel
theorem dX5_leadsBack_9 : decode cX5_leadsBack 9 = .ok (.getfield 47, 3) := by decide +kernel
theorem dX5_leadsBack_12 : decode cX5_leadsBack 12 = .ok (.invokevirtual 58, 3) := by decide +kernel
theorem dX5_leadsBack_15 : decode cX5_leadsBack 15 = .ok (.aload_n 0, 1) := by decide +kernel
theorem dX5_leadsBack_16 : decode cX5_leadsBack 16 = .ok (.iload_n 1, 1) := by decide +kernel
theorem dX5_leadsBack_17 : decode cX5_leadsBack 17 = .ok (.invokevirtual 179, 3) := by decide +kernel
theorem dX5_leadsBack_20 : decode cX5_leadsBack 20 = .ok (.iconst 0, 1) := by decide +kernel
theorem dX5_leadsBack_21 : decode cX5_leadsBack 21 = .ok (.istore_n 2, 1) := by decide +kernel
theorem dX5_leadsBack_22 : decode cX5_leadsBack 22 = .ok (.iload_n 2, 1) := by decide +kernel
theorem dX5_leadsBack_23 : decode cX5_leadsBack 23 = .ok (.sipush 258, 3) := by decide +kernel
theorem dX5_leadsBack_26 : decode cX5_leadsBack 26 = .ok (.if_icmp .ge 43, 3) := by decide +kernel
theorem dX5_leadsBack_29 : decode cX5_leadsBack 29 = .ok (.iload_n 2, 1) := by decide +kernel
theorem dX5_leadsBack_30 : decode cX5_leadsBack 30 = .ok (.aload_n 0, 1) := by decide +kernel
theorem dX5_leadsBack_31 : decode cX5_leadsBack 31 = .ok (.getfield 47, 3) := by decide +kernel
theorem dX5_leadsBack_34 : decode cX5_leadsBack 34 = .ok (.getfield 182, 3) := by decide +kernel
theorem dX5_leadsBack_37 : decode cX5_leadsBack 37 = .ok (.if_icmp .ge 32, 3) := by decide +kernel
theorem dX5_leadsBack_40 : decode cX5_leadsBack 40 = .ok (.aload_n 0, 1) := by decide +kernel
theorem dX5_leadsBack_41 : decode cX5_leadsBack 41 = .ok (.getfield 18, 3) := by decide +kernel
theorem dX5_leadsBack_44 : decode cX5_leadsBack 44 = .ok (.iload_n 1, 1) := by decide +kernel
theorem dX5_leadsBack_45 : decode cX5_leadsBack 45 = .ok (.invokestatic 169, 3) := by decide +kernel
theorem dX5_leadsBack_48 : decode cX5_leadsBack 48 = .ok (.ifCond .ne 21, 3) := by decide +kernel
theorem dX5_leadsBack_51 : decode cX5_leadsBack 51 = .ok (.aload_n 0, 1) := by decide +kernel
theorem dX5_leadsBack_52 : decode cX5_leadsBack 52 = .ok (.aload_n 0, 1) := by decide +kernel
theorem dX5_leadsBack_53 : decode cX5_leadsBack 53 = .ok (.getfield 47, 3) := by decide +kernel
theorem dX5_leadsBack_56 : decode cX5_leadsBack 56 = .ok (.iload_n 2, 1) := by decide +kernel
theorem dX5_leadsBack_57 : decode cX5_leadsBack 57 = .ok (.invokevirtual 185, 3) := by decide +kernel
theorem dX5_leadsBack_60 : decode cX5_leadsBack 60 = .ok (.invokevirtual 179, 3) := by decide +kernel
theorem dX5_leadsBack_63 : decode cX5_leadsBack 63 = .ok (.iinc 2 1, 3) := by decide +kernel
theorem dX5_leadsBack_66 : decode cX5_leadsBack 66 = .ok (.goto (-44), 3) := by decide +kernel
theorem dX5_leadsBack_69 : decode cX5_leadsBack 69 = .ok (.aload_n 0, 1) := by decide +kernel
theorem dX5_leadsBack_70 : decode cX5_leadsBack 70 = .ok (.getfield 18, 3) := by decide +kernel
theorem dX5_leadsBack_73 : decode cX5_leadsBack 73 = .ok (.iload_n 1, 1) := by decide +kernel
theorem dX5_leadsBack_74 : decode cX5_leadsBack 74 = .ok (.invokestatic 169, 3) := by decide +kernel
theorem dX5_leadsBack_77 : decode cX5_leadsBack 77 = .ok (.ireturn, 1) := by decide +kernel
theorem dX5_spread_0 : decode cX5_spread 0 = .ok (.iconst 0, 1) := by decide +kernel
theorem dX5_spread_1 : decode cX5_spread 1 = .ok (.istore_n 2, 1) := by decide +kernel
theorem dX5_spread_2 : decode cX5_spread 2 = .ok (.iload_n 2, 1) := by decide +kernel
theorem dX5_spread_3 : decode cX5_spread 3 = .ok (.iconst 5, 1) := by decide +kernel
theorem dX5_spread_4 : decode cX5_spread 4 = .ok (.if_icmp .ge 101, 3) := by decide +kernel
theorem dX5_spread_7 : decode cX5_spread 7 = .ok (.aload_n 0, 1) := by decide +kernel
theorem dX5_spread_8 : decode cX5_spread 8 = .ok (.getfield 9, 3) := by decide +kernel
theorem dX5_spread_11 : decode cX5_spread 11 = .ok (.iconst 5, 1) := by decide +kernel
theorem dX5_spread_12 : decode cX5_spread 12 = .ok (.iload_n 1, 1) := by decide +kernel
theorem dX5_spread_13 : decode cX5_spread 13 = .ok (.imul, 1) := by decide +kernel
theorem dX5_spread_14 : decode cX5_spread 14 = .ok (.iload_n 2, 1) := by decide +kernel
theorem dX5_spread_15 : decode cX5_spread 15 = .ok (.iadd, 1) := by decide +kernel
theorem dX5_spread_16 : decode cX5_spread 16 = .ok (.laload, 1) := by decide +kernel
theorem dX5_spread_17 : decode cX5_spread 17 = .ok (.aload_n 0, 1) := by decide +kernel
theorem dX5_spread_18 : decode cX5_spread 18 = .ok (.getfield 15, 3) := by decide +kernel
theorem dX5_spread_21 : decode cX5_spread 21 = .ok (.iload_n 2, 1) := by decide +kernel
theorem dX5_spread_22 : decode cX5_spread 22 = .ok (.laload, 1) := by decide +kernel
theorem dX5_spread_23 : decode cX5_spread 23 = .ok (.ldc2_w 149, 3) := by decide +kernel
theorem dX5_spread_26 : decode cX5_spread 26 = .ok (.lxor, 1) := by decide +kernel
theorem dX5_spread_27 : decode cX5_spread 27 = .ok (.land, 1) := by decide +kernel
theorem dX5_spread_28 : decode cX5_spread 28 = .ok (.aload_n 0, 1) := by decide +kernel
theorem dX5_spread_29 : decode cX5_spread 29 = .ok (.getfield 18, 3) := by decide +kernel
theorem dX5_spread_32 : decode cX5_spread 32 = .ok (.iload_n 2, 1) := by decide +kernel
theorem dX5_spread_33 : decode cX5_spread 33 = .ok (.laload, 1) := by decide +kernel
theorem dX5_spread_34 : decode cX5_spread 34 = .ok (.ldc2_w 149, 3) := by decide +kernel
theorem dX5_spread_37 : decode cX5_spread 37 = .ok (.lxor, 1) := by decide +kernel
theorem dX5_spread_38 : decode cX5_spread 38 = .ok (.land, 1) := by decide +kernel
theorem dX5_spread_39 : decode cX5_spread 39 = .ok (.lstore_n 3, 1) := by decide +kernel
theorem dX5_spread_40 : decode cX5_spread 40 = .ok (.aload_n 0, 1) := by decide +kernel
theorem dX5_spread_41 : decode cX5_spread 41 = .ok (.getfield 18, 3) := by decide +kernel
theorem dX5_spread_44 : decode cX5_spread 44 = .ok (.iload_n 2, 1) := by decide +kernel
theorem dX5_spread_45 : decode cX5_spread 45 = .ok (.dup2, 1) := by decide +kernel
theorem dX5_spread_46 : decode cX5_spread 46 = .ok (.laload, 1) := by decide +kernel
theorem dX5_spread_47 : decode cX5_spread 47 = .ok (.lload_n 3, 1) := by decide +kernel
theorem dX5_spread_48 : decode cX5_spread 48 = .ok (.lor, 1) := by decide +kernel
theorem dX5_spread_49 : decode cX5_spread 49 = .ok (.lastore, 1) := by decide +kernel
theorem dX5_spread_50 : decode cX5_spread 50 = .ok (.iconst 0, 1) := by decide +kernel
theorem dX5_spread_51 : decode cX5_spread 51 = .ok (.istore 5, 2) := by decide +kernel
theorem dX5_spread_53 : decode cX5_spread 53 = .ok (.iload 5, 2) := by decide +kernel
theorem dX5_spread_55 : decode cX5_spread 55 = .ok (.bipush 64, 2) := by decide +kernel
theorem dX5_spread_57 : decode cX5_spread 57 = .ok (.if_icmp .ge 42, 3) := by decide +kernel
theorem dX5_spread_60 : decode cX5_spread 60 = .ok (.lload_n 3, 1) := by decide +kernel
theorem dX5_spread_61 : decode cX5_spread 61 = .ok (.lconst 0, 1) := by decide +kernel
theorem dX5_spread_62 : decode cX5_spread 62 = .ok (.lcmp, 1) := by decide +kernel
theorem dX5_spread_63 : decode cX5_spread 63 = .ok (.ifCond .eq 36, 3) := by decide +kernel
theorem dX5_spread_66 : decode cX5_spread 66 = .ok (.aload_n 0, 1) := by decide +kernel
theorem dX5_spread_67 : decode cX5_spread 67 = .ok (.getfield 47, 3) := by decide +kernel
theorem dX5_spread_70 : decode cX5_spread 70 = .ok (.bipush 64, 2) := by decide +kernel
theorem dX5_spread_72 : decode cX5_spread 72 = .ok (.iload_n 2, 1) := by decide +kernel
theorem dX5_spread_73 : decode cX5_spread 73 = .ok (.imul, 1) := by decide +kernel
theorem dX5_spread_74 : decode cX5_spread 74 = .ok (.lload_n 3, 1) := by decide +kernel
theorem dX5_spread_75 : decode cX5_spread 75 = .ok (.lload_n 3, 1) := by decide +kernel
theorem dX5_spread_76 : decode cX5_spread 76 = .ok (.lneg, 1) := by decide +kernel
theorem dX5_spread_77 : decode cX5_spread 77 = .ok (.land, 1) := by decide +kernel
theorem dX5_spread_78 : decode cX5_spread 78 = .ok (.lconst 1, 1) := by decide +kernel
theorem dX5_spread_79 : decode cX5_spread 79 = .ok (.lsub, 1) := by decide +kernel
theorem dX5_spread_80 : decode cX5_spread 80 = .ok (.invokestatic 151, 3) := by decide +kernel
theorem dX5_spread_83 : decode cX5_spread 83 = .ok (.iadd, 1) := by decide +kernel
theorem dX5_spread_84 : decode cX5_spread 84 = .ok (.invokevirtual 157, 3) := by decide +kernel
theorem dX5_spread_87 : decode cX5_spread 87 = .ok (.lload_n 3, 1) := by decide +kernel
theorem dX5_spread_88 : decode cX5_spread 88 = .ok (.lload_n 3, 1) := by decide +kernel
theorem dX5_spread_89 : decode cX5_spread 89 = .ok (.lconst 1, 1) := by decide +kernel
theorem dX5_spread_90 : decode cX5_spread 90 = .ok (.lsub, 1) := by decide +kernel
theorem dX5_spread_91 : decode cX5_spread 91 = .ok (.land, 1) := by decide +kernel
theorem dX5_spread_92 : decode cX5_spread 92 = .ok (.lstore_n 3, 1) := by decide +kernel
theorem dX5_spread_93 : decode cX5_spread 93 = .ok (.iinc 5 1, 3) := by decide +kernel
theorem dX5_spread_96 : decode cX5_spread 96 = .ok (.goto (-43), 3) := by decide +kernel
theorem dX5_spread_99 : decode cX5_spread 99 = .ok (.iinc 2 1, 3) := by decide +kernel
theorem dX5_spread_102 : decode cX5_spread 102 = .ok (.goto (-100), 3) := by decide +kernel
theorem dX5_spread_105 : decode cX5_spread 105 = .ok (.return_, 1) := by decide +kernel
theorem dX5_measure_0 : decode cX5_measure 0 = .ok (.aload_n 0, 1) := by decide +kernel
theorem dX5_measure_1 : decode cX5_measure 1 = .ok (.getfield 34, 3) := by decide +kernel
theorem dX5_measure_4 : decode cX5_measure 4 = .ok (.iconst (-1), 1) := by decide +kernel
theorem dX5_measure_5 : decode cX5_measure 5 = .ok (.invokestatic 67, 3) := by decide +kernel
theorem dX5_measure_8 : decode cX5_measure 8 = .ok (.aload_n 0, 1) := by decide +kernel
theorem dX5_measure_9 : decode cX5_measure 9 = .ok (.getfield 34, 3) := by decide +kernel
theorem dX5_measure_12 : decode cX5_measure 12 = .ok (.iload_n 1, 1) := by decide +kernel
theorem dX5_measure_13 : decode cX5_measure 13 = .ok (.iconst 0, 1) := by decide +kernel
theorem dX5_measure_14 : decode cX5_measure 14 = .ok (.iastore, 1) := by decide +kernel
theorem dX5_measure_15 : decode cX5_measure 15 = .ok (.aload_n 0, 1) := by decide +kernel
theorem dX5_measure_16 : decode cX5_measure 16 = .ok (.getfield 21, 3) := by decide +kernel
theorem dX5_measure_19 : decode cX5_measure 19 = .ok (.lconst 0, 1) := by decide +kernel
theorem dX5_measure_20 : decode cX5_measure 20 = .ok (.invokestatic 61, 3) := by decide +kernel
theorem dX5_measure_23 : decode cX5_measure 23 = .ok (.aload_n 0, 1) := by decide +kernel
theorem dX5_measure_24 : decode cX5_measure 24 = .ok (.getfield 21, 3) := by decide +kernel
theorem dX5_measure_27 : decode cX5_measure 27 = .ok (.iload_n 1, 1) := by decide +kernel
theorem dX5_measure_28 : decode cX5_measure 28 = .ok (.bipush 64, 2) := by decide +kernel
theorem dX5_measure_30 : decode cX5_measure 30 = .ok (.idiv, 1) := by decide +kernel
theorem dX5_measure_31 : decode cX5_measure 31 = .ok (.dup2, 1) := by decide +kernel
theorem dX5_measure_32 : decode cX5_measure 32 = .ok (.laload, 1) := by decide +kernel
theorem dX5_measure_33 : decode cX5_measure 33 = .ok (.iload_n 1, 1) := by decide +kernel
theorem dX5_measure_34 : decode cX5_measure 34 = .ok (.invokestatic 137, 3) := by decide +kernel
theorem dX5_measure_37 : decode cX5_measure 37 = .ok (.lor, 1) := by decide +kernel
theorem dX5_measure_38 : decode cX5_measure 38 = .ok (.lastore, 1) := by decide +kernel
theorem dX5_measure_39 : decode cX5_measure 39 = .ok (.iconst 1, 1) := by decide +kernel
theorem dX5_measure_40 : decode cX5_measure 40 = .ok (.istore_n 2, 1) := by decide +kernel
theorem dX5_measure_41 : decode cX5_measure 41 = .ok (.iconst 1, 1) := by decide +kernel
theorem dX5_measure_42 : decode cX5_measure 42 = .ok (.istore_n 3, 1) := by decide +kernel
theorem dX5_measure_43 : decode cX5_measure 43 = .ok (.iload_n 3, 1) := by decide +kernel
theorem dX5_measure_44 : decode cX5_measure 44 = .ok (.sipush 258, 3) := by decide +kernel
theorem dX5_measure_47 : decode cX5_measure 47 = .ok (.if_icmp .ge 111, 3) := by decide +kernel
theorem dX5_measure_50 : decode cX5_measure 50 = .ok (.iload_n 2, 1) := by decide +kernel
theorem dX5_measure_51 : decode cX5_measure 51 = .ok (.ifCond .eq 107, 3) := by decide +kernel
theorem dX5_measure_54 : decode cX5_measure 54 = .ok (.iconst 0, 1) := by decide +kernel
theorem dX5_measure_55 : decode cX5_measure 55 = .ok (.istore_n 2, 1) := by decide +kernel
theorem dX5_measure_56 : decode cX5_measure 56 = .ok (.aload_n 0, 1) := by decide +kernel
theorem dX5_measure_57 : decode cX5_measure 57 = .ok (.getfield 18, 3) := by decide +kernel
theorem dX5_measure_60 : decode cX5_measure 60 = .ok (.lconst 0, 1) := by decide +kernel
theorem dX5_measure_61 : decode cX5_measure 61 = .ok (.invokestatic 61, 3) := by decide +kernel
theorem dX5_measure_64 : decode cX5_measure 64 = .ok (.iconst 0, 1) := by decide +kernel
theorem dX5_measure_65 : decode cX5_measure 65 = .ok (.istore 4, 2) := by decide +kernel
theorem dX5_measure_67 : decode cX5_measure 67 = .ok (.iload 4, 2) := by decide +kernel
theorem dX5_measure_69 : decode cX5_measure 69 = .ok (.sipush 258, 3) := by decide +kernel
theorem dX5_measure_72 : decode cX5_measure 72 = .ok (.if_icmp .ge 66, 3) := by decide +kernel
theorem dX5_measure_75 : decode cX5_measure 75 = .ok (.aload_n 0, 1) := by decide +kernel
theorem dX5_measure_76 : decode cX5_measure 76 = .ok (.getfield 34, 3) := by decide +kernel
theorem dX5_measure_79 : decode cX5_measure 79 = .ok (.iload 4, 2) := by decide +kernel
theorem dX5_measure_81 : decode cX5_measure 81 = .ok (.iaload, 1) := by decide +kernel
theorem dX5_measure_82 : decode cX5_measure 82 = .ok (.iconst (-1), 1) := by decide +kernel
theorem dX5_measure_83 : decode cX5_measure 83 = .ok (.if_icmp .ne 49, 3) := by decide +kernel
theorem dX5_measure_86 : decode cX5_measure 86 = .ok (.aload_n 0, 1) := by decide +kernel
theorem dX5_measure_87 : decode cX5_measure 87 = .ok (.iload 4, 2) := by decide +kernel
theorem dX5_measure_89 : decode cX5_measure 89 = .ok (.invokevirtual 173, 3) := by decide +kernel
theorem dX5_measure_92 : decode cX5_measure 92 = .ok (.ifCond .eq 40, 3) := by decide +kernel
theorem dX5_measure_95 : decode cX5_measure 95 = .ok (.aload_n 0, 1) := by decide +kernel
theorem dX5_measure_96 : decode cX5_measure 96 = .ok (.iload 4, 2) := by decide +kernel
theorem dX5_measure_98 : decode cX5_measure 98 = .ok (.invokevirtual 188, 3) := by decide +kernel
theorem dX5_measure_101 : decode cX5_measure 101 = .ok (.ifCond .eq 31, 3) := by decide +kernel
theorem dX5_measure_104 : decode cX5_measure 104 = .ok (.aload_n 0, 1) := by decide +kernel
theorem dX5_measure_105 : decode cX5_measure 105 = .ok (.getfield 34, 3) := by decide +kernel
theorem dX5_measure_108 : decode cX5_measure 108 = .ok (.iload 4, 2) := by decide +kernel
theorem dX5_measure_110 : decode cX5_measure 110 = .ok (.iload_n 3, 1) := by decide +kernel
theorem dX5_measure_111 : decode cX5_measure 111 = .ok (.iastore, 1) := by decide +kernel
theorem dX5_measure_112 : decode cX5_measure 112 = .ok (.aload_n 0, 1) := by decide +kernel
theorem dX5_measure_113 : decode cX5_measure 113 = .ok (.getfield 18, 3) := by decide +kernel
theorem dX5_measure_116 : decode cX5_measure 116 = .ok (.iload 4, 2) := by decide +kernel
theorem dX5_measure_118 : decode cX5_measure 118 = .ok (.bipush 64, 2) := by decide +kernel
theorem dX5_measure_120 : decode cX5_measure 120 = .ok (.idiv, 1) := by decide +kernel
theorem dX5_measure_121 : decode cX5_measure 121 = .ok (.dup2, 1) := by decide +kernel
theorem dX5_measure_122 : decode cX5_measure 122 = .ok (.laload, 1) := by decide +kernel
theorem dX5_measure_123 : decode cX5_measure 123 = .ok (.iload 4, 2) := by decide +kernel
theorem dX5_measure_125 : decode cX5_measure 125 = .ok (.invokestatic 137, 3) := by decide +kernel
theorem dX5_measure_128 : decode cX5_measure 128 = .ok (.lor, 1) := by decide +kernel
theorem dX5_measure_129 : decode cX5_measure 129 = .ok (.lastore, 1) := by decide +kernel
theorem dX5_measure_130 : decode cX5_measure 130 = .ok (.iconst 1, 1) := by decide +kernel
theorem dX5_measure_131 : decode cX5_measure 131 = .ok (.istore_n 2, 1) := by decide +kernel
theorem dX5_measure_132 : decode cX5_measure 132 = .ok (.iinc 4 1, 3) := by decide +kernel
theorem dX5_measure_135 : decode cX5_measure 135 = .ok (.goto (-68), 3) := by decide +kernel
theorem dX5_measure_138 : decode cX5_measure 138 = .ok (.aload_n 0, 1) := by decide +kernel
theorem dX5_measure_139 : decode cX5_measure 139 = .ok (.getfield 18, 3) := by decide +kernel
theorem dX5_measure_142 : decode cX5_measure 142 = .ok (.iconst 0, 1) := by decide +kernel
theorem dX5_measure_143 : decode cX5_measure 143 = .ok (.aload_n 0, 1) := by decide +kernel
theorem dX5_measure_144 : decode cX5_measure 144 = .ok (.getfield 21, 3) := by decide +kernel
theorem dX5_measure_147 : decode cX5_measure 147 = .ok (.iconst 0, 1) := by decide +kernel
theorem dX5_measure_148 : decode cX5_measure 148 = .ok (.iconst 5, 1) := by decide +kernel
theorem dX5_measure_149 : decode cX5_measure 149 = .ok (.invokestatic 191, 3) := by decide +kernel
theorem dX5_measure_152 : decode cX5_measure 152 = .ok (.iinc 3 1, 3) := by decide +kernel
theorem dX5_measure_155 : decode cX5_measure 155 = .ok (.goto (-112), 3) := by decide +kernel
theorem dX5_measure_158 : decode cX5_measure 158 = .ok (.return_, 1) := by decide +kernel
theorem dX5_readsEdge_0 : decode cX5_readsEdge 0 = .ok (.iconst 0, 1) := by decide +kernel
theorem dX5_readsEdge_1 : decode cX5_readsEdge 1 = .ok (.istore_n 2, 1) := by decide +kernel
theorem dX5_readsEdge_2 : decode cX5_readsEdge 2 = .ok (.iload_n 2, 1) := by decide +kernel
theorem dX5_readsEdge_3 : decode cX5_readsEdge 3 = .ok (.iconst 5, 1) := by decide +kernel
theorem dX5_readsEdge_4 : decode cX5_readsEdge 4 = .ok (.if_icmp .ge 33, 3) := by decide +kernel
theorem dX5_readsEdge_7 : decode cX5_readsEdge 7 = .ok (.aload_n 0, 1) := by decide +kernel
theorem dX5_readsEdge_8 : decode cX5_readsEdge 8 = .ok (.getfield 9, 3) := by decide +kernel
theorem dX5_readsEdge_11 : decode cX5_readsEdge 11 = .ok (.iconst 5, 1) := by decide +kernel
theorem dX5_readsEdge_12 : decode cX5_readsEdge 12 = .ok (.iload_n 1, 1) := by decide +kernel
theorem dX5_readsEdge_13 : decode cX5_readsEdge 13 = .ok (.imul, 1) := by decide +kernel
theorem dX5_readsEdge_14 : decode cX5_readsEdge 14 = .ok (.iload_n 2, 1) := by decide +kernel
theorem dX5_readsEdge_15 : decode cX5_readsEdge 15 = .ok (.iadd, 1) := by decide +kernel
theorem dX5_readsEdge_16 : decode cX5_readsEdge 16 = .ok (.laload, 1) := by decide +kernel
theorem dX5_readsEdge_17 : decode cX5_readsEdge 17 = .ok (.aload_n 0, 1) := by decide +kernel
theorem dX5_readsEdge_18 : decode cX5_readsEdge 18 = .ok (.getfield 21, 3) := by decide +kernel
theorem dX5_readsEdge_21 : decode cX5_readsEdge 21 = .ok (.iload_n 2, 1) := by decide +kernel
theorem dX5_readsEdge_22 : decode cX5_readsEdge 22 = .ok (.laload, 1) := by decide +kernel
theorem dX5_readsEdge_23 : decode cX5_readsEdge 23 = .ok (.land, 1) := by decide +kernel
theorem dX5_readsEdge_24 : decode cX5_readsEdge 24 = .ok (.lconst 0, 1) := by decide +kernel
theorem dX5_readsEdge_25 : decode cX5_readsEdge 25 = .ok (.lcmp, 1) := by decide +kernel
theorem dX5_readsEdge_26 : decode cX5_readsEdge 26 = .ok (.ifCond .eq 5, 3) := by decide +kernel
theorem dX5_readsEdge_29 : decode cX5_readsEdge 29 = .ok (.iconst 1, 1) := by decide +kernel
theorem dX5_readsEdge_30 : decode cX5_readsEdge 30 = .ok (.ireturn, 1) := by decide +kernel
theorem dX5_readsEdge_31 : decode cX5_readsEdge 31 = .ok (.iinc 2 1, 3) := by decide +kernel
theorem dX5_readsEdge_34 : decode cX5_readsEdge 34 = .ok (.goto (-32), 3) := by decide +kernel
theorem dX5_readsEdge_37 : decode cX5_readsEdge 37 = .ok (.iconst 0, 1) := by decide +kernel
theorem dX5_readsEdge_38 : decode cX5_readsEdge 38 = .ok (.ireturn, 1) := by decide +kernel
theorem dX5_nearestRead_0 : decode cX5_nearestRead 0 = .ok (.iconst (-1), 1) := by decide +kernel
theorem dX5_nearestRead_1 : decode cX5_nearestRead 1 = .ok (.istore_n 2, 1) := by decide +kernel
theorem dX5_nearestRead_2 : decode cX5_nearestRead 2 = .ok (.aload_n 0, 1) := by decide +kernel
theorem dX5_nearestRead_3 : decode cX5_nearestRead 3 = .ok (.getfield 50, 3) := by decide +kernel
theorem dX5_nearestRead_6 : decode cX5_nearestRead 6 = .ok (.iload_n 1, 1) := by decide +kernel
theorem dX5_nearestRead_7 : decode cX5_nearestRead 7 = .ok (.invokevirtual 100, 3) := by decide +kernel
theorem dX5_nearestRead_10 : decode cX5_nearestRead 10 = .ok (.istore_n 3, 1) := by decide +kernel
theorem dX5_nearestRead_11 : decode cX5_nearestRead 11 = .ok (.iconst 0, 1) := by decide +kernel
theorem dX5_nearestRead_12 : decode cX5_nearestRead 12 = .ok (.istore 4, 2) := by decide +kernel
theorem dX5_nearestRead_14 : decode cX5_nearestRead 14 = .ok (.iload 4, 2) := by decide +kernel
theorem dX5_nearestRead_16 : decode cX5_nearestRead 16 = .ok (.iload_n 3, 1) := by decide +kernel
theorem dX5_nearestRead_17 : decode cX5_nearestRead 17 = .ok (.if_icmp .ge 126, 3) := by decide +kernel
theorem dX5_nearestRead_20 : decode cX5_nearestRead 20 = .ok (.aload_n 0, 1) := by decide +kernel
theorem dX5_nearestRead_21 : decode cX5_nearestRead 21 = .ok (.getfield 50, 3) := by decide +kernel
theorem dX5_nearestRead_24 : decode cX5_nearestRead 24 = .ok (.iload_n 1, 1) := by decide +kernel
theorem dX5_nearestRead_25 : decode cX5_nearestRead 25 = .ok (.iload 4, 2) := by decide +kernel
theorem dX5_nearestRead_27 : decode cX5_nearestRead 27 = .ok (.invokevirtual 104, 3) := by decide +kernel
theorem dX5_nearestRead_30 : decode cX5_nearestRead 30 = .ok (.istore 5, 2) := by decide +kernel
theorem dX5_nearestRead_32 : decode cX5_nearestRead 32 = .ok (.aload_n 0, 1) := by decide +kernel
theorem dX5_nearestRead_33 : decode cX5_nearestRead 33 = .ok (.getfield 50, 3) := by decide +kernel
theorem dX5_nearestRead_36 : decode cX5_nearestRead 36 = .ok (.iload_n 1, 1) := by decide +kernel
theorem dX5_nearestRead_37 : decode cX5_nearestRead 37 = .ok (.iload 4, 2) := by decide +kernel
theorem dX5_nearestRead_39 : decode cX5_nearestRead 39 = .ok (.invokevirtual 108, 3) := by decide +kernel
theorem dX5_nearestRead_42 : decode cX5_nearestRead 42 = .ok (.istore 6, 2) := by decide +kernel
theorem dX5_nearestRead_44 : decode cX5_nearestRead 44 = .ok (.iload 5, 2) := by decide +kernel
theorem dX5_nearestRead_46 : decode cX5_nearestRead 46 = .ok (.invokestatic 111, 3) := by decide +kernel
theorem dX5_nearestRead_49 : decode cX5_nearestRead 49 = .ok (.ifCond .eq 62, 3) := by decide +kernel
theorem dX5_nearestRead_52 : decode cX5_nearestRead 52 = .ok (.aload_n 0, 1) := by decide +kernel
theorem dX5_nearestRead_53 : decode cX5_nearestRead 53 = .ok (.getfield 54, 3) := by decide +kernel
theorem dX5_nearestRead_56 : decode cX5_nearestRead 56 = .ok (.iload_n 1, 1) := by decide +kernel
theorem dX5_nearestRead_57 : decode cX5_nearestRead 57 = .ok (.invokevirtual 114, 3) := by decide +kernel
theorem dX5_nearestRead_60 : decode cX5_nearestRead 60 = .ok (.istore 7, 2) := by decide +kernel
theorem dX5_nearestRead_62 : decode cX5_nearestRead 62 = .ok (.iconst 0, 1) := by decide +kernel
theorem dX5_nearestRead_63 : decode cX5_nearestRead 63 = .ok (.istore 8, 2) := by decide +kernel
theorem dX5_nearestRead_65 : decode cX5_nearestRead 65 = .ok (.iload 8, 2) := by decide +kernel
theorem dX5_nearestRead_67 : decode cX5_nearestRead 67 = .ok (.aload_n 0, 1) := by decide +kernel
theorem dX5_nearestRead_68 : decode cX5_nearestRead 68 = .ok (.getfield 54, 3) := by decide +kernel
theorem dX5_nearestRead_71 : decode cX5_nearestRead 71 = .ok (.getfield 117, 3) := by decide +kernel
theorem dX5_nearestRead_74 : decode cX5_nearestRead 74 = .ok (.iload 7, 2) := by decide +kernel
theorem dX5_nearestRead_76 : decode cX5_nearestRead 76 = .ok (.iaload, 1) := by decide +kernel
theorem dX5_nearestRead_77 : decode cX5_nearestRead 77 = .ok (.if_icmp .ge 31, 3) := by decide +kernel
theorem dX5_nearestRead_80 : decode cX5_nearestRead 80 = .ok (.aload_n 0, 1) := by decide +kernel
theorem dX5_nearestRead_81 : decode cX5_nearestRead 81 = .ok (.iload_n 2, 1) := by decide +kernel
theorem dX5_nearestRead_82 : decode cX5_nearestRead 82 = .ok (.aload_n 0, 1) := by decide +kernel
theorem dX5_nearestRead_83 : decode cX5_nearestRead 83 = .ok (.getfield 54, 3) := by decide +kernel
theorem dX5_nearestRead_86 : decode cX5_nearestRead 86 = .ok (.iload 7, 2) := by decide +kernel
theorem dX5_nearestRead_88 : decode cX5_nearestRead 88 = .ok (.iload 8, 2) := by decide +kernel
theorem dX5_nearestRead_90 : decode cX5_nearestRead 90 = .ok (.invokevirtual 120, 3) := by decide +kernel
theorem dX5_nearestRead_93 : decode cX5_nearestRead 93 = .ok (.iload 6, 2) := by decide +kernel
theorem dX5_nearestRead_95 : decode cX5_nearestRead 95 = .ok (.invokestatic 123, 3) := by decide +kernel
theorem dX5_nearestRead_98 : decode cX5_nearestRead 98 = .ok (.invokevirtual 197, 3) := by decide +kernel
theorem dX5_nearestRead_101 : decode cX5_nearestRead 101 = .ok (.istore_n 2, 1) := by decide +kernel
theorem dX5_nearestRead_102 : decode cX5_nearestRead 102 = .ok (.iinc 8 1, 3) := by decide +kernel
theorem dX5_nearestRead_105 : decode cX5_nearestRead 105 = .ok (.goto (-40), 3) := by decide +kernel
theorem dX5_nearestRead_108 : decode cX5_nearestRead 108 = .ok (.goto 29, 3) := by decide +kernel
theorem dX5_nearestRead_111 : decode cX5_nearestRead 111 = .ok (.iload 5, 2) := by decide +kernel
theorem dX5_nearestRead_113 : decode cX5_nearestRead 113 = .ok (.invokestatic 130, 3) := by decide +kernel
theorem dX5_nearestRead_116 : decode cX5_nearestRead 116 = .ok (.ifCond .eq 21, 3) := by decide +kernel
theorem dX5_nearestRead_119 : decode cX5_nearestRead 119 = .ok (.aload_n 0, 1) := by decide +kernel
theorem dX5_nearestRead_120 : decode cX5_nearestRead 120 = .ok (.iload_n 2, 1) := by decide +kernel
theorem dX5_nearestRead_121 : decode cX5_nearestRead 121 = .ok (.aload_n 0, 1) := by decide +kernel
theorem dX5_nearestRead_122 : decode cX5_nearestRead 122 = .ok (.getfield 54, 3) := by decide +kernel
theorem dX5_nearestRead_125 : decode cX5_nearestRead 125 = .ok (.iload_n 1, 1) := by decide +kernel
theorem dX5_nearestRead_126 : decode cX5_nearestRead 126 = .ok (.iload 5, 2) := by decide +kernel
theorem dX5_nearestRead_128 : decode cX5_nearestRead 128 = .ok (.iload 6, 2) := by decide +kernel
theorem dX5_nearestRead_130 : decode cX5_nearestRead 130 = .ok (.invokevirtual 133, 3) := by decide +kernel
theorem dX5_nearestRead_133 : decode cX5_nearestRead 133 = .ok (.invokevirtual 197, 3) := by decide +kernel
theorem dX5_nearestRead_136 : decode cX5_nearestRead 136 = .ok (.istore_n 2, 1) := by decide +kernel
theorem dX5_nearestRead_137 : decode cX5_nearestRead 137 = .ok (.iinc 4 1, 3) := by decide +kernel
theorem dX5_nearestRead_140 : decode cX5_nearestRead 140 = .ok (.goto (-126), 3) := by decide +kernel
theorem dX5_nearestRead_143 : decode cX5_nearestRead 143 = .ok (.iload_n 2, 1) := by decide +kernel
theorem dX5_nearestRead_144 : decode cX5_nearestRead 144 = .ok (.ireturn, 1) := by decide +kernel
theorem dX5_nearer_0 : decode cX5_nearer 0 = .ok (.iload_n 2, 1) := by decide +kernel
theorem dX5_nearer_1 : decode cX5_nearer 1 = .ok (.iconst (-1), 1) := by decide +kernel
theorem dX5_nearer_2 : decode cX5_nearer 2 = .ok (.if_icmp .eq 13, 3) := by decide +kernel
theorem dX5_nearer_5 : decode cX5_nearer 5 = .ok (.aload_n 0, 1) := by decide +kernel
theorem dX5_nearer_6 : decode cX5_nearer 6 = .ok (.getfield 34, 3) := by decide +kernel
theorem dX5_nearer_9 : decode cX5_nearer 9 = .ok (.iload_n 2, 1) := by decide +kernel
theorem dX5_nearer_10 : decode cX5_nearer 10 = .ok (.iaload, 1) := by decide +kernel
theorem dX5_nearer_11 : decode cX5_nearer 11 = .ok (.iconst (-1), 1) := by decide +kernel
theorem dX5_nearer_12 : decode cX5_nearer 12 = .ok (.if_icmp .ne 5, 3) := by decide +kernel
theorem dX5_nearer_15 : decode cX5_nearer 15 = .ok (.iload_n 1, 1) := by decide +kernel
theorem dX5_nearer_16 : decode cX5_nearer 16 = .ok (.ireturn, 1) := by decide +kernel
theorem dX5_nearer_17 : decode cX5_nearer 17 = .ok (.iload_n 1, 1) := by decide +kernel
theorem dX5_nearer_18 : decode cX5_nearer 18 = .ok (.iconst (-1), 1) := by decide +kernel
theorem dX5_nearer_19 : decode cX5_nearer 19 = .ok (.if_icmp .eq 18, 3) := by decide +kernel
theorem dX5_nearer_22 : decode cX5_nearer 22 = .ok (.aload_n 0, 1) := by decide +kernel
theorem dX5_nearer_23 : decode cX5_nearer 23 = .ok (.getfield 34, 3) := by decide +kernel
theorem dX5_nearer_26 : decode cX5_nearer 26 = .ok (.iload_n 2, 1) := by decide +kernel
theorem dX5_nearer_27 : decode cX5_nearer 27 = .ok (.iaload, 1) := by decide +kernel
theorem dX5_nearer_28 : decode cX5_nearer 28 = .ok (.aload_n 0, 1) := by decide +kernel
theorem dX5_nearer_29 : decode cX5_nearer 29 = .ok (.getfield 34, 3) := by decide +kernel
theorem dX5_nearer_32 : decode cX5_nearer 32 = .ok (.iload_n 1, 1) := by decide +kernel
theorem dX5_nearer_33 : decode cX5_nearer 33 = .ok (.iaload, 1) := by decide +kernel
theorem dX5_nearer_34 : decode cX5_nearer 34 = .ok (.if_icmp .ge 7, 3) := by decide +kernel
theorem dX5_nearer_37 : decode cX5_nearer 37 = .ok (.iload_n 2, 1) := by decide +kernel
theorem dX5_nearer_38 : decode cX5_nearer 38 = .ok (.goto 4, 3) := by decide +kernel
theorem dX5_nearer_41 : decode cX5_nearer 41 = .ok (.iload_n 1, 1) := by decide +kernel
theorem dX5_nearer_42 : decode cX5_nearer 42 = .ok (.ireturn, 1) := by decide +kernel
theorem dX5_has_0 : decode cX5_has 0 = .ok (.aload_n 0, 1) := by decide +kernel
theorem dX5_has_1 : decode cX5_has 1 = .ok (.iload_n 1, 1) := by decide +kernel
theorem dX5_has_2 : decode cX5_has 2 = .ok (.bipush 64, 2) := by decide +kernel
theorem dX5_has_4 : decode cX5_has 4 = .ok (.idiv, 1) := by decide +kernel
theorem dX5_has_5 : decode cX5_has 5 = .ok (.laload, 1) := by decide +kernel
theorem dX5_has_6 : decode cX5_has 6 = .ok (.iload_n 1, 1) := by decide +kernel
theorem dX5_has_7 : decode cX5_has 7 = .ok (.invokestatic 137, 3) := by decide +kernel
theorem dX5_has_10 : decode cX5_has 10 = .ok (.land, 1) := by decide +kernel
theorem dX5_has_11 : decode cX5_has 11 = .ok (.lconst 0, 1) := by decide +kernel
theorem dX5_has_12 : decode cX5_has 12 = .ok (.lcmp, 1) := by decide +kernel
theorem dX5_has_13 : decode cX5_has 13 = .ok (.ifCond .eq 7, 3) := by decide +kernel
theorem dX5_has_16 : decode cX5_has 16 = .ok (.iconst 1, 1) := by decide +kernel
theorem dX5_has_17 : decode cX5_has 17 = .ok (.goto 4, 3) := by decide +kernel
theorem dX5_has_20 : decode cX5_has 20 = .ok (.iconst 0, 1) := by decide +kernel
theorem dX5_has_21 : decode cX5_has 21 = .ok (.ireturn, 1) := by decide +kernel
theorem dX5_bitOf_0 : decode cX5_bitOf 0 = .ok (.lconst 1, 1) := by decide +kernel
theorem dX5_bitOf_1 : decode cX5_bitOf 1 = .ok (.iload_n 0, 1) := by decide +kernel
theorem dX5_bitOf_2 : decode cX5_bitOf 2 = .ok (.bipush 64, 2) := by decide +kernel
theorem dX5_bitOf_4 : decode cX5_bitOf 4 = .ok (.irem, 1) := by decide +kernel
theorem dX5_bitOf_5 : decode cX5_bitOf 5 = .ok (.lshl, 1) := by decide +kernel
theorem dX5_bitOf_6 : decode cX5_bitOf 6 = .ok (.lreturn, 1) := by decide +kernel
theorem dX6_init_0 : decode cX6_init 0 = .ok (.aload_n 0, 1) := by decide +kernel
theorem dX6_init_1 : decode cX6_init 1 = .ok (.invokespecial 3, 3) := by decide +kernel
theorem dX6_init_4 : decode cX6_init 4 = .ok (.aload_n 0, 1) := by decide +kernel
theorem dX6_init_5 : decode cX6_init 5 = .ok (.sipush 258, 3) := by decide +kernel
theorem dX6_init_8 : decode cX6_init 8 = .ok (.newarray .int, 2) := by decide +kernel
theorem dX6_init_10 : decode cX6_init 10 = .ok (.putfield 9, 3) := by decide +kernel
theorem dX6_init_13 : decode cX6_init 13 = .ok (.return_, 1) := by decide +kernel
theorem dX6_clear_0 : decode cX6_clear 0 = .ok (.aload_n 0, 1) := by decide +kernel
theorem dX6_clear_1 : decode cX6_clear 1 = .ok (.iconst 0, 1) := by decide +kernel
theorem dX6_clear_2 : decode cX6_clear 2 = .ok (.putfield 15, 3) := by decide +kernel
theorem dX6_clear_5 : decode cX6_clear 5 = .ok (.return_, 1) := by decide +kernel
theorem dX6_add_0 : decode cX6_add 0 = .ok (.aload_n 0, 1) := by decide +kernel
theorem dX6_add_1 : decode cX6_add 1 = .ok (.getfield 15, 3) := by decide +kernel
theorem dX6_add_4 : decode cX6_add 4 = .ok (.sipush 258, 3) := by decide +kernel
theorem dX6_add_7 : decode cX6_add 7 = .ok (.if_icmp .ge 23, 3) := by decide +kernel
theorem dX6_add_10 : decode cX6_add 10 = .ok (.aload_n 0, 1) := by decide +kernel
theorem dX6_add_11 : decode cX6_add 11 = .ok (.getfield 9, 3) := by decide +kernel
theorem dX6_add_14 : decode cX6_add 14 = .ok (.aload_n 0, 1) := by decide +kernel
theorem dX6_add_15 : decode cX6_add 15 = .ok (.getfield 15, 3) := by decide +kernel
theorem dX6_add_18 : decode cX6_add 18 = .ok (.iload_n 1, 1) := by decide +kernel
theorem dX6_add_19 : decode cX6_add 19 = .ok (.iastore, 1) := by decide +kernel
theorem dX6_add_20 : decode cX6_add 20 = .ok (.aload_n 0, 1) := by decide +kernel
theorem dX6_add_21 : decode cX6_add 21 = .ok (.dup, 1) := by decide +kernel
theorem dX6_add_22 : decode cX6_add 22 = .ok (.getfield 15, 3) := by decide +kernel
theorem dX6_add_25 : decode cX6_add 25 = .ok (.iconst 1, 1) := by decide +kernel
theorem dX6_add_26 : decode cX6_add 26 = .ok (.iadd, 1) := by decide +kernel
theorem dX6_add_27 : decode cX6_add 27 = .ok (.putfield 15, 3) := by decide +kernel
theorem dX6_add_30 : decode cX6_add 30 = .ok (.return_, 1) := by decide +kernel
theorem dX6_get_0 : decode cX6_get 0 = .ok (.iload_n 1, 1) := by decide +kernel
theorem dX6_get_1 : decode cX6_get 1 = .ok (.ifCond .lt 11, 3) := by decide +kernel
theorem dX6_get_4 : decode cX6_get 4 = .ok (.iload_n 1, 1) := by decide +kernel
theorem dX6_get_5 : decode cX6_get 5 = .ok (.aload_n 0, 1) := by decide +kernel
theorem dX6_get_6 : decode cX6_get 6 = .ok (.getfield 15, 3) := by decide +kernel
theorem dX6_get_9 : decode cX6_get 9 = .ok (.if_icmp .lt 7, 3) := by decide +kernel
theorem dX6_get_12 : decode cX6_get 12 = .ok (.iconst (-1), 1) := by decide +kernel
theorem dX6_get_13 : decode cX6_get 13 = .ok (.goto 9, 3) := by decide +kernel
theorem dX6_get_16 : decode cX6_get 16 = .ok (.aload_n 0, 1) := by decide +kernel
theorem dX6_get_17 : decode cX6_get 17 = .ok (.getfield 9, 3) := by decide +kernel
theorem dX6_get_20 : decode cX6_get 20 = .ok (.iload_n 1, 1) := by decide +kernel
theorem dX6_get_21 : decode cX6_get 21 = .ok (.iaload, 1) := by decide +kernel
theorem dX6_get_22 : decode cX6_get 22 = .ok (.ireturn, 1) := by decide +kernel
theorem dX6_copyFrom_0 : decode cX6_copyFrom 0 = .ok (.aload_n 1, 1) := by decide +kernel
theorem dX6_copyFrom_1 : decode cX6_copyFrom 1 = .ok (.getfield 9, 3) := by decide +kernel
theorem dX6_copyFrom_4 : decode cX6_copyFrom 4 = .ok (.iconst 0, 1) := by decide +kernel
theorem dX6_copyFrom_5 : decode cX6_copyFrom 5 = .ok (.aload_n 0, 1) := by decide +kernel
theorem dX6_copyFrom_6 : decode cX6_copyFrom 6 = .ok (.getfield 9, 3) := by decide +kernel
theorem dX6_copyFrom_9 : decode cX6_copyFrom 9 = .ok (.iconst 0, 1) := by decide +kernel
theorem dX6_copyFrom_10 : decode cX6_copyFrom 10 = .ok (.aload_n 1, 1) := by decide +kernel
theorem dX6_copyFrom_11 : decode cX6_copyFrom 11 = .ok (.getfield 15, 3) := by decide +kernel
theorem dX6_copyFrom_14 : decode cX6_copyFrom 14 = .ok (.invokestatic 19, 3) := by decide +kernel
theorem dX6_copyFrom_17 : decode cX6_copyFrom 17 = .ok (.aload_n 0, 1) := by decide +kernel
theorem dX6_copyFrom_18 : decode cX6_copyFrom 18 = .ok (.aload_n 1, 1) := by decide +kernel
theorem dX6_copyFrom_19 : decode cX6_copyFrom 19 = .ok (.getfield 15, 3) := by decide +kernel
theorem dX6_copyFrom_22 : decode cX6_copyFrom 22 = .ok (.putfield 15, 3) := by decide +kernel
theorem dX6_copyFrom_25 : decode cX6_copyFrom 25 = .ok (.return_, 1) := by decide +kernel
theorem dX7_init_0 : decode cX7_init 0 = .ok (.aload_n 0, 1) := by decide +kernel
theorem dX7_init_1 : decode cX7_init 1 = .ok (.invokespecial 3, 3) := by decide +kernel
theorem dX7_init_4 : decode cX7_init 4 = .ok (.aload_n 0, 1) := by decide +kernel
theorem dX7_init_5 : decode cX7_init 5 = .ok (.bipush 8, 2) := by decide +kernel
theorem dX7_init_7 : decode cX7_init 7 = .ok (.newarray .long, 2) := by decide +kernel
theorem dX7_init_9 : decode cX7_init 9 = .ok (.putfield 9, 3) := by decide +kernel
theorem dX7_init_12 : decode cX7_init 12 = .ok (.aload_n 0, 1) := by decide +kernel
theorem dX7_init_13 : decode cX7_init 13 = .ok (.aload_n 1, 1) := by decide +kernel
theorem dX7_init_14 : decode cX7_init 14 = .ok (.putfield 15, 3) := by decide +kernel
theorem dX7_init_17 : decode cX7_init 17 = .ok (.aload_n 0, 1) := by decide +kernel
theorem dX7_init_18 : decode cX7_init 18 = .ok (.aload_n 2, 1) := by decide +kernel
theorem dX7_init_19 : decode cX7_init 19 = .ok (.putfield 19, 3) := by decide +kernel
theorem dX7_init_22 : decode cX7_init 22 = .ok (.aload_n 0, 1) := by decide +kernel
theorem dX7_init_23 : decode cX7_init 23 = .ok (.aload_n 3, 1) := by decide +kernel
theorem dX7_init_24 : decode cX7_init 24 = .ok (.putfield 23, 3) := by decide +kernel
theorem dX7_init_27 : decode cX7_init 27 = .ok (.return_, 1) := by decide +kernel
theorem dX7_work_0 : decode cX7_work 0 = .ok (.aload_n 0, 1) := by decide +kernel
theorem dX7_work_1 : decode cX7_work 1 = .ok (.aload_n 2, 1) := by decide +kernel
theorem dX7_work_2 : decode cX7_work 2 = .ok (.putfield 19, 3) := by decide +kernel
theorem dX7_work_5 : decode cX7_work 5 = .ok (.aload_n 0, 1) := by decide +kernel
theorem dX7_work_6 : decode cX7_work 6 = .ok (.aload_n 3, 1) := by decide +kernel
theorem dX7_work_7 : decode cX7_work 7 = .ok (.putfield 23, 3) := by decide +kernel
theorem dX7_work_10 : decode cX7_work 10 = .ok (.aload_n 0, 1) := by decide +kernel
theorem dX7_work_11 : decode cX7_work 11 = .ok (.iconst 0, 1) := by decide +kernel
theorem dX7_work_12 : decode cX7_work 12 = .ok (.putfield 26, 3) := by decide +kernel
theorem dX7_work_15 : decode cX7_work 15 = .ok (.aload_n 0, 1) := by decide +kernel
theorem dX7_work_16 : decode cX7_work 16 = .ok (.iconst 0, 1) := by decide +kernel
theorem dX7_work_17 : decode cX7_work 17 = .ok (.putfield 30, 3) := by decide +kernel
theorem dX7_work_20 : decode cX7_work 20 = .ok (.aload_n 0, 1) := by decide +kernel
theorem dX7_work_21 : decode cX7_work 21 = .ok (.getfield 15, 3) := by decide +kernel
theorem dX7_work_24 : decode cX7_work 24 = .ok (.iload_n 1, 1) := by decide +kernel
theorem dX7_work_25 : decode cX7_work 25 = .ok (.invokevirtual 33, 3) := by decide +kernel
theorem dX7_work_28 : decode cX7_work 28 = .ok (.istore 4, 2) := by decide +kernel
theorem dX7_work_30 : decode cX7_work 30 = .ok (.iconst 0, 1) := by decide +kernel
theorem dX7_work_31 : decode cX7_work 31 = .ok (.istore 5, 2) := by decide +kernel
theorem dX7_work_33 : decode cX7_work 33 = .ok (.iload 5, 2) := by decide +kernel
theorem dX7_work_35 : decode cX7_work 35 = .ok (.iload 4, 2) := by decide +kernel
theorem dX7_work_37 : decode cX7_work 37 = .ok (.if_icmp .ge 123, 3) := by decide +kernel
theorem dX7_work_40 : decode cX7_work 40 = .ok (.aload_n 0, 1) := by decide +kernel
theorem dX7_work_41 : decode cX7_work 41 = .ok (.iload 5, 2) := by decide +kernel
theorem dX7_work_43 : decode cX7_work 43 = .ok (.putfield 39, 3) := by decide +kernel
theorem dX7_work_46 : decode cX7_work 46 = .ok (.aload_n 0, 1) := by decide +kernel
theorem dX7_work_47 : decode cX7_work 47 = .ok (.getfield 15, 3) := by decide +kernel
theorem dX7_work_50 : decode cX7_work 50 = .ok (.iload_n 1, 1) := by decide +kernel
theorem dX7_work_51 : decode cX7_work 51 = .ok (.iload 5, 2) := by decide +kernel
theorem dX7_work_53 : decode cX7_work 53 = .ok (.invokevirtual 42, 3) := by decide +kernel
theorem dX7_work_56 : decode cX7_work 56 = .ok (.istore 6, 2) := by decide +kernel
theorem dX7_work_58 : decode cX7_work 58 = .ok (.aload_n 0, 1) := by decide +kernel
theorem dX7_work_59 : decode cX7_work 59 = .ok (.getfield 15, 3) := by decide +kernel
theorem dX7_work_62 : decode cX7_work 62 = .ok (.iload_n 1, 1) := by decide +kernel
theorem dX7_work_63 : decode cX7_work 63 = .ok (.iload 5, 2) := by decide +kernel
theorem dX7_work_65 : decode cX7_work 65 = .ok (.invokevirtual 46, 3) := by decide +kernel
theorem dX7_work_68 : decode cX7_work 68 = .ok (.istore 7, 2) := by decide +kernel
theorem dX7_work_70 : decode cX7_work 70 = .ok (.iload 6, 2) := by decide +kernel
theorem dX7_work_72 : decode cX7_work 72 = .ok (.invokestatic 49, 3) := by decide +kernel
theorem dX7_work_75 : decode cX7_work 75 = .ok (.ifCond .eq 22, 3) := by decide +kernel
theorem dX7_work_78 : decode cX7_work 78 = .ok (.aload_n 0, 1) := by decide +kernel
theorem dX7_work_79 : decode cX7_work 79 = .ok (.aload_n 0, 1) := by decide +kernel
theorem dX7_work_80 : decode cX7_work 80 = .ok (.getfield 19, 3) := by decide +kernel
theorem dX7_work_83 : decode cX7_work 83 = .ok (.iload_n 1, 1) := by decide +kernel
theorem dX7_work_84 : decode cX7_work 84 = .ok (.invokevirtual 53, 3) := by decide +kernel
theorem dX7_work_87 : decode cX7_work 87 = .ok (.iload 6, 2) := by decide +kernel
theorem dX7_work_89 : decode cX7_work 89 = .ok (.iload 7, 2) := by decide +kernel
theorem dX7_work_91 : decode cX7_work 91 = .ok (.invokevirtual 58, 3) := by decide +kernel
theorem dX7_work_94 : decode cX7_work 94 = .ok (.goto 51, 3) := by decide +kernel
theorem dX7_work_97 : decode cX7_work 97 = .ok (.iload 6, 2) := by decide +kernel
theorem dX7_work_99 : decode cX7_work 99 = .ok (.invokestatic 62, 3) := by decide +kernel
theorem dX7_work_102 : decode cX7_work 102 = .ok (.ifCond .eq 15, 3) := by decide +kernel
theorem dX7_work_105 : decode cX7_work 105 = .ok (.aload_n 0, 1) := by decide +kernel
theorem dX7_work_106 : decode cX7_work 106 = .ok (.iload_n 1, 1) := by decide +kernel
theorem dX7_work_107 : decode cX7_work 107 = .ok (.iload 6, 2) := by decide +kernel
theorem dX7_work_109 : decode cX7_work 109 = .ok (.iload 7, 2) := by decide +kernel
theorem dX7_work_111 : decode cX7_work 111 = .ok (.invokevirtual 65, 3) := by decide +kernel
theorem dX7_work_114 : decode cX7_work 114 = .ok (.goto 31, 3) := by decide +kernel
theorem dX7_work_117 : decode cX7_work 117 = .ok (.iload 6, 2) := by decide +kernel
theorem dX7_work_119 : decode cX7_work 119 = .ok (.iconst 3, 1) := by decide +kernel
theorem dX7_work_120 : decode cX7_work 120 = .ok (.if_icmp .gt 19, 3) := by decide +kernel
theorem dX7_work_123 : decode cX7_work 123 = .ok (.aload_n 0, 1) := by decide +kernel
theorem dX7_work_124 : decode cX7_work 124 = .ok (.aload_n 0, 1) := by decide +kernel
theorem dX7_work_125 : decode cX7_work 125 = .ok (.iload_n 1, 1) := by decide +kernel
theorem dX7_work_126 : decode cX7_work 126 = .ok (.iload 6, 2) := by decide +kernel
theorem dX7_work_128 : decode cX7_work 128 = .ok (.iload 7, 2) := by decide +kernel
theorem dX7_work_130 : decode cX7_work 130 = .ok (.invokevirtual 68, 3) := by decide +kernel
theorem dX7_work_133 : decode cX7_work 133 = .ok (.invokevirtual 72, 3) := by decide +kernel
theorem dX7_work_136 : decode cX7_work 136 = .ok (.goto 9, 3) := by decide +kernel
theorem dX7_work_139 : decode cX7_work 139 = .ok (.aload_n 0, 1) := by decide +kernel
theorem dX7_work_140 : decode cX7_work 140 = .ok (.iload 6, 2) := by decide +kernel
theorem dX7_work_142 : decode cX7_work 142 = .ok (.invokevirtual 76, 3) := by decide +kernel
theorem dX7_work_145 : decode cX7_work 145 = .ok (.aload_n 0, 1) := by decide +kernel
theorem dX7_work_146 : decode cX7_work 146 = .ok (.getfield 30, 3) := by decide +kernel
theorem dX7_work_149 : decode cX7_work 149 = .ok (.ifCond .eq 5, 3) := by decide +kernel
theorem dX7_work_152 : decode cX7_work 152 = .ok (.iconst 0, 1) := by decide +kernel
theorem dX7_work_153 : decode cX7_work 153 = .ok (.ireturn, 1) := by decide +kernel
theorem dX7_work_154 : decode cX7_work 154 = .ok (.iinc 5 1, 3) := by decide +kernel
theorem dX7_work_157 : decode cX7_work 157 = .ok (.goto (-124), 3) := by decide +kernel
theorem dX7_work_160 : decode cX7_work 160 = .ok (.aload_n 0, 1) := by decide +kernel
theorem dX7_work_161 : decode cX7_work 161 = .ok (.aload_n 0, 1) := by decide +kernel
theorem dX7_work_162 : decode cX7_work 162 = .ok (.invokevirtual 80, 3) := by decide +kernel
theorem dX7_work_165 : decode cX7_work 165 = .ok (.putfield 84, 3) := by decide +kernel
theorem dX7_work_168 : decode cX7_work 168 = .ok (.iconst 1, 1) := by decide +kernel
theorem dX7_work_169 : decode cX7_work 169 = .ok (.ireturn, 1) := by decide +kernel
theorem dX7_push_0 : decode cX7_push 0 = .ok (.lload_n 1, 1) := by decide +kernel
theorem dX7_push_1 : decode cX7_push 1 = .ok (.ldc2_w 88, 3) := by decide +kernel
theorem dX7_push_4 : decode cX7_push 4 = .ok (.lcmp, 1) := by decide +kernel
theorem dX7_push_5 : decode cX7_push 5 = .ok (.ifCond .lt 11, 3) := by decide +kernel
theorem dX7_push_8 : decode cX7_push 8 = .ok (.lload_n 1, 1) := by decide +kernel
theorem dX7_push_9 : decode cX7_push 9 = .ok (.ldc2_w 90, 3) := by decide +kernel
theorem dX7_push_12 : decode cX7_push 12 = .ok (.lcmp, 1) := by decide +kernel
theorem dX7_push_13 : decode cX7_push 13 = .ok (.ifCond .le 11, 3) := by decide +kernel
theorem dX7_push_16 : decode cX7_push 16 = .ok (.aload_n 0, 1) := by decide +kernel
theorem dX7_push_17 : decode cX7_push 17 = .ok (.iconst 3, 1) := by decide +kernel
theorem dX7_push_18 : decode cX7_push 18 = .ok (.putfield 30, 3) := by decide +kernel
theorem dX7_push_21 : decode cX7_push 21 = .ok (.goto 32, 3) := by decide +kernel
theorem dX7_push_24 : decode cX7_push 24 = .ok (.aload_n 0, 1) := by decide +kernel
theorem dX7_push_25 : decode cX7_push 25 = .ok (.getfield 26, 3) := by decide +kernel
theorem dX7_push_28 : decode cX7_push 28 = .ok (.bipush 8, 2) := by decide +kernel
theorem dX7_push_30 : decode cX7_push 30 = .ok (.if_icmp .ge 23, 3) := by decide +kernel
theorem dX7_push_33 : decode cX7_push 33 = .ok (.aload_n 0, 1) := by decide +kernel
theorem dX7_push_34 : decode cX7_push 34 = .ok (.getfield 9, 3) := by decide +kernel
theorem dX7_push_37 : decode cX7_push 37 = .ok (.aload_n 0, 1) := by decide +kernel
theorem dX7_push_38 : decode cX7_push 38 = .ok (.getfield 26, 3) := by decide +kernel
theorem dX7_push_41 : decode cX7_push 41 = .ok (.lload_n 1, 1) := by decide +kernel
theorem dX7_push_42 : decode cX7_push 42 = .ok (.lastore, 1) := by decide +kernel
theorem dX7_push_43 : decode cX7_push 43 = .ok (.aload_n 0, 1) := by decide +kernel
theorem dX7_push_44 : decode cX7_push 44 = .ok (.dup, 1) := by decide +kernel
theorem dX7_push_45 : decode cX7_push 45 = .ok (.getfield 26, 3) := by decide +kernel
theorem dX7_push_48 : decode cX7_push 48 = .ok (.iconst 1, 1) := by decide +kernel
theorem dX7_push_49 : decode cX7_push 49 = .ok (.iadd, 1) := by decide +kernel
theorem dX7_push_50 : decode cX7_push 50 = .ok (.putfield 26, 3) := by decide +kernel
theorem dX7_push_53 : decode cX7_push 53 = .ok (.return_, 1) := by decide +kernel
theorem dX7_pop_0 : decode cX7_pop 0 = .ok (.aload_n 0, 1) := by decide +kernel
theorem dX7_pop_1 : decode cX7_pop 1 = .ok (.getfield 26, 3) := by decide +kernel
theorem dX7_pop_4 : decode cX7_pop 4 = .ok (.ifCond .ne 5, 3) := by decide +kernel
theorem dX7_pop_7 : decode cX7_pop 7 = .ok (.lconst 0, 1) := by decide +kernel
theorem dX7_pop_8 : decode cX7_pop 8 = .ok (.lreturn, 1) := by decide +kernel
theorem dX7_pop_9 : decode cX7_pop 9 = .ok (.aload_n 0, 1) := by decide +kernel
theorem dX7_pop_10 : decode cX7_pop 10 = .ok (.dup, 1) := by decide +kernel
theorem dX7_pop_11 : decode cX7_pop 11 = .ok (.getfield 26, 3) := by decide +kernel
theorem dX7_pop_14 : decode cX7_pop 14 = .ok (.iconst 1, 1) := by decide +kernel
theorem dX7_pop_15 : decode cX7_pop 15 = .ok (.isub, 1) := by decide +kernel
theorem dX7_pop_16 : decode cX7_pop 16 = .ok (.putfield 26, 3) := by decide +kernel
theorem dX7_pop_19 : decode cX7_pop 19 = .ok (.aload_n 0, 1) := by decide +kernel
theorem dX7_pop_20 : decode cX7_pop 20 = .ok (.getfield 9, 3) := by decide +kernel
theorem dX7_pop_23 : decode cX7_pop 23 = .ok (.aload_n 0, 1) := by decide +kernel
theorem dX7_pop_24 : decode cX7_pop 24 = .ok (.getfield 26, 3) := by decide +kernel
theorem dX7_pop_27 : decode cX7_pop 27 = .ok (.laload, 1) := by decide +kernel
theorem dX7_pop_28 : decode cX7_pop 28 = .ok (.lreturn, 1) := by decide +kernel
theorem dX7_given_0 : decode cX7_given 0 = .ok (.iload_n 1, 1) := by decide +kernel
theorem dX7_given_1 : decode cX7_given 1 = .ok (.invokestatic 92, 3) := by decide +kernel
theorem dX7_given_4 : decode cX7_given 4 = .ok (.istore 4, 2) := by decide +kernel
theorem dX7_given_6 : decode cX7_given 6 = .ok (.aload_n 0, 1) := by decide +kernel
theorem dX7_given_7 : decode cX7_given 7 = .ok (.getfield 19, 3) := by decide +kernel
theorem dX7_given_10 : decode cX7_given 10 = .ok (.iload_n 1, 1) := by decide +kernel
theorem dX7_given_11 : decode cX7_given 11 = .ok (.invokevirtual 53, 3) := by decide +kernel
theorem dX7_given_14 : decode cX7_given 14 = .ok (.istore 5, 2) := by decide +kernel
theorem dX7_given_16 : decode cX7_given 16 = .ok (.iload_n 2, 1) := by decide +kernel
theorem dX7_given_17 : decode cX7_given 17 = .ok (.tableswitch 114 1 3 #[27, 68, 84], 27) := by decide +kernel
theorem dX7_given_44 : decode cX7_given 44 = .ok (.iload_n 1, 1) := by decide +kernel
theorem dX7_given_45 : decode cX7_given 45 = .ok (.invokestatic 95, 3) := by decide +kernel
theorem dX7_given_48 : decode cX7_given 48 = .ok (.ifCond .eq 21, 3) := by decide +kernel
theorem dX7_given_51 : decode cX7_given 51 = .ok (.aload_n 0, 1) := by decide +kernel
theorem dX7_given_52 : decode cX7_given 52 = .ok (.getfield 19, 3) := by decide +kernel
theorem dX7_given_55 : decode cX7_given 55 = .ok (.getfield 98, 3) := by decide +kernel
theorem dX7_given_58 : decode cX7_given 58 = .ok (.iconst 4, 1) := by decide +kernel
theorem dX7_given_59 : decode cX7_given 59 = .ok (.iload 4, 2) := by decide +kernel
theorem dX7_given_61 : decode cX7_given 61 = .ok (.imul, 1) := by decide +kernel
theorem dX7_given_62 : decode cX7_given 62 = .ok (.iload_n 3, 1) := by decide +kernel
theorem dX7_given_63 : decode cX7_given 63 = .ok (.iadd, 1) := by decide +kernel
theorem dX7_given_64 : decode cX7_given 64 = .ok (.iaload, 1) := by decide +kernel
theorem dX7_given_65 : decode cX7_given 65 = .ok (.i2l, 1) := by decide +kernel
theorem dX7_given_66 : decode cX7_given 66 = .ok (.goto 18, 3) := by decide +kernel
theorem dX7_given_69 : decode cX7_given 69 = .ok (.aload_n 0, 1) := by decide +kernel
theorem dX7_given_70 : decode cX7_given 70 = .ok (.getfield 19, 3) := by decide +kernel
theorem dX7_given_73 : decode cX7_given 73 = .ok (.getfield 102, 3) := by decide +kernel
theorem dX7_given_76 : decode cX7_given 76 = .ok (.iconst 2, 1) := by decide +kernel
theorem dX7_given_77 : decode cX7_given 77 = .ok (.iload 4, 2) := by decide +kernel
theorem dX7_given_79 : decode cX7_given 79 = .ok (.imul, 1) := by decide +kernel
theorem dX7_given_80 : decode cX7_given 80 = .ok (.iload_n 3, 1) := by decide +kernel
theorem dX7_given_81 : decode cX7_given 81 = .ok (.iadd, 1) := by decide +kernel
theorem dX7_given_82 : decode cX7_given 82 = .ok (.iaload, 1) := by decide +kernel
theorem dX7_given_83 : decode cX7_given 83 = .ok (.i2l, 1) := by decide +kernel
theorem dX7_given_84 : decode cX7_given 84 = .ok (.lreturn, 1) := by decide +kernel
theorem dX7_given_85 : decode cX7_given 85 = .ok (.aload_n 0, 1) := by decide +kernel
theorem dX7_given_86 : decode cX7_given 86 = .ok (.getfield 19, 3) := by decide +kernel
theorem dX7_given_89 : decode cX7_given 89 = .ok (.getfield 102, 3) := by decide +kernel
theorem dX7_given_92 : decode cX7_given 92 = .ok (.iconst 2, 1) := by decide +kernel
theorem dX7_given_93 : decode cX7_given 93 = .ok (.iload 5, 2) := by decide +kernel
theorem dX7_given_95 : decode cX7_given 95 = .ok (.imul, 1) := by decide +kernel
theorem dX7_given_96 : decode cX7_given 96 = .ok (.iload_n 3, 1) := by decide +kernel
theorem dX7_given_97 : decode cX7_given 97 = .ok (.iadd, 1) := by decide +kernel
theorem dX7_given_98 : decode cX7_given 98 = .ok (.iaload, 1) := by decide +kernel
theorem dX7_given_99 : decode cX7_given 99 = .ok (.i2l, 1) := by decide +kernel
theorem dX7_given_100 : decode cX7_given 100 = .ok (.lreturn, 1) := by decide +kernel
theorem dX7_given_101 : decode cX7_given 101 = .ok (.iload_n 3, 1) := by decide +kernel
theorem dX7_given_102 : decode cX7_given 102 = .ok (.ifCond .ne 17, 3) := by decide +kernel
theorem dX7_given_105 : decode cX7_given 105 = .ok (.aload_n 0, 1) := by decide +kernel
theorem dX7_given_106 : decode cX7_given 106 = .ok (.getfield 19, 3) := by decide +kernel
theorem dX7_given_109 : decode cX7_given 109 = .ok (.getfield 105, 3) := by decide +kernel
theorem dX7_given_112 : decode cX7_given 112 = .ok (.iload 4, 2) := by decide +kernel
theorem dX7_given_114 : decode cX7_given 114 = .ok (.iaload, 1) := by decide +kernel
theorem dX7_given_115 : decode cX7_given 115 = .ok (.i2l, 1) := by decide +kernel
theorem dX7_given_116 : decode cX7_given 116 = .ok (.goto 14, 3) := by decide +kernel
theorem dX7_given_119 : decode cX7_given 119 = .ok (.aload_n 0, 1) := by decide +kernel
theorem dX7_given_120 : decode cX7_given 120 = .ok (.getfield 19, 3) := by decide +kernel
theorem dX7_given_123 : decode cX7_given 123 = .ok (.getfield 108, 3) := by decide +kernel
theorem dX7_given_126 : decode cX7_given 126 = .ok (.iload 5, 2) := by decide +kernel
theorem dX7_given_128 : decode cX7_given 128 = .ok (.iaload, 1) := by decide +kernel
theorem dX7_given_129 : decode cX7_given 129 = .ok (.i2l, 1) := by decide +kernel
theorem dX7_given_130 : decode cX7_given 130 = .ok (.lreturn, 1) := by decide +kernel
theorem dX7_given_131 : decode cX7_given 131 = .ok (.iload_n 3, 1) := by decide +kernel
theorem dX7_given_132 : decode cX7_given 132 = .ok (.i2l, 1) := by decide +kernel
theorem dX7_given_133 : decode cX7_given 133 = .ok (.lreturn, 1) := by decide +kernel
theorem dX7_lookAtOne_0 : decode cX7_lookAtOne 0 = .ok (.aload_n 0, 1) := by decide +kernel
theorem dX7_lookAtOne_1 : decode cX7_lookAtOne 1 = .ok (.getfield 19, 3) := by decide +kernel
theorem dX7_lookAtOne_4 : decode cX7_lookAtOne 4 = .ok (.iload_n 1, 1) := by decide +kernel
theorem dX7_lookAtOne_5 : decode cX7_lookAtOne 5 = .ok (.iload_n 2, 1) := by decide +kernel
theorem dX7_lookAtOne_6 : decode cX7_lookAtOne 6 = .ok (.iload_n 3, 1) := by decide +kernel
theorem dX7_lookAtOne_7 : decode cX7_lookAtOne 7 = .ok (.invokevirtual 111, 3) := by decide +kernel
theorem dX7_lookAtOne_10 : decode cX7_lookAtOne 10 = .ok (.istore 4, 2) := by decide +kernel
theorem dX7_lookAtOne_12 : decode cX7_lookAtOne 12 = .ok (.iload 4, 2) := by decide +kernel
theorem dX7_lookAtOne_14 : decode cX7_lookAtOne 14 = .ok (.iconst (-1), 1) := by decide +kernel
theorem dX7_lookAtOne_15 : decode cX7_lookAtOne 15 = .ok (.if_icmp .ne 4, 3) := by decide +kernel
theorem dX7_lookAtOne_18 : decode cX7_lookAtOne 18 = .ok (.return_, 1) := by decide +kernel
theorem dX7_lookAtOne_19 : decode cX7_lookAtOne 19 = .ok (.getstatic 115, 3) := by decide +kernel
theorem dX7_lookAtOne_22 : decode cX7_lookAtOne 22 = .ok (.iload_n 2, 1) := by decide +kernel
theorem dX7_lookAtOne_23 : decode cX7_lookAtOne 23 = .ok (.iaload, 1) := by decide +kernel
theorem dX7_lookAtOne_24 : decode cX7_lookAtOne 24 = .ok (.ifCond .le 8, 3) := by decide +kernel
theorem dX7_lookAtOne_27 : decode cX7_lookAtOne 27 = .ok (.aload_n 0, 1) := by decide +kernel
theorem dX7_lookAtOne_28 : decode cX7_lookAtOne 28 = .ok (.invokevirtual 80, 3) := by decide +kernel
theorem dX7_lookAtOne_31 : decode cX7_lookAtOne 31 = .ok (.pop2, 1) := by decide +kernel
theorem dX7_lookAtOne_32 : decode cX7_lookAtOne 32 = .ok (.aload_n 0, 1) := by decide +kernel
theorem dX7_lookAtOne_33 : decode cX7_lookAtOne 33 = .ok (.aload_n 0, 1) := by decide +kernel
theorem dX7_lookAtOne_34 : decode cX7_lookAtOne 34 = .ok (.getfield 23, 3) := by decide +kernel
theorem dX7_lookAtOne_37 : decode cX7_lookAtOne 37 = .ok (.iload 4, 2) := by decide +kernel
theorem dX7_lookAtOne_39 : decode cX7_lookAtOne 39 = .ok (.laload, 1) := by decide +kernel
theorem dX7_lookAtOne_40 : decode cX7_lookAtOne 40 = .ok (.invokevirtual 72, 3) := by decide +kernel
theorem dX7_lookAtOne_43 : decode cX7_lookAtOne 43 = .ok (.return_, 1) := by decide +kernel
theorem dX7_lookAtAll_0 : decode cX7_lookAtAll 0 = .ok (.aload_n 0, 1) := by decide +kernel
theorem dX7_lookAtAll_1 : decode cX7_lookAtAll 1 = .ok (.getfield 19, 3) := by decide +kernel
theorem dX7_lookAtAll_4 : decode cX7_lookAtAll 4 = .ok (.getfield 108, 3) := by decide +kernel
theorem dX7_lookAtAll_7 : decode cX7_lookAtAll 7 = .ok (.iload_n 1, 1) := by decide +kernel
theorem dX7_lookAtAll_8 : decode cX7_lookAtAll 8 = .ok (.iaload, 1) := by decide +kernel
theorem dX7_lookAtAll_9 : decode cX7_lookAtAll 9 = .ok (.istore 4, 2) := by decide +kernel
theorem dX7_lookAtAll_11 : decode cX7_lookAtAll 11 = .ok (.iload_n 2, 1) := by decide +kernel
theorem dX7_lookAtAll_12 : decode cX7_lookAtAll 12 = .ok (.bipush 9, 2) := by decide +kernel
theorem dX7_lookAtAll_14 : decode cX7_lookAtAll 14 = .ok (.if_icmp .ne 55, 3) := by decide +kernel
theorem dX7_lookAtAll_17 : decode cX7_lookAtAll 17 = .ok (.lconst 0, 1) := by decide +kernel
theorem dX7_lookAtAll_18 : decode cX7_lookAtAll 18 = .ok (.lstore 5, 2) := by decide +kernel
theorem dX7_lookAtAll_20 : decode cX7_lookAtAll 20 = .ok (.iconst 0, 1) := by decide +kernel
theorem dX7_lookAtAll_21 : decode cX7_lookAtAll 21 = .ok (.istore 7, 2) := by decide +kernel
theorem dX7_lookAtAll_23 : decode cX7_lookAtAll 23 = .ok (.iload 7, 2) := by decide +kernel
theorem dX7_lookAtAll_25 : decode cX7_lookAtAll 25 = .ok (.iload 4, 2) := by decide +kernel
theorem dX7_lookAtAll_27 : decode cX7_lookAtAll 27 = .ok (.if_icmp .ge 33, 3) := by decide +kernel
theorem dX7_lookAtAll_30 : decode cX7_lookAtAll 30 = .ok (.lload 5, 2) := by decide +kernel
theorem dX7_lookAtAll_32 : decode cX7_lookAtAll 32 = .ok (.aload_n 0, 1) := by decide +kernel
theorem dX7_lookAtAll_33 : decode cX7_lookAtAll 33 = .ok (.getfield 23, 3) := by decide +kernel
theorem dX7_lookAtAll_36 : decode cX7_lookAtAll 36 = .ok (.aload_n 0, 1) := by decide +kernel
theorem dX7_lookAtAll_37 : decode cX7_lookAtAll 37 = .ok (.getfield 19, 3) := by decide +kernel
theorem dX7_lookAtAll_40 : decode cX7_lookAtAll 40 = .ok (.iload_n 1, 1) := by decide +kernel
theorem dX7_lookAtAll_41 : decode cX7_lookAtAll 41 = .ok (.iload 7, 2) := by decide +kernel
theorem dX7_lookAtAll_43 : decode cX7_lookAtAll 43 = .ok (.invokevirtual 118, 3) := by decide +kernel
theorem dX7_lookAtAll_46 : decode cX7_lookAtAll 46 = .ok (.iload_n 3, 1) := by decide +kernel
theorem dX7_lookAtAll_47 : decode cX7_lookAtAll 47 = .ok (.invokestatic 121, 3) := by decide +kernel
theorem dX7_lookAtAll_50 : decode cX7_lookAtAll 50 = .ok (.laload, 1) := by decide +kernel
theorem dX7_lookAtAll_51 : decode cX7_lookAtAll 51 = .ok (.ladd, 1) := by decide +kernel
theorem dX7_lookAtAll_52 : decode cX7_lookAtAll 52 = .ok (.lstore 5, 2) := by decide +kernel
theorem dX7_lookAtAll_54 : decode cX7_lookAtAll 54 = .ok (.iinc 7 1, 3) := by decide +kernel
theorem dX7_lookAtAll_57 : decode cX7_lookAtAll 57 = .ok (.goto (-34), 3) := by decide +kernel
theorem dX7_lookAtAll_60 : decode cX7_lookAtAll 60 = .ok (.aload_n 0, 1) := by decide +kernel
theorem dX7_lookAtAll_61 : decode cX7_lookAtAll 61 = .ok (.lload 5, 2) := by decide +kernel
theorem dX7_lookAtAll_63 : decode cX7_lookAtAll 63 = .ok (.invokevirtual 72, 3) := by decide +kernel
theorem dX7_lookAtAll_66 : decode cX7_lookAtAll 66 = .ok (.goto 101, 3) := by decide +kernel
theorem dX7_lookAtAll_69 : decode cX7_lookAtAll 69 = .ok (.iload 4, 2) := by decide +kernel
theorem dX7_lookAtAll_71 : decode cX7_lookAtAll 71 = .ok (.ifCond .le 96, 3) := by decide +kernel
theorem dX7_lookAtAll_74 : decode cX7_lookAtAll 74 = .ok (.aload_n 0, 1) := by decide +kernel
theorem dX7_lookAtAll_75 : decode cX7_lookAtAll 75 = .ok (.invokevirtual 80, 3) := by decide +kernel
theorem dX7_lookAtAll_78 : decode cX7_lookAtAll 78 = .ok (.pop2, 1) := by decide +kernel
theorem dX7_lookAtAll_79 : decode cX7_lookAtAll 79 = .ok (.aload_n 0, 1) := by decide +kernel
theorem dX7_lookAtAll_80 : decode cX7_lookAtAll 80 = .ok (.getfield 23, 3) := by decide +kernel
theorem dX7_lookAtAll_83 : decode cX7_lookAtAll 83 = .ok (.aload_n 0, 1) := by decide +kernel
theorem dX7_lookAtAll_84 : decode cX7_lookAtAll 84 = .ok (.getfield 19, 3) := by decide +kernel
theorem dX7_lookAtAll_87 : decode cX7_lookAtAll 87 = .ok (.iload_n 1, 1) := by decide +kernel
theorem dX7_lookAtAll_88 : decode cX7_lookAtAll 88 = .ok (.iconst 0, 1) := by decide +kernel
theorem dX7_lookAtAll_89 : decode cX7_lookAtAll 89 = .ok (.invokevirtual 118, 3) := by decide +kernel
theorem dX7_lookAtAll_92 : decode cX7_lookAtAll 92 = .ok (.iload_n 3, 1) := by decide +kernel
theorem dX7_lookAtAll_93 : decode cX7_lookAtAll 93 = .ok (.invokestatic 121, 3) := by decide +kernel
theorem dX7_lookAtAll_96 : decode cX7_lookAtAll 96 = .ok (.laload, 1) := by decide +kernel
theorem dX7_lookAtAll_97 : decode cX7_lookAtAll 97 = .ok (.lstore 5, 2) := by decide +kernel
theorem dX7_lookAtAll_99 : decode cX7_lookAtAll 99 = .ok (.iconst 1, 1) := by decide +kernel
theorem dX7_lookAtAll_100 : decode cX7_lookAtAll 100 = .ok (.istore 7, 2) := by decide +kernel
theorem dX7_lookAtAll_102 : decode cX7_lookAtAll 102 = .ok (.iload 7, 2) := by decide +kernel
theorem dX7_lookAtAll_104 : decode cX7_lookAtAll 104 = .ok (.iload 4, 2) := by decide +kernel
theorem dX7_lookAtAll_106 : decode cX7_lookAtAll 106 = .ok (.if_icmp .ge 55, 3) := by decide +kernel
theorem dX7_lookAtAll_109 : decode cX7_lookAtAll 109 = .ok (.aload_n 0, 1) := by decide +kernel
theorem dX7_lookAtAll_110 : decode cX7_lookAtAll 110 = .ok (.getfield 23, 3) := by decide +kernel
theorem dX7_lookAtAll_113 : decode cX7_lookAtAll 113 = .ok (.aload_n 0, 1) := by decide +kernel
theorem dX7_lookAtAll_114 : decode cX7_lookAtAll 114 = .ok (.getfield 19, 3) := by decide +kernel
theorem dX7_lookAtAll_117 : decode cX7_lookAtAll 117 = .ok (.iload_n 1, 1) := by decide +kernel
theorem dX7_lookAtAll_118 : decode cX7_lookAtAll 118 = .ok (.iload 7, 2) := by decide +kernel
theorem dX7_lookAtAll_120 : decode cX7_lookAtAll 120 = .ok (.invokevirtual 118, 3) := by decide +kernel
theorem dX7_lookAtAll_123 : decode cX7_lookAtAll 123 = .ok (.iload_n 3, 1) := by decide +kernel
theorem dX7_lookAtAll_124 : decode cX7_lookAtAll 124 = .ok (.invokestatic 121, 3) := by decide +kernel
theorem dX7_lookAtAll_127 : decode cX7_lookAtAll 127 = .ok (.laload, 1) := by decide +kernel
theorem dX7_lookAtAll_128 : decode cX7_lookAtAll 128 = .ok (.lstore 8, 2) := by decide +kernel
theorem dX7_lookAtAll_130 : decode cX7_lookAtAll 130 = .ok (.iload_n 2, 1) := by decide +kernel
theorem dX7_lookAtAll_131 : decode cX7_lookAtAll 131 = .ok (.bipush 10, 2) := by decide +kernel
theorem dX7_lookAtAll_133 : decode cX7_lookAtAll 133 = .ok (.if_icmp .ne 13, 3) := by decide +kernel
theorem dX7_lookAtAll_136 : decode cX7_lookAtAll 136 = .ok (.lload 5, 2) := by decide +kernel
theorem dX7_lookAtAll_138 : decode cX7_lookAtAll 138 = .ok (.lload 8, 2) := by decide +kernel
theorem dX7_lookAtAll_140 : decode cX7_lookAtAll 140 = .ok (.invokestatic 124, 3) := by decide +kernel
theorem dX7_lookAtAll_143 : decode cX7_lookAtAll 143 = .ok (.goto 10, 3) := by decide +kernel
theorem dX7_lookAtAll_146 : decode cX7_lookAtAll 146 = .ok (.lload 5, 2) := by decide +kernel
theorem dX7_lookAtAll_148 : decode cX7_lookAtAll 148 = .ok (.lload 8, 2) := by decide +kernel
theorem dX7_lookAtAll_150 : decode cX7_lookAtAll 150 = .ok (.invokestatic 130, 3) := by decide +kernel
theorem dX7_lookAtAll_153 : decode cX7_lookAtAll 153 = .ok (.lstore 5, 2) := by decide +kernel
theorem dX7_lookAtAll_155 : decode cX7_lookAtAll 155 = .ok (.iinc 7 1, 3) := by decide +kernel
theorem dX7_lookAtAll_158 : decode cX7_lookAtAll 158 = .ok (.goto (-56), 3) := by decide +kernel
theorem dX7_lookAtAll_161 : decode cX7_lookAtAll 161 = .ok (.aload_n 0, 1) := by decide +kernel
theorem dX7_lookAtAll_162 : decode cX7_lookAtAll 162 = .ok (.lload 5, 2) := by decide +kernel
theorem dX7_lookAtAll_164 : decode cX7_lookAtAll 164 = .ok (.invokevirtual 72, 3) := by decide +kernel
theorem dX7_lookAtAll_167 : decode cX7_lookAtAll 167 = .ok (.return_, 1) := by decide +kernel
theorem dX7_reckon_0 : decode cX7_reckon 0 = .ok (.aload_n 0, 1) := by decide +kernel
theorem dX7_reckon_1 : decode cX7_reckon 1 = .ok (.invokevirtual 80, 3) := by decide +kernel
theorem dX7_reckon_4 : decode cX7_reckon 4 = .ok (.lstore_n 2, 1) := by decide +kernel
theorem dX7_reckon_5 : decode cX7_reckon 5 = .ok (.iload_n 1, 1) := by decide +kernel
theorem dX7_reckon_6 : decode cX7_reckon 6 = .ok (.tableswitch 76 20 24 #[34, 42, 60, 76, 73], 34) := by decide +kernel
theorem dX7_reckon_40 : decode cX7_reckon 40 = .ok (.aload_n 0, 1) := by decide +kernel
theorem dX7_reckon_41 : decode cX7_reckon 41 = .ok (.lload_n 2, 1) := by decide +kernel
theorem dX7_reckon_42 : decode cX7_reckon 42 = .ok (.invokevirtual 133, 3) := by decide +kernel
theorem dX7_reckon_45 : decode cX7_reckon 45 = .ok (.goto 47, 3) := by decide +kernel
theorem dX7_reckon_48 : decode cX7_reckon 48 = .ok (.aload_n 0, 1) := by decide +kernel
theorem dX7_reckon_49 : decode cX7_reckon 49 = .ok (.lload_n 2, 1) := by decide +kernel
theorem dX7_reckon_50 : decode cX7_reckon 50 = .ok (.lconst 0, 1) := by decide +kernel
theorem dX7_reckon_51 : decode cX7_reckon 51 = .ok (.lcmp, 1) := by decide +kernel
theorem dX7_reckon_52 : decode cX7_reckon 52 = .ok (.ifCond .ne 7, 3) := by decide +kernel
theorem dX7_reckon_55 : decode cX7_reckon 55 = .ok (.iconst 0, 1) := by decide +kernel
theorem dX7_reckon_56 : decode cX7_reckon 56 = .ok (.goto 4, 3) := by decide +kernel
theorem dX7_reckon_59 : decode cX7_reckon 59 = .ok (.iconst 2, 1) := by decide +kernel
theorem dX7_reckon_60 : decode cX7_reckon 60 = .ok (.putfield 30, 3) := by decide +kernel
theorem dX7_reckon_63 : decode cX7_reckon 63 = .ok (.goto 29, 3) := by decide +kernel
theorem dX7_reckon_66 : decode cX7_reckon 66 = .ok (.aload_n 0, 1) := by decide +kernel
theorem dX7_reckon_67 : decode cX7_reckon 67 = .ok (.lload_n 2, 1) := by decide +kernel
theorem dX7_reckon_68 : decode cX7_reckon 68 = .ok (.invokevirtual 72, 3) := by decide +kernel
theorem dX7_reckon_71 : decode cX7_reckon 71 = .ok (.aload_n 0, 1) := by decide +kernel
theorem dX7_reckon_72 : decode cX7_reckon 72 = .ok (.lload_n 2, 1) := by decide +kernel
theorem dX7_reckon_73 : decode cX7_reckon 73 = .ok (.invokevirtual 72, 3) := by decide +kernel
theorem dX7_reckon_76 : decode cX7_reckon 76 = .ok (.goto 16, 3) := by decide +kernel
theorem dX7_reckon_79 : decode cX7_reckon 79 = .ok (.goto 13, 3) := by decide +kernel
theorem dX7_reckon_82 : decode cX7_reckon 82 = .ok (.aload_n 0, 1) := by decide +kernel
theorem dX7_reckon_83 : decode cX7_reckon 83 = .ok (.iload_n 1, 1) := by decide +kernel
theorem dX7_reckon_84 : decode cX7_reckon 84 = .ok (.aload_n 0, 1) := by decide +kernel
theorem dX7_reckon_85 : decode cX7_reckon 85 = .ok (.invokevirtual 80, 3) := by decide +kernel
theorem dX7_reckon_88 : decode cX7_reckon 88 = .ok (.lload_n 2, 1) := by decide +kernel
theorem dX7_reckon_89 : decode cX7_reckon 89 = .ok (.invokevirtual 136, 3) := by decide +kernel
theorem dX7_reckon_92 : decode cX7_reckon 92 = .ok (.return_, 1) := by decide +kernel
theorem dX7_choose_0 : decode cX7_choose 0 = .ok (.aload_n 0, 1) := by decide +kernel
theorem dX7_choose_1 : decode cX7_choose 1 = .ok (.invokevirtual 80, 3) := by decide +kernel
theorem dX7_choose_4 : decode cX7_choose 4 = .ok (.lstore_n 3, 1) := by decide +kernel
theorem dX7_choose_5 : decode cX7_choose 5 = .ok (.aload_n 0, 1) := by decide +kernel
theorem dX7_choose_6 : decode cX7_choose 6 = .ok (.aload_n 0, 1) := by decide +kernel
theorem dX7_choose_7 : decode cX7_choose 7 = .ok (.invokevirtual 80, 3) := by decide +kernel
theorem dX7_choose_10 : decode cX7_choose 10 = .ok (.lconst 0, 1) := by decide +kernel
theorem dX7_choose_11 : decode cX7_choose 11 = .ok (.lcmp, 1) := by decide +kernel
theorem dX7_choose_12 : decode cX7_choose 12 = .ok (.ifCond .le 7, 3) := by decide +kernel
theorem dX7_choose_15 : decode cX7_choose 15 = .ok (.lload_n 3, 1) := by decide +kernel
theorem dX7_choose_16 : decode cX7_choose 16 = .ok (.goto 4, 3) := by decide +kernel
theorem dX7_choose_19 : decode cX7_choose 19 = .ok (.lload_n 1, 1) := by decide +kernel
theorem dX7_choose_20 : decode cX7_choose 20 = .ok (.invokevirtual 72, 3) := by decide +kernel
theorem dX7_choose_23 : decode cX7_choose 23 = .ok (.return_, 1) := by decide +kernel
theorem dX7_join_0 : decode cX7_join 0 = .ok (.iload_n 1, 1) := by decide +kernel
theorem dX7_join_1 : decode cX7_join 1 = .ok (.tableswitch 137 14 23 #[55, 66, 77, 87, 97, 110, 137, 137, 137, 123], 55) := by decide +kernel
theorem dX7_join_56 : decode cX7_join 56 = .ok (.aload_n 0, 1) := by decide +kernel
theorem dX7_join_57 : decode cX7_join 57 = .ok (.lload_n 2, 1) := by decide +kernel
theorem dX7_join_58 : decode cX7_join 58 = .ok (.lload 4, 2) := by decide +kernel
theorem dX7_join_60 : decode cX7_join 60 = .ok (.ladd, 1) := by decide +kernel
theorem dX7_join_61 : decode cX7_join 61 = .ok (.invokevirtual 72, 3) := by decide +kernel
theorem dX7_join_64 : decode cX7_join 64 = .ok (.goto 74, 3) := by decide +kernel
theorem dX7_join_67 : decode cX7_join 67 = .ok (.aload_n 0, 1) := by decide +kernel
theorem dX7_join_68 : decode cX7_join 68 = .ok (.lload_n 2, 1) := by decide +kernel
theorem dX7_join_69 : decode cX7_join 69 = .ok (.lload 4, 2) := by decide +kernel
theorem dX7_join_71 : decode cX7_join 71 = .ok (.lsub, 1) := by decide +kernel
theorem dX7_join_72 : decode cX7_join 72 = .ok (.invokevirtual 72, 3) := by decide +kernel
theorem dX7_join_75 : decode cX7_join 75 = .ok (.goto 63, 3) := by decide +kernel
theorem dX7_join_78 : decode cX7_join 78 = .ok (.aload_n 0, 1) := by decide +kernel
theorem dX7_join_79 : decode cX7_join 79 = .ok (.lload_n 2, 1) := by decide +kernel
theorem dX7_join_80 : decode cX7_join 80 = .ok (.lload 4, 2) := by decide +kernel
theorem dX7_join_82 : decode cX7_join 82 = .ok (.invokevirtual 140, 3) := by decide +kernel
theorem dX7_join_85 : decode cX7_join 85 = .ok (.goto 53, 3) := by decide +kernel
theorem dX7_join_88 : decode cX7_join 88 = .ok (.aload_n 0, 1) := by decide +kernel
theorem dX7_join_89 : decode cX7_join 89 = .ok (.lload_n 2, 1) := by decide +kernel
theorem dX7_join_90 : decode cX7_join 90 = .ok (.lload 4, 2) := by decide +kernel
theorem dX7_join_92 : decode cX7_join 92 = .ok (.invokevirtual 144, 3) := by decide +kernel
theorem dX7_join_95 : decode cX7_join 95 = .ok (.goto 43, 3) := by decide +kernel
theorem dX7_join_98 : decode cX7_join 98 = .ok (.aload_n 0, 1) := by decide +kernel
theorem dX7_join_99 : decode cX7_join 99 = .ok (.lload_n 2, 1) := by decide +kernel
theorem dX7_join_100 : decode cX7_join 100 = .ok (.lload 4, 2) := by decide +kernel
theorem dX7_join_102 : decode cX7_join 102 = .ok (.invokestatic 130, 3) := by decide +kernel
theorem dX7_join_105 : decode cX7_join 105 = .ok (.invokevirtual 72, 3) := by decide +kernel
theorem dX7_join_108 : decode cX7_join 108 = .ok (.goto 30, 3) := by decide +kernel
theorem dX7_join_111 : decode cX7_join 111 = .ok (.aload_n 0, 1) := by decide +kernel
theorem dX7_join_112 : decode cX7_join 112 = .ok (.lload_n 2, 1) := by decide +kernel
theorem dX7_join_113 : decode cX7_join 113 = .ok (.lload 4, 2) := by decide +kernel
theorem dX7_join_115 : decode cX7_join 115 = .ok (.invokestatic 124, 3) := by decide +kernel
theorem dX7_join_118 : decode cX7_join 118 = .ok (.invokevirtual 72, 3) := by decide +kernel
theorem dX7_join_121 : decode cX7_join 121 = .ok (.goto 17, 3) := by decide +kernel
theorem dX7_join_124 : decode cX7_join 124 = .ok (.aload_n 0, 1) := by decide +kernel
theorem dX7_join_125 : decode cX7_join 125 = .ok (.lload 4, 2) := by decide +kernel
theorem dX7_join_127 : decode cX7_join 127 = .ok (.invokevirtual 72, 3) := by decide +kernel
theorem dX7_join_130 : decode cX7_join 130 = .ok (.aload_n 0, 1) := by decide +kernel
theorem dX7_join_131 : decode cX7_join 131 = .ok (.lload_n 2, 1) := by decide +kernel
theorem dX7_join_132 : decode cX7_join 132 = .ok (.invokevirtual 72, 3) := by decide +kernel
theorem dX7_join_135 : decode cX7_join 135 = .ok (.goto 3, 3) := by decide +kernel
theorem dX7_join_138 : decode cX7_join 138 = .ok (.return_, 1) := by decide +kernel
theorem dX7_times_0 : decode cX7_times 0 = .ok (.lload_n 1, 1) := by decide +kernel
theorem dX7_times_1 : decode cX7_times 1 = .ok (.lconst 0, 1) := by decide +kernel
theorem dX7_times_2 : decode cX7_times 2 = .ok (.lcmp, 1) := by decide +kernel
theorem dX7_times_3 : decode cX7_times 3 = .ok (.ifCond .eq 27, 3) := by decide +kernel
theorem dX7_times_6 : decode cX7_times 6 = .ok (.lload_n 3, 1) := by decide +kernel
theorem dX7_times_7 : decode cX7_times 7 = .ok (.invokestatic 147, 3) := by decide +kernel
theorem dX7_times_10 : decode cX7_times 10 = .ok (.ldc2_w 90, 3) := by decide +kernel
theorem dX7_times_13 : decode cX7_times 13 = .ok (.lload_n 1, 1) := by decide +kernel
theorem dX7_times_14 : decode cX7_times 14 = .ok (.invokestatic 147, 3) := by decide +kernel
theorem dX7_times_17 : decode cX7_times 17 = .ok (.ldiv, 1) := by decide +kernel
theorem dX7_times_18 : decode cX7_times 18 = .ok (.lcmp, 1) := by decide +kernel
theorem dX7_times_19 : decode cX7_times 19 = .ok (.ifCond .le 11, 3) := by decide +kernel
theorem dX7_times_22 : decode cX7_times 22 = .ok (.aload_n 0, 1) := by decide +kernel
theorem dX7_times_23 : decode cX7_times 23 = .ok (.iconst 3, 1) := by decide +kernel
theorem dX7_times_24 : decode cX7_times 24 = .ok (.putfield 30, 3) := by decide +kernel
theorem dX7_times_27 : decode cX7_times 27 = .ok (.goto 10, 3) := by decide +kernel
theorem dX7_times_30 : decode cX7_times 30 = .ok (.aload_n 0, 1) := by decide +kernel
theorem dX7_times_31 : decode cX7_times 31 = .ok (.lload_n 1, 1) := by decide +kernel
theorem dX7_times_32 : decode cX7_times 32 = .ok (.lload_n 3, 1) := by decide +kernel
theorem dX7_times_33 : decode cX7_times 33 = .ok (.lmul, 1) := by decide +kernel
theorem dX7_times_34 : decode cX7_times 34 = .ok (.invokevirtual 72, 3) := by decide +kernel
theorem dX7_times_37 : decode cX7_times 37 = .ok (.return_, 1) := by decide +kernel
theorem dX7_by_0 : decode cX7_by 0 = .ok (.lload_n 3, 1) := by decide +kernel
theorem dX7_by_1 : decode cX7_by 1 = .ok (.lconst 0, 1) := by decide +kernel
theorem dX7_by_2 : decode cX7_by 2 = .ok (.lcmp, 1) := by decide +kernel
theorem dX7_by_3 : decode cX7_by 3 = .ok (.ifCond .ne 11, 3) := by decide +kernel
theorem dX7_by_6 : decode cX7_by 6 = .ok (.aload_n 0, 1) := by decide +kernel
theorem dX7_by_7 : decode cX7_by 7 = .ok (.iconst 1, 1) := by decide +kernel
theorem dX7_by_8 : decode cX7_by 8 = .ok (.putfield 30, 3) := by decide +kernel
theorem dX7_by_11 : decode cX7_by 11 = .ok (.goto 10, 3) := by decide +kernel
theorem dX7_by_14 : decode cX7_by 14 = .ok (.aload_n 0, 1) := by decide +kernel
theorem dX7_by_15 : decode cX7_by 15 = .ok (.lload_n 1, 1) := by decide +kernel
theorem dX7_by_16 : decode cX7_by 16 = .ok (.lload_n 3, 1) := by decide +kernel
theorem dX7_by_17 : decode cX7_by 17 = .ok (.ldiv, 1) := by decide +kernel
theorem dX7_by_18 : decode cX7_by 18 = .ok (.invokevirtual 72, 3) := by decide +kernel
theorem dX7_by_21 : decode cX7_by 21 = .ok (.return_, 1) := by decide +kernel
theorem dX8_init_0 : decode cX8_init 0 = .ok (.aload_n 0, 1) := by decide +kernel
theorem dX8_init_1 : decode cX8_init 1 = .ok (.invokespecial 1, 3) := by decide +kernel
theorem dX8_init_4 : decode cX8_init 4 = .ok (.aload_n 0, 1) := by decide +kernel
theorem dX8_init_5 : decode cX8_init 5 = .ok (.new 7, 3) := by decide +kernel
theorem dX8_init_8 : decode cX8_init 8 = .ok (.dup, 1) := by decide +kernel
theorem dX8_init_9 : decode cX8_init 9 = .ok (.invokespecial 9, 3) := by decide +kernel
theorem dX8_init_12 : decode cX8_init 12 = .ok (.putfield 10, 3) := by decide +kernel
theorem dX8_init_15 : decode cX8_init 15 = .ok (.aload_n 0, 1) := by decide +kernel
theorem dX8_init_16 : decode cX8_init 16 = .ok (.new 16, 3) := by decide +kernel
theorem dX8_init_19 : decode cX8_init 19 = .ok (.dup, 1) := by decide +kernel
theorem dX8_init_20 : decode cX8_init 20 = .ok (.invokespecial 18, 3) := by decide +kernel
theorem dX8_init_23 : decode cX8_init 23 = .ok (.putfield 19, 3) := by decide +kernel
theorem dX8_init_26 : decode cX8_init 26 = .ok (.aload_n 0, 1) := by decide +kernel
theorem dX8_init_27 : decode cX8_init 27 = .ok (.new 16, 3) := by decide +kernel
theorem dX8_init_30 : decode cX8_init 30 = .ok (.dup, 1) := by decide +kernel
theorem dX8_init_31 : decode cX8_init 31 = .ok (.invokespecial 18, 3) := by decide +kernel
theorem dX8_init_34 : decode cX8_init 34 = .ok (.putfield 23, 3) := by decide +kernel
theorem dX8_init_37 : decode cX8_init 37 = .ok (.aload_n 0, 1) := by decide +kernel
theorem dX8_init_38 : decode cX8_init 38 = .ok (.sipush 258, 3) := by decide +kernel
theorem dX8_init_41 : decode cX8_init 41 = .ok (.newarray .long, 2) := by decide +kernel
theorem dX8_init_43 : decode cX8_init 43 = .ok (.putfield 26, 3) := by decide +kernel
theorem dX8_init_46 : decode cX8_init 46 = .ok (.aload_n 0, 1) := by decide +kernel
theorem dX8_init_47 : decode cX8_init 47 = .ok (.new 30, 3) := by decide +kernel
theorem dX8_init_50 : decode cX8_init 50 = .ok (.dup, 1) := by decide +kernel
theorem dX8_init_51 : decode cX8_init 51 = .ok (.invokespecial 32, 3) := by decide +kernel
theorem dX8_init_54 : decode cX8_init 54 = .ok (.putfield 33, 3) := by decide +kernel
theorem dX8_init_57 : decode cX8_init 57 = .ok (.aload_n 0, 1) := by decide +kernel
theorem dX8_init_58 : decode cX8_init 58 = .ok (.new 30, 3) := by decide +kernel
theorem dX8_init_61 : decode cX8_init 61 = .ok (.dup, 1) := by decide +kernel
theorem dX8_init_62 : decode cX8_init 62 = .ok (.invokespecial 32, 3) := by decide +kernel
theorem dX8_init_65 : decode cX8_init 65 = .ok (.putfield 37, 3) := by decide +kernel
theorem dX8_init_68 : decode cX8_init 68 = .ok (.aload_n 0, 1) := by decide +kernel
theorem dX8_init_69 : decode cX8_init 69 = .ok (.new 40, 3) := by decide +kernel
theorem dX8_init_72 : decode cX8_init 72 = .ok (.dup, 1) := by decide +kernel
theorem dX8_init_73 : decode cX8_init 73 = .ok (.aload_n 0, 1) := by decide +kernel
theorem dX8_init_74 : decode cX8_init 74 = .ok (.getfield 10, 3) := by decide +kernel
theorem dX8_init_77 : decode cX8_init 77 = .ok (.aload_n 0, 1) := by decide +kernel
theorem dX8_init_78 : decode cX8_init 78 = .ok (.getfield 23, 3) := by decide +kernel
theorem dX8_init_81 : decode cX8_init 81 = .ok (.aload_n 0, 1) := by decide +kernel
theorem dX8_init_82 : decode cX8_init 82 = .ok (.getfield 26, 3) := by decide +kernel
theorem dX8_init_85 : decode cX8_init 85 = .ok (.invokespecial 42, 3) := by decide +kernel
theorem dX8_init_88 : decode cX8_init 88 = .ok (.putfield 45, 3) := by decide +kernel
theorem dX8_init_91 : decode cX8_init 91 = .ok (.aload_n 0, 1) := by decide +kernel
theorem dX8_init_92 : decode cX8_init 92 = .ok (.new 49, 3) := by decide +kernel
theorem dX8_init_95 : decode cX8_init 95 = .ok (.dup, 1) := by decide +kernel
theorem dX8_init_96 : decode cX8_init 96 = .ok (.invokespecial 51, 3) := by decide +kernel
theorem dX8_init_99 : decode cX8_init 99 = .ok (.putfield 52, 3) := by decide +kernel
theorem dX8_init_102 : decode cX8_init 102 = .ok (.return_, 1) := by decide +kernel
theorem dX8_thing_0 : decode cX8_thing 0 = .ok (.aload_n 0, 1) := by decide +kernel
theorem dX8_thing_1 : decode cX8_thing 1 = .ok (.invokevirtual 56, 3) := by decide +kernel
theorem dX8_thing_4 : decode cX8_thing 4 = .ok (.aload_n 0, 1) := by decide +kernel
theorem dX8_thing_5 : decode cX8_thing 5 = .ok (.getfield 10, 3) := by decide +kernel
theorem dX8_thing_8 : decode cX8_thing 8 = .ok (.getfield 59, 3) := by decide +kernel
theorem dX8_thing_11 : decode cX8_thing 11 = .ok (.bipush 40, 2) := by decide +kernel
theorem dX8_thing_13 : decode cX8_thing 13 = .ok (.if_icmp .lt 13, 3) := by decide +kernel
theorem dX8_thing_16 : decode cX8_thing 16 = .ok (.new 63, 3) := by decide +kernel
theorem dX8_thing_19 : decode cX8_thing 19 = .ok (.dup, 1) := by decide +kernel
theorem dX8_thing_20 : decode cX8_thing 20 = .ok (.ldc 65, 2) := by decide +kernel
theorem dX8_thing_22 : decode cX8_thing 22 = .ok (.invokespecial 67, 3) := by decide +kernel
theorem dX8_thing_25 : decode cX8_thing 25 = .ok (.athrow, 1) := by decide +kernel
theorem dX8_thing_26 : decode cX8_thing 26 = .ok (.aload_n 0, 1) := by decide +kernel
theorem dX8_thing_27 : decode cX8_thing 27 = .ok (.getfield 10, 3) := by decide +kernel
theorem dX8_thing_30 : decode cX8_thing 30 = .ok (.getfield 59, 3) := by decide +kernel
theorem dX8_thing_33 : decode cX8_thing 33 = .ok (.istore 5, 2) := by decide +kernel
theorem dX8_thing_35 : decode cX8_thing 35 = .ok (.aload_n 0, 1) := by decide +kernel
theorem dX8_thing_36 : decode cX8_thing 36 = .ok (.getfield 10, 3) := by decide +kernel
theorem dX8_thing_39 : decode cX8_thing 39 = .ok (.dup, 1) := by decide +kernel
theorem dX8_thing_40 : decode cX8_thing 40 = .ok (.getfield 59, 3) := by decide +kernel
theorem dX8_thing_43 : decode cX8_thing 43 = .ok (.iconst 1, 1) := by decide +kernel
theorem dX8_thing_44 : decode cX8_thing 44 = .ok (.iadd, 1) := by decide +kernel
theorem dX8_thing_45 : decode cX8_thing 45 = .ok (.putfield 59, 3) := by decide +kernel
theorem dX8_thing_48 : decode cX8_thing 48 = .ok (.aload_n 0, 1) := by decide +kernel
theorem dX8_thing_49 : decode cX8_thing 49 = .ok (.getfield 19, 3) := by decide +kernel
theorem dX8_thing_52 : decode cX8_thing 52 = .ok (.iload 5, 2) := by decide +kernel
theorem dX8_thing_54 : decode cX8_thing 54 = .ok (.iload_n 1, 1) := by decide +kernel
theorem dX8_thing_55 : decode cX8_thing 55 = .ok (.iload_n 2, 1) := by decide +kernel
theorem dX8_thing_56 : decode cX8_thing 56 = .ok (.iload_n 3, 1) := by decide +kernel
theorem dX8_thing_57 : decode cX8_thing 57 = .ok (.iload 4, 2) := by decide +kernel
theorem dX8_thing_59 : decode cX8_thing 59 = .ok (.invokevirtual 70, 3) := by decide +kernel
theorem dX8_thing_62 : decode cX8_thing 62 = .ok (.aload_n 0, 1) := by decide +kernel
theorem dX8_thing_63 : decode cX8_thing 63 = .ok (.getfield 23, 3) := by decide +kernel
theorem dX8_thing_66 : decode cX8_thing 66 = .ok (.iload 5, 2) := by decide +kernel
theorem dX8_thing_68 : decode cX8_thing 68 = .ok (.iload_n 1, 1) := by decide +kernel
theorem dX8_thing_69 : decode cX8_thing 69 = .ok (.iload_n 2, 1) := by decide +kernel
theorem dX8_thing_70 : decode cX8_thing 70 = .ok (.iload_n 3, 1) := by decide +kernel
theorem dX8_thing_71 : decode cX8_thing 71 = .ok (.iload 4, 2) := by decide +kernel
theorem dX8_thing_73 : decode cX8_thing 73 = .ok (.invokevirtual 70, 3) := by decide +kernel
theorem dX8_thing_76 : decode cX8_thing 76 = .ok (.iload 5, 2) := by decide +kernel
theorem dX8_thing_78 : decode cX8_thing 78 = .ok (.ireturn, 1) := by decide +kernel
theorem dX8_list_0 : decode cX8_list 0 = .ok (.aload_n 0, 1) := by decide +kernel
theorem dX8_list_1 : decode cX8_list 1 = .ok (.invokevirtual 56, 3) := by decide +kernel
theorem dX8_list_4 : decode cX8_list 4 = .ok (.aload_n 0, 1) := by decide +kernel
theorem dX8_list_5 : decode cX8_list 5 = .ok (.getfield 10, 3) := by decide +kernel
theorem dX8_list_8 : decode cX8_list 8 = .ok (.getfield 74, 3) := by decide +kernel
theorem dX8_list_11 : decode cX8_list 11 = .ok (.bipush 6, 2) := by decide +kernel
theorem dX8_list_13 : decode cX8_list 13 = .ok (.if_icmp .lt 13, 3) := by decide +kernel
theorem dX8_list_16 : decode cX8_list 16 = .ok (.new 63, 3) := by decide +kernel
theorem dX8_list_19 : decode cX8_list 19 = .ok (.dup, 1) := by decide +kernel
theorem dX8_list_20 : decode cX8_list 20 = .ok (.ldc 77, 2) := by decide +kernel
theorem dX8_list_22 : decode cX8_list 22 = .ok (.invokespecial 67, 3) := by decide +kernel
theorem dX8_list_25 : decode cX8_list 25 = .ok (.athrow, 1) := by decide +kernel
theorem dX8_list_26 : decode cX8_list 26 = .ok (.aload_n 0, 1) := by decide +kernel
theorem dX8_list_27 : decode cX8_list 27 = .ok (.getfield 10, 3) := by decide +kernel
theorem dX8_list_30 : decode cX8_list 30 = .ok (.getfield 74, 3) := by decide +kernel
theorem dX8_list_33 : decode cX8_list 33 = .ok (.istore_n 3, 1) := by decide +kernel
theorem dX8_list_34 : decode cX8_list 34 = .ok (.aload_n 0, 1) := by decide +kernel
theorem dX8_list_35 : decode cX8_list 35 = .ok (.getfield 10, 3) := by decide +kernel
theorem dX8_list_38 : decode cX8_list 38 = .ok (.dup, 1) := by decide +kernel
theorem dX8_list_39 : decode cX8_list 39 = .ok (.getfield 74, 3) := by decide +kernel
theorem dX8_list_42 : decode cX8_list 42 = .ok (.iconst 1, 1) := by decide +kernel
theorem dX8_list_43 : decode cX8_list 43 = .ok (.iadd, 1) := by decide +kernel
theorem dX8_list_44 : decode cX8_list 44 = .ok (.putfield 74, 3) := by decide +kernel
theorem dX8_list_47 : decode cX8_list 47 = .ok (.aload_n 0, 1) := by decide +kernel
theorem dX8_list_48 : decode cX8_list 48 = .ok (.getfield 19, 3) := by decide +kernel
theorem dX8_list_51 : decode cX8_list 51 = .ok (.iload_n 3, 1) := by decide +kernel
theorem dX8_list_52 : decode cX8_list 52 = .ok (.iload_n 1, 1) := by decide +kernel
theorem dX8_list_53 : decode cX8_list 53 = .ok (.iload_n 2, 1) := by decide +kernel
theorem dX8_list_54 : decode cX8_list 54 = .ok (.invokevirtual 79, 3) := by decide +kernel
theorem dX8_list_57 : decode cX8_list 57 = .ok (.aload_n 0, 1) := by decide +kernel
theorem dX8_list_58 : decode cX8_list 58 = .ok (.getfield 23, 3) := by decide +kernel
theorem dX8_list_61 : decode cX8_list 61 = .ok (.iload_n 3, 1) := by decide +kernel
theorem dX8_list_62 : decode cX8_list 62 = .ok (.iload_n 1, 1) := by decide +kernel
theorem dX8_list_63 : decode cX8_list 63 = .ok (.iload_n 2, 1) := by decide +kernel
theorem dX8_list_64 : decode cX8_list 64 = .ok (.invokevirtual 79, 3) := by decide +kernel
theorem dX8_list_67 : decode cX8_list 67 = .ok (.iload_n 3, 1) := by decide +kernel
theorem dX8_list_68 : decode cX8_list 68 = .ok (.ireturn, 1) := by decide +kernel
theorem dX8_step_0 : decode cX8_step 0 = .ok (.aload_n 0, 1) := by decide +kernel
theorem dX8_step_1 : decode cX8_step 1 = .ok (.invokevirtual 56, 3) := by decide +kernel
theorem dX8_step_4 : decode cX8_step 4 = .ok (.aload_n 0, 1) := by decide +kernel
theorem dX8_step_5 : decode cX8_step 5 = .ok (.getfield 10, 3) := by decide +kernel
theorem dX8_step_8 : decode cX8_step 8 = .ok (.getfield 83, 3) := by decide +kernel
theorem dX8_step_11 : decode cX8_step 11 = .ok (.bipush 24, 2) := by decide +kernel
theorem dX8_step_13 : decode cX8_step 13 = .ok (.if_icmp .lt 13, 3) := by decide +kernel
theorem dX8_step_16 : decode cX8_step 16 = .ok (.new 63, 3) := by decide +kernel
theorem dX8_step_19 : decode cX8_step 19 = .ok (.dup, 1) := by decide +kernel
theorem dX8_step_20 : decode cX8_step 20 = .ok (.ldc 86, 2) := by decide +kernel
theorem dX8_step_22 : decode cX8_step 22 = .ok (.invokespecial 67, 3) := by decide +kernel
theorem dX8_step_25 : decode cX8_step 25 = .ok (.athrow, 1) := by decide +kernel
theorem dX8_step_26 : decode cX8_step 26 = .ok (.aload_n 0, 1) := by decide +kernel
theorem dX8_step_27 : decode cX8_step 27 = .ok (.getfield 10, 3) := by decide +kernel
theorem dX8_step_30 : decode cX8_step 30 = .ok (.iload_n 1, 1) := by decide +kernel
theorem dX8_step_31 : decode cX8_step 31 = .ok (.iload_n 2, 1) := by decide +kernel
theorem dX8_step_32 : decode cX8_step 32 = .ok (.invokevirtual 88, 3) := by decide +kernel
theorem dX8_step_35 : decode cX8_step 35 = .ok (.ireturn, 1) := by decide +kernel
theorem dX8_maker_0 : decode cX8_maker 0 = .ok (.aload_n 0, 1) := by decide +kernel
theorem dX8_maker_1 : decode cX8_maker 1 = .ok (.invokevirtual 56, 3) := by decide +kernel
theorem dX8_maker_4 : decode cX8_maker 4 = .ok (.iload_n 1, 1) := by decide +kernel
theorem dX8_maker_5 : decode cX8_maker 5 = .ok (.ifCond .lt 13, 3) := by decide +kernel
theorem dX8_maker_8 : decode cX8_maker 8 = .ok (.iload_n 1, 1) := by decide +kernel
theorem dX8_maker_9 : decode cX8_maker 9 = .ok (.bipush 9, 2) := by decide +kernel
theorem dX8_maker_11 : decode cX8_maker 11 = .ok (.if_icmp .ge 7, 3) := by decide +kernel
theorem dX8_maker_14 : decode cX8_maker 14 = .ok (.iconst 1, 1) := by decide +kernel
theorem dX8_maker_15 : decode cX8_maker 15 = .ok (.goto 4, 3) := by decide +kernel
theorem dX8_maker_18 : decode cX8_maker 18 = .ok (.iconst 0, 1) := by decide +kernel
theorem dX8_maker_19 : decode cX8_maker 19 = .ok (.invokestatic 92, 3) := by decide +kernel
theorem dX8_maker_22 : decode cX8_maker 22 = .ok (.aload_n 0, 1) := by decide +kernel
theorem dX8_maker_23 : decode cX8_maker 23 = .ok (.getfield 10, 3) := by decide +kernel
theorem dX8_maker_26 : decode cX8_maker 26 = .ok (.iload_n 1, 1) := by decide +kernel
theorem dX8_maker_27 : decode cX8_maker 27 = .ok (.invokevirtual 96, 3) := by decide +kernel
theorem dX8_maker_30 : decode cX8_maker 30 = .ok (.ireturn, 1) := by decide +kernel
theorem dX8_open_0 : decode cX8_open 0 = .ok (.aload_n 0, 1) := by decide +kernel
theorem dX8_open_1 : decode cX8_open 1 = .ok (.invokevirtual 56, 3) := by decide +kernel
theorem dX8_open_4 : decode cX8_open 4 = .ok (.aload_n 0, 1) := by decide +kernel
theorem dX8_open_5 : decode cX8_open 5 = .ok (.getfield 45, 3) := by decide +kernel
theorem dX8_open_8 : decode cX8_open 8 = .ok (.aload_n 0, 1) := by decide +kernel
theorem dX8_open_9 : decode cX8_open 9 = .ok (.getfield 23, 3) := by decide +kernel
theorem dX8_open_12 : decode cX8_open 12 = .ok (.aload_n 0, 1) := by decide +kernel
theorem dX8_open_13 : decode cX8_open 13 = .ok (.getfield 19, 3) := by decide +kernel
theorem dX8_open_16 : decode cX8_open 16 = .ok (.aload_n 0, 1) := by decide +kernel
theorem dX8_open_17 : decode cX8_open 17 = .ok (.getfield 26, 3) := by decide +kernel
theorem dX8_open_20 : decode cX8_open 20 = .ok (.iconst 1, 1) := by decide +kernel
theorem dX8_open_21 : decode cX8_open 21 = .ok (.invokevirtual 100, 3) := by decide +kernel
theorem dX8_open_24 : decode cX8_open 24 = .ok (.istore_n 1, 1) := by decide +kernel
theorem dX8_open_25 : decode cX8_open 25 = .ok (.iload_n 1, 1) := by decide +kernel
theorem dX8_open_26 : decode cX8_open 26 = .ok (.ifCond .ge 15, 3) := by decide +kernel
theorem dX8_open_29 : decode cX8_open 29 = .ok (.aload_n 0, 1) := by decide +kernel
theorem dX8_open_30 : decode cX8_open 30 = .ok (.dup, 1) := by decide +kernel
theorem dX8_open_31 : decode cX8_open 31 = .ok (.getfield 104, 3) := by decide +kernel
theorem dX8_open_34 : decode cX8_open 34 = .ok (.iconst 1, 1) := by decide +kernel
theorem dX8_open_35 : decode cX8_open 35 = .ok (.iadd, 1) := by decide +kernel
theorem dX8_open_36 : decode cX8_open 36 = .ok (.putfield 104, 3) := by decide +kernel
theorem dX8_open_39 : decode cX8_open 39 = .ok (.iload_n 1, 1) := by decide +kernel
theorem dX8_open_40 : decode cX8_open 40 = .ok (.ireturn, 1) := by decide +kernel
theorem dX8_open_41 : decode cX8_open 41 = .ok (.aload_n 0, 1) := by decide +kernel
theorem dX8_open_42 : decode cX8_open 42 = .ok (.iconst 1, 1) := by decide +kernel
theorem dX8_open_43 : decode cX8_open 43 = .ok (.putfield 107, 3) := by decide +kernel
theorem dX8_open_46 : decode cX8_open 46 = .ok (.aload_n 0, 1) := by decide +kernel
theorem dX8_open_47 : decode cX8_open 47 = .ok (.invokevirtual 111, 3) := by decide +kernel
theorem dX8_open_50 : decode cX8_open 50 = .ok (.iload_n 1, 1) := by decide +kernel
theorem dX8_open_51 : decode cX8_open 51 = .ok (.ireturn, 1) := by decide +kernel
theorem dX8_place_0 : decode cX8_place 0 = .ok (.aload_n 0, 1) := by decide +kernel
theorem dX8_place_1 : decode cX8_place 1 = .ok (.iload_n 1, 1) := by decide +kernel
theorem dX8_place_2 : decode cX8_place 2 = .ok (.invokevirtual 114, 3) := by decide +kernel
theorem dX8_place_5 : decode cX8_place 5 = .ok (.aload_n 0, 1) := by decide +kernel
theorem dX8_place_6 : decode cX8_place 6 = .ok (.iload_n 2, 1) := by decide +kernel
theorem dX8_place_7 : decode cX8_place 7 = .ok (.invokevirtual 118, 3) := by decide +kernel
theorem dX8_place_10 : decode cX8_place 10 = .ok (.aload_n 0, 1) := by decide +kernel
theorem dX8_place_11 : decode cX8_place 11 = .ok (.invokevirtual 121, 3) := by decide +kernel
theorem dX8_place_14 : decode cX8_place 14 = .ok (.iload_n 3, 1) := by decide +kernel
theorem dX8_place_15 : decode cX8_place 15 = .ok (.ifCond .lt 20, 3) := by decide +kernel
theorem dX8_place_18 : decode cX8_place 18 = .ok (.iload_n 3, 1) := by decide +kernel
theorem dX8_place_19 : decode cX8_place 19 = .ok (.aload_n 0, 1) := by decide +kernel
theorem dX8_place_20 : decode cX8_place 20 = .ok (.getfield 19, 3) := by decide +kernel
theorem dX8_place_23 : decode cX8_place 23 = .ok (.getfield 124, 3) := by decide +kernel
theorem dX8_place_26 : decode cX8_place 26 = .ok (.iload_n 2, 1) := by decide +kernel
theorem dX8_place_27 : decode cX8_place 27 = .ok (.iaload, 1) := by decide +kernel
theorem dX8_place_28 : decode cX8_place 28 = .ok (.if_icmp .gt 7, 3) := by decide +kernel
theorem dX8_place_31 : decode cX8_place 31 = .ok (.iconst 1, 1) := by decide +kernel
theorem dX8_place_32 : decode cX8_place 32 = .ok (.goto 4, 3) := by decide +kernel
theorem dX8_place_35 : decode cX8_place 35 = .ok (.iconst 0, 1) := by decide +kernel
theorem dX8_place_36 : decode cX8_place 36 = .ok (.invokestatic 92, 3) := by decide +kernel
theorem dX8_place_39 : decode cX8_place 39 = .ok (.aload_n 0, 1) := by decide +kernel
theorem dX8_place_40 : decode cX8_place 40 = .ok (.getfield 19, 3) := by decide +kernel
theorem dX8_place_43 : decode cX8_place 43 = .ok (.getfield 128, 3) := by decide +kernel
theorem dX8_place_46 : decode cX8_place 46 = .ok (.iload_n 1, 1) := by decide +kernel
theorem dX8_place_47 : decode cX8_place 47 = .ok (.iaload, 1) := by decide +kernel
theorem dX8_place_48 : decode cX8_place 48 = .ok (.iconst (-1), 1) := by decide +kernel
theorem dX8_place_49 : decode cX8_place 49 = .ok (.if_icmp .eq 6, 3) := by decide +kernel
theorem dX8_place_52 : decode cX8_place 52 = .ok (.bipush (-4), 2) := by decide +kernel
theorem dX8_place_54 : decode cX8_place 54 = .ok (.ireturn, 1) := by decide +kernel
theorem dX8_place_55 : decode cX8_place 55 = .ok (.iload_n 3, 1) := by decide +kernel
theorem dX8_place_56 : decode cX8_place 56 = .ok (.aload_n 0, 1) := by decide +kernel
theorem dX8_place_57 : decode cX8_place 57 = .ok (.getfield 19, 3) := by decide +kernel
theorem dX8_place_60 : decode cX8_place 60 = .ok (.getfield 131, 3) := by decide +kernel
theorem dX8_place_63 : decode cX8_place 63 = .ok (.iload_n 2, 1) := by decide +kernel
theorem dX8_place_64 : decode cX8_place 64 = .ok (.iaload, 1) := by decide +kernel
theorem dX8_place_65 : decode cX8_place 65 = .ok (.if_icmp .ge 6, 3) := by decide +kernel
theorem dX8_place_68 : decode cX8_place 68 = .ok (.bipush (-3), 2) := by decide +kernel
theorem dX8_place_70 : decode cX8_place 70 = .ok (.ireturn, 1) := by decide +kernel
theorem dX8_place_71 : decode cX8_place 71 = .ok (.aload_n 0, 1) := by decide +kernel
theorem dX8_place_72 : decode cX8_place 72 = .ok (.getfield 19, 3) := by decide +kernel
theorem dX8_place_75 : decode cX8_place 75 = .ok (.iload_n 1, 1) := by decide +kernel
theorem dX8_place_76 : decode cX8_place 76 = .ok (.iload_n 2, 1) := by decide +kernel
theorem dX8_place_77 : decode cX8_place 77 = .ok (.iload_n 3, 1) := by decide +kernel
theorem dX8_place_78 : decode cX8_place 78 = .ok (.invokevirtual 134, 3) := by decide +kernel
theorem dX8_place_81 : decode cX8_place 81 = .ok (.aload_n 0, 1) := by decide +kernel
theorem dX8_place_82 : decode cX8_place 82 = .ok (.invokevirtual 137, 3) := by decide +kernel
theorem dX8_place_85 : decode cX8_place 85 = .ok (.ireturn, 1) := by decide +kernel
theorem dX8_take_0 : decode cX8_take 0 = .ok (.aload_n 0, 1) := by decide +kernel
theorem dX8_take_1 : decode cX8_take 1 = .ok (.iload_n 1, 1) := by decide +kernel
theorem dX8_take_2 : decode cX8_take 2 = .ok (.invokevirtual 114, 3) := by decide +kernel
theorem dX8_take_5 : decode cX8_take 5 = .ok (.aload_n 0, 1) := by decide +kernel
theorem dX8_take_6 : decode cX8_take 6 = .ok (.invokevirtual 121, 3) := by decide +kernel
theorem dX8_take_9 : decode cX8_take 9 = .ok (.aload_n 0, 1) := by decide +kernel
theorem dX8_take_10 : decode cX8_take 10 = .ok (.getfield 19, 3) := by decide +kernel
theorem dX8_take_13 : decode cX8_take 13 = .ok (.getfield 128, 3) := by decide +kernel
theorem dX8_take_16 : decode cX8_take 16 = .ok (.iload_n 1, 1) := by decide +kernel
theorem dX8_take_17 : decode cX8_take 17 = .ok (.iaload, 1) := by decide +kernel
theorem dX8_take_18 : decode cX8_take 18 = .ok (.iconst (-1), 1) := by decide +kernel
theorem dX8_take_19 : decode cX8_take 19 = .ok (.if_icmp .ne 6, 3) := by decide +kernel
theorem dX8_take_22 : decode cX8_take 22 = .ok (.bipush (-4), 2) := by decide +kernel
theorem dX8_take_24 : decode cX8_take 24 = .ok (.ireturn, 1) := by decide +kernel
theorem dX8_take_25 : decode cX8_take 25 = .ok (.aload_n 0, 1) := by decide +kernel
theorem dX8_take_26 : decode cX8_take 26 = .ok (.getfield 19, 3) := by decide +kernel
theorem dX8_take_29 : decode cX8_take 29 = .ok (.iload_n 1, 1) := by decide +kernel
theorem dX8_take_30 : decode cX8_take 30 = .ok (.invokevirtual 141, 3) := by decide +kernel
theorem dX8_take_33 : decode cX8_take 33 = .ok (.ifCond .eq 6, 3) := by decide +kernel
theorem dX8_take_36 : decode cX8_take 36 = .ok (.bipush (-3), 2) := by decide +kernel
theorem dX8_take_38 : decode cX8_take 38 = .ok (.ireturn, 1) := by decide +kernel
theorem dX8_take_39 : decode cX8_take 39 = .ok (.aload_n 0, 1) := by decide +kernel
theorem dX8_take_40 : decode cX8_take 40 = .ok (.getfield 19, 3) := by decide +kernel
theorem dX8_take_43 : decode cX8_take 43 = .ok (.iload_n 1, 1) := by decide +kernel
theorem dX8_take_44 : decode cX8_take 44 = .ok (.invokevirtual 145, 3) := by decide +kernel
theorem dX8_take_47 : decode cX8_take 47 = .ok (.aload_n 0, 1) := by decide +kernel
theorem dX8_take_48 : decode cX8_take 48 = .ok (.invokevirtual 137, 3) := by decide +kernel
theorem dX8_take_51 : decode cX8_take 51 = .ok (.ireturn, 1) := by decide +kernel
theorem dX8_move_0 : decode cX8_move 0 = .ok (.aload_n 0, 1) := by decide +kernel
theorem dX8_move_1 : decode cX8_move 1 = .ok (.iload_n 1, 1) := by decide +kernel
theorem dX8_move_2 : decode cX8_move 2 = .ok (.invokevirtual 114, 3) := by decide +kernel
theorem dX8_move_5 : decode cX8_move 5 = .ok (.aload_n 0, 1) := by decide +kernel
theorem dX8_move_6 : decode cX8_move 6 = .ok (.iload_n 2, 1) := by decide +kernel
theorem dX8_move_7 : decode cX8_move 7 = .ok (.invokevirtual 118, 3) := by decide +kernel
theorem dX8_move_10 : decode cX8_move 10 = .ok (.aload_n 0, 1) := by decide +kernel
theorem dX8_move_11 : decode cX8_move 11 = .ok (.invokevirtual 121, 3) := by decide +kernel
theorem dX8_move_14 : decode cX8_move 14 = .ok (.aload_n 0, 1) := by decide +kernel
theorem dX8_move_15 : decode cX8_move 15 = .ok (.getfield 19, 3) := by decide +kernel
theorem dX8_move_18 : decode cX8_move 18 = .ok (.getfield 128, 3) := by decide +kernel
theorem dX8_move_21 : decode cX8_move 21 = .ok (.iload_n 1, 1) := by decide +kernel
theorem dX8_move_22 : decode cX8_move 22 = .ok (.iaload, 1) := by decide +kernel
theorem dX8_move_23 : decode cX8_move 23 = .ok (.iload_n 2, 1) := by decide +kernel
theorem dX8_move_24 : decode cX8_move 24 = .ok (.if_icmp .ne 7, 3) := by decide +kernel
theorem dX8_move_27 : decode cX8_move 27 = .ok (.iconst 1, 1) := by decide +kernel
theorem dX8_move_28 : decode cX8_move 28 = .ok (.goto 4, 3) := by decide +kernel
theorem dX8_move_31 : decode cX8_move 31 = .ok (.iconst 0, 1) := by decide +kernel
theorem dX8_move_32 : decode cX8_move 32 = .ok (.istore 4, 2) := by decide +kernel
theorem dX8_move_34 : decode cX8_move 34 = .ok (.iload_n 3, 1) := by decide +kernel
theorem dX8_move_35 : decode cX8_move 35 = .ok (.ifCond .lt 31, 3) := by decide +kernel
theorem dX8_move_38 : decode cX8_move 38 = .ok (.iload_n 3, 1) := by decide +kernel
theorem dX8_move_39 : decode cX8_move 39 = .ok (.aload_n 0, 1) := by decide +kernel
theorem dX8_move_40 : decode cX8_move 40 = .ok (.getfield 19, 3) := by decide +kernel
theorem dX8_move_43 : decode cX8_move 43 = .ok (.getfield 124, 3) := by decide +kernel
theorem dX8_move_46 : decode cX8_move 46 = .ok (.iload_n 2, 1) := by decide +kernel
theorem dX8_move_47 : decode cX8_move 47 = .ok (.iaload, 1) := by decide +kernel
theorem dX8_move_48 : decode cX8_move 48 = .ok (.iload 4, 2) := by decide +kernel
theorem dX8_move_50 : decode cX8_move 50 = .ok (.ifCond .eq 7, 3) := by decide +kernel
theorem dX8_move_53 : decode cX8_move 53 = .ok (.iconst 1, 1) := by decide +kernel
theorem dX8_move_54 : decode cX8_move 54 = .ok (.goto 4, 3) := by decide +kernel
theorem dX8_move_57 : decode cX8_move 57 = .ok (.iconst 0, 1) := by decide +kernel
theorem dX8_move_58 : decode cX8_move 58 = .ok (.isub, 1) := by decide +kernel
theorem dX8_move_59 : decode cX8_move 59 = .ok (.if_icmp .gt 7, 3) := by decide +kernel
theorem dX8_move_62 : decode cX8_move 62 = .ok (.iconst 1, 1) := by decide +kernel
theorem dX8_move_63 : decode cX8_move 63 = .ok (.goto 4, 3) := by decide +kernel
theorem dX8_move_66 : decode cX8_move 66 = .ok (.iconst 0, 1) := by decide +kernel
theorem dX8_move_67 : decode cX8_move 67 = .ok (.invokestatic 92, 3) := by decide +kernel
theorem dX8_move_70 : decode cX8_move 70 = .ok (.aload_n 0, 1) := by decide +kernel
theorem dX8_move_71 : decode cX8_move 71 = .ok (.getfield 19, 3) := by decide +kernel
theorem dX8_move_74 : decode cX8_move 74 = .ok (.getfield 128, 3) := by decide +kernel
theorem dX8_move_77 : decode cX8_move 77 = .ok (.iload_n 1, 1) := by decide +kernel
theorem dX8_move_78 : decode cX8_move 78 = .ok (.iaload, 1) := by decide +kernel
theorem dX8_move_79 : decode cX8_move 79 = .ok (.iconst (-1), 1) := by decide +kernel
theorem dX8_move_80 : decode cX8_move 80 = .ok (.if_icmp .ne 6, 3) := by decide +kernel
theorem dX8_move_83 : decode cX8_move 83 = .ok (.bipush (-4), 2) := by decide +kernel
theorem dX8_move_85 : decode cX8_move 85 = .ok (.ireturn, 1) := by decide +kernel
theorem dX8_move_86 : decode cX8_move 86 = .ok (.iload 4, 2) := by decide +kernel
theorem dX8_move_88 : decode cX8_move 88 = .ok (.ifCond .eq 20, 3) := by decide +kernel
theorem dX8_move_91 : decode cX8_move 91 = .ok (.aload_n 0, 1) := by decide +kernel
theorem dX8_move_92 : decode cX8_move 92 = .ok (.getfield 19, 3) := by decide +kernel
theorem dX8_move_95 : decode cX8_move 95 = .ok (.getfield 148, 3) := by decide +kernel
theorem dX8_move_98 : decode cX8_move 98 = .ok (.iload_n 1, 1) := by decide +kernel
theorem dX8_move_99 : decode cX8_move 99 = .ok (.iaload, 1) := by decide +kernel
theorem dX8_move_100 : decode cX8_move 100 = .ok (.iload_n 3, 1) := by decide +kernel
theorem dX8_move_101 : decode cX8_move 101 = .ok (.if_icmp .ne 7, 3) := by decide +kernel
theorem dX8_move_104 : decode cX8_move 104 = .ok (.iconst 1, 1) := by decide +kernel
theorem dX8_move_105 : decode cX8_move 105 = .ok (.goto 4, 3) := by decide +kernel
theorem dX8_move_108 : decode cX8_move 108 = .ok (.iconst 0, 1) := by decide +kernel
theorem dX8_move_109 : decode cX8_move 109 = .ok (.istore 5, 2) := by decide +kernel
theorem dX8_move_111 : decode cX8_move 111 = .ok (.iload 5, 2) := by decide +kernel
theorem dX8_move_113 : decode cX8_move 113 = .ok (.ifCond .ne 30, 3) := by decide +kernel
theorem dX8_move_116 : decode cX8_move 116 = .ok (.aload_n 0, 1) := by decide +kernel
theorem dX8_move_117 : decode cX8_move 117 = .ok (.getfield 19, 3) := by decide +kernel
theorem dX8_move_120 : decode cX8_move 120 = .ok (.iload_n 1, 1) := by decide +kernel
theorem dX8_move_121 : decode cX8_move 121 = .ok (.invokevirtual 141, 3) := by decide +kernel
theorem dX8_move_124 : decode cX8_move 124 = .ok (.ifCond .ne 16, 3) := by decide +kernel
theorem dX8_move_127 : decode cX8_move 127 = .ok (.iload_n 3, 1) := by decide +kernel
theorem dX8_move_128 : decode cX8_move 128 = .ok (.aload_n 0, 1) := by decide +kernel
theorem dX8_move_129 : decode cX8_move 129 = .ok (.getfield 19, 3) := by decide +kernel
theorem dX8_move_132 : decode cX8_move 132 = .ok (.getfield 131, 3) := by decide +kernel
theorem dX8_move_135 : decode cX8_move 135 = .ok (.iload_n 2, 1) := by decide +kernel
