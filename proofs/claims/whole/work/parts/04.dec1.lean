theorem dX8_move_136 : decode cX8_move 136 = .ok (.iaload, 1) := by decide +kernel
theorem dX8_move_137 : decode cX8_move 137 = .ok (.if_icmp .ge 6, 3) := by decide +kernel
theorem dX8_move_140 : decode cX8_move 140 = .ok (.bipush (-3), 2) := by decide +kernel
theorem dX8_move_142 : decode cX8_move 142 = .ok (.ireturn, 1) := by decide +kernel
theorem dX8_move_143 : decode cX8_move 143 = .ok (.aload_n 0, 1) := by decide +kernel
theorem dX8_move_144 : decode cX8_move 144 = .ok (.getfield 19, 3) := by decide +kernel
theorem dX8_move_147 : decode cX8_move 147 = .ok (.iload_n 1, 1) := by decide +kernel
theorem dX8_move_148 : decode cX8_move 148 = .ok (.invokevirtual 145, 3) := by decide +kernel
theorem dX8_move_151 : decode cX8_move 151 = .ok (.aload_n 0, 1) := by decide +kernel
theorem dX8_move_152 : decode cX8_move 152 = .ok (.getfield 19, 3) := by decide +kernel
theorem dX8_move_155 : decode cX8_move 155 = .ok (.iload_n 1, 1) := by decide +kernel
theorem dX8_move_156 : decode cX8_move 156 = .ok (.iload_n 2, 1) := by decide +kernel
theorem dX8_move_157 : decode cX8_move 157 = .ok (.iload_n 3, 1) := by decide +kernel
theorem dX8_move_158 : decode cX8_move 158 = .ok (.invokevirtual 134, 3) := by decide +kernel
theorem dX8_move_161 : decode cX8_move 161 = .ok (.aload_n 0, 1) := by decide +kernel
theorem dX8_move_162 : decode cX8_move 162 = .ok (.invokevirtual 137, 3) := by decide +kernel
theorem dX8_move_165 : decode cX8_move 165 = .ok (.ireturn, 1) := by decide +kernel
theorem dX8_swap_0 : decode cX8_swap 0 = .ok (.aload_n 0, 1) := by decide +kernel
theorem dX8_swap_1 : decode cX8_swap 1 = .ok (.iload_n 1, 1) := by decide +kernel
theorem dX8_swap_2 : decode cX8_swap 2 = .ok (.invokevirtual 114, 3) := by decide +kernel
theorem dX8_swap_5 : decode cX8_swap 5 = .ok (.aload_n 0, 1) := by decide +kernel
theorem dX8_swap_6 : decode cX8_swap 6 = .ok (.iload_n 2, 1) := by decide +kernel
theorem dX8_swap_7 : decode cX8_swap 7 = .ok (.invokevirtual 114, 3) := by decide +kernel
theorem dX8_swap_10 : decode cX8_swap 10 = .ok (.aload_n 0, 1) := by decide +kernel
theorem dX8_swap_11 : decode cX8_swap 11 = .ok (.invokevirtual 121, 3) := by decide +kernel
theorem dX8_swap_14 : decode cX8_swap 14 = .ok (.iload_n 1, 1) := by decide +kernel
theorem dX8_swap_15 : decode cX8_swap 15 = .ok (.iload_n 2, 1) := by decide +kernel
theorem dX8_swap_16 : decode cX8_swap 16 = .ok (.if_icmp .eq 7, 3) := by decide +kernel
theorem dX8_swap_19 : decode cX8_swap 19 = .ok (.iconst 1, 1) := by decide +kernel
theorem dX8_swap_20 : decode cX8_swap 20 = .ok (.goto 4, 3) := by decide +kernel
theorem dX8_swap_23 : decode cX8_swap 23 = .ok (.iconst 0, 1) := by decide +kernel
theorem dX8_swap_24 : decode cX8_swap 24 = .ok (.invokestatic 92, 3) := by decide +kernel
theorem dX8_swap_27 : decode cX8_swap 27 = .ok (.aload_n 0, 1) := by decide +kernel
theorem dX8_swap_28 : decode cX8_swap 28 = .ok (.getfield 19, 3) := by decide +kernel
theorem dX8_swap_31 : decode cX8_swap 31 = .ok (.getfield 128, 3) := by decide +kernel
theorem dX8_swap_34 : decode cX8_swap 34 = .ok (.iload_n 1, 1) := by decide +kernel
theorem dX8_swap_35 : decode cX8_swap 35 = .ok (.iaload, 1) := by decide +kernel
theorem dX8_swap_36 : decode cX8_swap 36 = .ok (.iconst (-1), 1) := by decide +kernel
theorem dX8_swap_37 : decode cX8_swap 37 = .ok (.if_icmp .eq 16, 3) := by decide +kernel
theorem dX8_swap_40 : decode cX8_swap 40 = .ok (.aload_n 0, 1) := by decide +kernel
theorem dX8_swap_41 : decode cX8_swap 41 = .ok (.getfield 19, 3) := by decide +kernel
theorem dX8_swap_44 : decode cX8_swap 44 = .ok (.getfield 128, 3) := by decide +kernel
theorem dX8_swap_47 : decode cX8_swap 47 = .ok (.iload_n 2, 1) := by decide +kernel
theorem dX8_swap_48 : decode cX8_swap 48 = .ok (.iaload, 1) := by decide +kernel
theorem dX8_swap_49 : decode cX8_swap 49 = .ok (.iconst (-1), 1) := by decide +kernel
theorem dX8_swap_50 : decode cX8_swap 50 = .ok (.if_icmp .ne 6, 3) := by decide +kernel
theorem dX8_swap_53 : decode cX8_swap 53 = .ok (.bipush (-4), 2) := by decide +kernel
theorem dX8_swap_55 : decode cX8_swap 55 = .ok (.ireturn, 1) := by decide +kernel
theorem dX8_swap_56 : decode cX8_swap 56 = .ok (.aload_n 0, 1) := by decide +kernel
theorem dX8_swap_57 : decode cX8_swap 57 = .ok (.getfield 19, 3) := by decide +kernel
theorem dX8_swap_60 : decode cX8_swap 60 = .ok (.iload_n 1, 1) := by decide +kernel
theorem dX8_swap_61 : decode cX8_swap 61 = .ok (.invokevirtual 141, 3) := by decide +kernel
theorem dX8_swap_64 : decode cX8_swap 64 = .ok (.ifCond .ne 14, 3) := by decide +kernel
theorem dX8_swap_67 : decode cX8_swap 67 = .ok (.aload_n 0, 1) := by decide +kernel
theorem dX8_swap_68 : decode cX8_swap 68 = .ok (.getfield 19, 3) := by decide +kernel
theorem dX8_swap_71 : decode cX8_swap 71 = .ok (.iload_n 2, 1) := by decide +kernel
theorem dX8_swap_72 : decode cX8_swap 72 = .ok (.invokevirtual 141, 3) := by decide +kernel
theorem dX8_swap_75 : decode cX8_swap 75 = .ok (.ifCond .eq 6, 3) := by decide +kernel
theorem dX8_swap_78 : decode cX8_swap 78 = .ok (.bipush (-3), 2) := by decide +kernel
theorem dX8_swap_80 : decode cX8_swap 80 = .ok (.ireturn, 1) := by decide +kernel
theorem dX8_swap_81 : decode cX8_swap 81 = .ok (.aload_n 0, 1) := by decide +kernel
theorem dX8_swap_82 : decode cX8_swap 82 = .ok (.getfield 19, 3) := by decide +kernel
theorem dX8_swap_85 : decode cX8_swap 85 = .ok (.iload_n 1, 1) := by decide +kernel
theorem dX8_swap_86 : decode cX8_swap 86 = .ok (.iload_n 2, 1) := by decide +kernel
theorem dX8_swap_87 : decode cX8_swap 87 = .ok (.invokevirtual 151, 3) := by decide +kernel
theorem dX8_swap_90 : decode cX8_swap 90 = .ok (.aload_n 0, 1) := by decide +kernel
theorem dX8_swap_91 : decode cX8_swap 91 = .ok (.invokevirtual 137, 3) := by decide +kernel
theorem dX8_swap_94 : decode cX8_swap 94 = .ok (.ireturn, 1) := by decide +kernel
theorem dX8_turn_0 : decode cX8_turn 0 = .ok (.aload_n 0, 1) := by decide +kernel
theorem dX8_turn_1 : decode cX8_turn 1 = .ok (.iload_n 1, 1) := by decide +kernel
theorem dX8_turn_2 : decode cX8_turn 2 = .ok (.invokevirtual 118, 3) := by decide +kernel
theorem dX8_turn_5 : decode cX8_turn 5 = .ok (.aload_n 0, 1) := by decide +kernel
theorem dX8_turn_6 : decode cX8_turn 6 = .ok (.invokevirtual 121, 3) := by decide +kernel
theorem dX8_turn_9 : decode cX8_turn 9 = .ok (.iload_n 2, 1) := by decide +kernel
theorem dX8_turn_10 : decode cX8_turn 10 = .ok (.ifCond .lt 25, 3) := by decide +kernel
theorem dX8_turn_13 : decode cX8_turn 13 = .ok (.iload_n 3, 1) := by decide +kernel
theorem dX8_turn_14 : decode cX8_turn 14 = .ok (.iload_n 2, 1) := by decide +kernel
theorem dX8_turn_15 : decode cX8_turn 15 = .ok (.if_icmp .lt 20, 3) := by decide +kernel
theorem dX8_turn_18 : decode cX8_turn 18 = .ok (.iload_n 3, 1) := by decide +kernel
theorem dX8_turn_19 : decode cX8_turn 19 = .ok (.aload_n 0, 1) := by decide +kernel
theorem dX8_turn_20 : decode cX8_turn 20 = .ok (.getfield 19, 3) := by decide +kernel
theorem dX8_turn_23 : decode cX8_turn 23 = .ok (.getfield 124, 3) := by decide +kernel
theorem dX8_turn_26 : decode cX8_turn 26 = .ok (.iload_n 1, 1) := by decide +kernel
theorem dX8_turn_27 : decode cX8_turn 27 = .ok (.iaload, 1) := by decide +kernel
theorem dX8_turn_28 : decode cX8_turn 28 = .ok (.if_icmp .ge 7, 3) := by decide +kernel
theorem dX8_turn_31 : decode cX8_turn 31 = .ok (.iconst 1, 1) := by decide +kernel
theorem dX8_turn_32 : decode cX8_turn 32 = .ok (.goto 4, 3) := by decide +kernel
theorem dX8_turn_35 : decode cX8_turn 35 = .ok (.iconst 0, 1) := by decide +kernel
theorem dX8_turn_36 : decode cX8_turn 36 = .ok (.invokestatic 92, 3) := by decide +kernel
theorem dX8_turn_39 : decode cX8_turn 39 = .ok (.iload_n 2, 1) := by decide +kernel
theorem dX8_turn_40 : decode cX8_turn 40 = .ok (.iload_n 3, 1) := by decide +kernel
theorem dX8_turn_41 : decode cX8_turn 41 = .ok (.if_icmp .ge 19, 3) := by decide +kernel
theorem dX8_turn_44 : decode cX8_turn 44 = .ok (.iload_n 2, 1) := by decide +kernel
theorem dX8_turn_45 : decode cX8_turn 45 = .ok (.aload_n 0, 1) := by decide +kernel
theorem dX8_turn_46 : decode cX8_turn 46 = .ok (.getfield 19, 3) := by decide +kernel
theorem dX8_turn_49 : decode cX8_turn 49 = .ok (.getfield 131, 3) := by decide +kernel
theorem dX8_turn_52 : decode cX8_turn 52 = .ok (.iload_n 1, 1) := by decide +kernel
theorem dX8_turn_53 : decode cX8_turn 53 = .ok (.iaload, 1) := by decide +kernel
theorem dX8_turn_54 : decode cX8_turn 54 = .ok (.if_icmp .ge 6, 3) := by decide +kernel
theorem dX8_turn_57 : decode cX8_turn 57 = .ok (.bipush (-3), 2) := by decide +kernel
theorem dX8_turn_59 : decode cX8_turn 59 = .ok (.ireturn, 1) := by decide +kernel
theorem dX8_turn_60 : decode cX8_turn 60 = .ok (.aload_n 0, 1) := by decide +kernel
theorem dX8_turn_61 : decode cX8_turn 61 = .ok (.getfield 19, 3) := by decide +kernel
theorem dX8_turn_64 : decode cX8_turn 64 = .ok (.iload_n 1, 1) := by decide +kernel
theorem dX8_turn_65 : decode cX8_turn 65 = .ok (.iload_n 2, 1) := by decide +kernel
theorem dX8_turn_66 : decode cX8_turn 66 = .ok (.iload_n 3, 1) := by decide +kernel
theorem dX8_turn_67 : decode cX8_turn 67 = .ok (.invokevirtual 155, 3) := by decide +kernel
theorem dX8_turn_70 : decode cX8_turn 70 = .ok (.aload_n 0, 1) := by decide +kernel
theorem dX8_turn_71 : decode cX8_turn 71 = .ok (.invokevirtual 137, 3) := by decide +kernel
theorem dX8_turn_74 : decode cX8_turn 74 = .ok (.ireturn, 1) := by decide +kernel
theorem dX8_tails_0 : decode cX8_tails 0 = .ok (.aload_n 0, 1) := by decide +kernel
theorem dX8_tails_1 : decode cX8_tails 1 = .ok (.iload_n 1, 1) := by decide +kernel
theorem dX8_tails_2 : decode cX8_tails 2 = .ok (.invokevirtual 118, 3) := by decide +kernel
theorem dX8_tails_5 : decode cX8_tails 5 = .ok (.aload_n 0, 1) := by decide +kernel
theorem dX8_tails_6 : decode cX8_tails 6 = .ok (.iload_n 3, 1) := by decide +kernel
theorem dX8_tails_7 : decode cX8_tails 7 = .ok (.invokevirtual 118, 3) := by decide +kernel
theorem dX8_tails_10 : decode cX8_tails 10 = .ok (.aload_n 0, 1) := by decide +kernel
theorem dX8_tails_11 : decode cX8_tails 11 = .ok (.invokevirtual 121, 3) := by decide +kernel
theorem dX8_tails_14 : decode cX8_tails 14 = .ok (.iload_n 1, 1) := by decide +kernel
theorem dX8_tails_15 : decode cX8_tails 15 = .ok (.iload_n 3, 1) := by decide +kernel
theorem dX8_tails_16 : decode cX8_tails 16 = .ok (.if_icmp .eq 43, 3) := by decide +kernel
theorem dX8_tails_19 : decode cX8_tails 19 = .ok (.iload_n 2, 1) := by decide +kernel
theorem dX8_tails_20 : decode cX8_tails 20 = .ok (.ifCond .lt 39, 3) := by decide +kernel
theorem dX8_tails_23 : decode cX8_tails 23 = .ok (.iload_n 2, 1) := by decide +kernel
theorem dX8_tails_24 : decode cX8_tails 24 = .ok (.aload_n 0, 1) := by decide +kernel
theorem dX8_tails_25 : decode cX8_tails 25 = .ok (.getfield 19, 3) := by decide +kernel
theorem dX8_tails_28 : decode cX8_tails 28 = .ok (.getfield 124, 3) := by decide +kernel
theorem dX8_tails_31 : decode cX8_tails 31 = .ok (.iload_n 1, 1) := by decide +kernel
theorem dX8_tails_32 : decode cX8_tails 32 = .ok (.iaload, 1) := by decide +kernel
theorem dX8_tails_33 : decode cX8_tails 33 = .ok (.if_icmp .gt 26, 3) := by decide +kernel
theorem dX8_tails_36 : decode cX8_tails 36 = .ok (.iload 4, 2) := by decide +kernel
theorem dX8_tails_38 : decode cX8_tails 38 = .ok (.ifCond .lt 21, 3) := by decide +kernel
theorem dX8_tails_41 : decode cX8_tails 41 = .ok (.iload 4, 2) := by decide +kernel
theorem dX8_tails_43 : decode cX8_tails 43 = .ok (.aload_n 0, 1) := by decide +kernel
theorem dX8_tails_44 : decode cX8_tails 44 = .ok (.getfield 19, 3) := by decide +kernel
theorem dX8_tails_47 : decode cX8_tails 47 = .ok (.getfield 124, 3) := by decide +kernel
theorem dX8_tails_50 : decode cX8_tails 50 = .ok (.iload_n 3, 1) := by decide +kernel
theorem dX8_tails_51 : decode cX8_tails 51 = .ok (.iaload, 1) := by decide +kernel
theorem dX8_tails_52 : decode cX8_tails 52 = .ok (.if_icmp .gt 7, 3) := by decide +kernel
theorem dX8_tails_55 : decode cX8_tails 55 = .ok (.iconst 1, 1) := by decide +kernel
theorem dX8_tails_56 : decode cX8_tails 56 = .ok (.goto 4, 3) := by decide +kernel
theorem dX8_tails_59 : decode cX8_tails 59 = .ok (.iconst 0, 1) := by decide +kernel
theorem dX8_tails_60 : decode cX8_tails 60 = .ok (.invokestatic 92, 3) := by decide +kernel
theorem dX8_tails_63 : decode cX8_tails 63 = .ok (.iload_n 2, 1) := by decide +kernel
theorem dX8_tails_64 : decode cX8_tails 64 = .ok (.aload_n 0, 1) := by decide +kernel
theorem dX8_tails_65 : decode cX8_tails 65 = .ok (.getfield 19, 3) := by decide +kernel
theorem dX8_tails_68 : decode cX8_tails 68 = .ok (.getfield 131, 3) := by decide +kernel
theorem dX8_tails_71 : decode cX8_tails 71 = .ok (.iload_n 1, 1) := by decide +kernel
theorem dX8_tails_72 : decode cX8_tails 72 = .ok (.iaload, 1) := by decide +kernel
theorem dX8_tails_73 : decode cX8_tails 73 = .ok (.if_icmp .lt 17, 3) := by decide +kernel
theorem dX8_tails_76 : decode cX8_tails 76 = .ok (.iload 4, 2) := by decide +kernel
theorem dX8_tails_78 : decode cX8_tails 78 = .ok (.aload_n 0, 1) := by decide +kernel
theorem dX8_tails_79 : decode cX8_tails 79 = .ok (.getfield 19, 3) := by decide +kernel
theorem dX8_tails_82 : decode cX8_tails 82 = .ok (.getfield 131, 3) := by decide +kernel
theorem dX8_tails_85 : decode cX8_tails 85 = .ok (.iload_n 3, 1) := by decide +kernel
theorem dX8_tails_86 : decode cX8_tails 86 = .ok (.iaload, 1) := by decide +kernel
theorem dX8_tails_87 : decode cX8_tails 87 = .ok (.if_icmp .ge 6, 3) := by decide +kernel
theorem dX8_tails_90 : decode cX8_tails 90 = .ok (.bipush (-3), 2) := by decide +kernel
theorem dX8_tails_92 : decode cX8_tails 92 = .ok (.ireturn, 1) := by decide +kernel
theorem dX8_tails_93 : decode cX8_tails 93 = .ok (.aload_n 0, 1) := by decide +kernel
theorem dX8_tails_94 : decode cX8_tails 94 = .ok (.getfield 19, 3) := by decide +kernel
theorem dX8_tails_97 : decode cX8_tails 97 = .ok (.iload_n 1, 1) := by decide +kernel
theorem dX8_tails_98 : decode cX8_tails 98 = .ok (.iload_n 2, 1) := by decide +kernel
theorem dX8_tails_99 : decode cX8_tails 99 = .ok (.iload_n 3, 1) := by decide +kernel
theorem dX8_tails_100 : decode cX8_tails 100 = .ok (.iload 4, 2) := by decide +kernel
theorem dX8_tails_102 : decode cX8_tails 102 = .ok (.invokevirtual 158, 3) := by decide +kernel
theorem dX8_tails_105 : decode cX8_tails 105 = .ok (.aload_n 0, 1) := by decide +kernel
theorem dX8_tails_106 : decode cX8_tails 106 = .ok (.invokevirtual 137, 3) := by decide +kernel
theorem dX8_tails_109 : decode cX8_tails 109 = .ok (.ireturn, 1) := by decide +kernel
theorem dX8_fact_0 : decode cX8_fact 0 = .ok (.aload_n 0, 1) := by decide +kernel
theorem dX8_fact_1 : decode cX8_fact 1 = .ok (.iload_n 1, 1) := by decide +kernel
theorem dX8_fact_2 : decode cX8_fact 2 = .ok (.invokevirtual 114, 3) := by decide +kernel
theorem dX8_fact_5 : decode cX8_fact 5 = .ok (.aload_n 0, 1) := by decide +kernel
theorem dX8_fact_6 : decode cX8_fact 6 = .ok (.invokevirtual 121, 3) := by decide +kernel
theorem dX8_fact_9 : decode cX8_fact 9 = .ok (.iload_n 2, 1) := by decide +kernel
theorem dX8_fact_10 : decode cX8_fact 10 = .ok (.ifCond .lt 12, 3) := by decide +kernel
theorem dX8_fact_13 : decode cX8_fact 13 = .ok (.iload_n 2, 1) := by decide +kernel
theorem dX8_fact_14 : decode cX8_fact 14 = .ok (.iconst 4, 1) := by decide +kernel
theorem dX8_fact_15 : decode cX8_fact 15 = .ok (.if_icmp .ge 7, 3) := by decide +kernel
theorem dX8_fact_18 : decode cX8_fact 18 = .ok (.iconst 1, 1) := by decide +kernel
theorem dX8_fact_19 : decode cX8_fact 19 = .ok (.goto 4, 3) := by decide +kernel
theorem dX8_fact_22 : decode cX8_fact 22 = .ok (.iconst 0, 1) := by decide +kernel
theorem dX8_fact_23 : decode cX8_fact 23 = .ok (.invokestatic 92, 3) := by decide +kernel
theorem dX8_fact_26 : decode cX8_fact 26 = .ok (.iconst 4, 1) := by decide +kernel
theorem dX8_fact_27 : decode cX8_fact 27 = .ok (.iload_n 1, 1) := by decide +kernel
theorem dX8_fact_28 : decode cX8_fact 28 = .ok (.imul, 1) := by decide +kernel
theorem dX8_fact_29 : decode cX8_fact 29 = .ok (.iload_n 2, 1) := by decide +kernel
theorem dX8_fact_30 : decode cX8_fact 30 = .ok (.iadd, 1) := by decide +kernel
theorem dX8_fact_31 : decode cX8_fact 31 = .ok (.istore 4, 2) := by decide +kernel
theorem dX8_fact_33 : decode cX8_fact 33 = .ok (.aload_n 0, 1) := by decide +kernel
theorem dX8_fact_34 : decode cX8_fact 34 = .ok (.getfield 19, 3) := by decide +kernel
theorem dX8_fact_37 : decode cX8_fact 37 = .ok (.iload_n 1, 1) := by decide +kernel
theorem dX8_fact_38 : decode cX8_fact 38 = .ok (.invokevirtual 141, 3) := by decide +kernel
theorem dX8_fact_41 : decode cX8_fact 41 = .ok (.ifCond .eq 20, 3) := by decide +kernel
theorem dX8_fact_44 : decode cX8_fact 44 = .ok (.aload_n 0, 1) := by decide +kernel
theorem dX8_fact_45 : decode cX8_fact 45 = .ok (.getfield 19, 3) := by decide +kernel
theorem dX8_fact_48 : decode cX8_fact 48 = .ok (.getfield 162, 3) := by decide +kernel
theorem dX8_fact_51 : decode cX8_fact 51 = .ok (.iload 4, 2) := by decide +kernel
theorem dX8_fact_53 : decode cX8_fact 53 = .ok (.iaload, 1) := by decide +kernel
theorem dX8_fact_54 : decode cX8_fact 54 = .ok (.iload_n 3, 1) := by decide +kernel
theorem dX8_fact_55 : decode cX8_fact 55 = .ok (.if_icmp .eq 6, 3) := by decide +kernel
theorem dX8_fact_58 : decode cX8_fact 58 = .ok (.bipush (-3), 2) := by decide +kernel
theorem dX8_fact_60 : decode cX8_fact 60 = .ok (.ireturn, 1) := by decide +kernel
theorem dX8_fact_61 : decode cX8_fact 61 = .ok (.aload_n 0, 1) := by decide +kernel
theorem dX8_fact_62 : decode cX8_fact 62 = .ok (.getfield 19, 3) := by decide +kernel
theorem dX8_fact_65 : decode cX8_fact 65 = .ok (.getfield 162, 3) := by decide +kernel
theorem dX8_fact_68 : decode cX8_fact 68 = .ok (.iload 4, 2) := by decide +kernel
theorem dX8_fact_70 : decode cX8_fact 70 = .ok (.iload_n 3, 1) := by decide +kernel
theorem dX8_fact_71 : decode cX8_fact 71 = .ok (.iastore, 1) := by decide +kernel
theorem dX8_fact_72 : decode cX8_fact 72 = .ok (.aload_n 0, 1) := by decide +kernel
theorem dX8_fact_73 : decode cX8_fact 73 = .ok (.invokevirtual 137, 3) := by decide +kernel
theorem dX8_fact_76 : decode cX8_fact 76 = .ok (.ireturn, 1) := by decide +kernel
theorem dX8_listFact_0 : decode cX8_listFact 0 = .ok (.aload_n 0, 1) := by decide +kernel
theorem dX8_listFact_1 : decode cX8_listFact 1 = .ok (.iload_n 1, 1) := by decide +kernel
theorem dX8_listFact_2 : decode cX8_listFact 2 = .ok (.invokevirtual 118, 3) := by decide +kernel
theorem dX8_listFact_5 : decode cX8_listFact 5 = .ok (.aload_n 0, 1) := by decide +kernel
theorem dX8_listFact_6 : decode cX8_listFact 6 = .ok (.invokevirtual 121, 3) := by decide +kernel
theorem dX8_listFact_9 : decode cX8_listFact 9 = .ok (.iload_n 2, 1) := by decide +kernel
theorem dX8_listFact_10 : decode cX8_listFact 10 = .ok (.ifCond .lt 12, 3) := by decide +kernel
theorem dX8_listFact_13 : decode cX8_listFact 13 = .ok (.iload_n 2, 1) := by decide +kernel
theorem dX8_listFact_14 : decode cX8_listFact 14 = .ok (.iconst 2, 1) := by decide +kernel
theorem dX8_listFact_15 : decode cX8_listFact 15 = .ok (.if_icmp .ge 7, 3) := by decide +kernel
theorem dX8_listFact_18 : decode cX8_listFact 18 = .ok (.iconst 1, 1) := by decide +kernel
theorem dX8_listFact_19 : decode cX8_listFact 19 = .ok (.goto 4, 3) := by decide +kernel
theorem dX8_listFact_22 : decode cX8_listFact 22 = .ok (.iconst 0, 1) := by decide +kernel
theorem dX8_listFact_23 : decode cX8_listFact 23 = .ok (.invokestatic 92, 3) := by decide +kernel
theorem dX8_listFact_26 : decode cX8_listFact 26 = .ok (.aload_n 0, 1) := by decide +kernel
theorem dX8_listFact_27 : decode cX8_listFact 27 = .ok (.getfield 19, 3) := by decide +kernel
theorem dX8_listFact_30 : decode cX8_listFact 30 = .ok (.getfield 165, 3) := by decide +kernel
theorem dX8_listFact_33 : decode cX8_listFact 33 = .ok (.iconst 2, 1) := by decide +kernel
theorem dX8_listFact_34 : decode cX8_listFact 34 = .ok (.iload_n 1, 1) := by decide +kernel
theorem dX8_listFact_35 : decode cX8_listFact 35 = .ok (.imul, 1) := by decide +kernel
theorem dX8_listFact_36 : decode cX8_listFact 36 = .ok (.iload_n 2, 1) := by decide +kernel
theorem dX8_listFact_37 : decode cX8_listFact 37 = .ok (.iadd, 1) := by decide +kernel
theorem dX8_listFact_38 : decode cX8_listFact 38 = .ok (.iload_n 3, 1) := by decide +kernel
theorem dX8_listFact_39 : decode cX8_listFact 39 = .ok (.iastore, 1) := by decide +kernel
theorem dX8_listFact_40 : decode cX8_listFact 40 = .ok (.aload_n 0, 1) := by decide +kernel
theorem dX8_listFact_41 : decode cX8_listFact 41 = .ok (.invokevirtual 137, 3) := by decide +kernel
theorem dX8_listFact_44 : decode cX8_listFact 44 = .ok (.ireturn, 1) := by decide +kernel
theorem dX8_link_0 : decode cX8_link 0 = .ok (.aload_n 0, 1) := by decide +kernel
theorem dX8_link_1 : decode cX8_link 1 = .ok (.iload_n 1, 1) := by decide +kernel
theorem dX8_link_2 : decode cX8_link 2 = .ok (.invokevirtual 114, 3) := by decide +kernel
theorem dX8_link_5 : decode cX8_link 5 = .ok (.iload_n 2, 1) := by decide +kernel
theorem dX8_link_6 : decode cX8_link 6 = .ok (.iconst (-1), 1) := by decide +kernel
theorem dX8_link_7 : decode cX8_link 7 = .ok (.if_icmp .eq 8, 3) := by decide +kernel
theorem dX8_link_10 : decode cX8_link 10 = .ok (.aload_n 0, 1) := by decide +kernel
theorem dX8_link_11 : decode cX8_link 11 = .ok (.iload_n 2, 1) := by decide +kernel
theorem dX8_link_12 : decode cX8_link 12 = .ok (.invokevirtual 114, 3) := by decide +kernel
theorem dX8_link_15 : decode cX8_link 15 = .ok (.aload_n 0, 1) := by decide +kernel
theorem dX8_link_16 : decode cX8_link 16 = .ok (.invokevirtual 121, 3) := by decide +kernel
theorem dX8_link_19 : decode cX8_link 19 = .ok (.iload_n 1, 1) := by decide +kernel
theorem dX8_link_20 : decode cX8_link 20 = .ok (.iload_n 2, 1) := by decide +kernel
theorem dX8_link_21 : decode cX8_link 21 = .ok (.if_icmp .eq 7, 3) := by decide +kernel
theorem dX8_link_24 : decode cX8_link 24 = .ok (.iconst 1, 1) := by decide +kernel
theorem dX8_link_25 : decode cX8_link 25 = .ok (.goto 4, 3) := by decide +kernel
theorem dX8_link_28 : decode cX8_link 28 = .ok (.iconst 0, 1) := by decide +kernel
theorem dX8_link_29 : decode cX8_link 29 = .ok (.invokestatic 92, 3) := by decide +kernel
theorem dX8_link_32 : decode cX8_link 32 = .ok (.aload_n 0, 1) := by decide +kernel
theorem dX8_link_33 : decode cX8_link 33 = .ok (.getfield 19, 3) := by decide +kernel
theorem dX8_link_36 : decode cX8_link 36 = .ok (.iload_n 1, 1) := by decide +kernel
theorem dX8_link_37 : decode cX8_link 37 = .ok (.invokevirtual 141, 3) := by decide +kernel
theorem dX8_link_40 : decode cX8_link 40 = .ok (.ifCond .eq 19, 3) := by decide +kernel
theorem dX8_link_43 : decode cX8_link 43 = .ok (.aload_n 0, 1) := by decide +kernel
theorem dX8_link_44 : decode cX8_link 44 = .ok (.getfield 19, 3) := by decide +kernel
theorem dX8_link_47 : decode cX8_link 47 = .ok (.getfield 168, 3) := by decide +kernel
theorem dX8_link_50 : decode cX8_link 50 = .ok (.iload_n 1, 1) := by decide +kernel
theorem dX8_link_51 : decode cX8_link 51 = .ok (.iaload, 1) := by decide +kernel
theorem dX8_link_52 : decode cX8_link 52 = .ok (.iload_n 2, 1) := by decide +kernel
theorem dX8_link_53 : decode cX8_link 53 = .ok (.if_icmp .eq 6, 3) := by decide +kernel
theorem dX8_link_56 : decode cX8_link 56 = .ok (.bipush (-3), 2) := by decide +kernel
theorem dX8_link_58 : decode cX8_link 58 = .ok (.ireturn, 1) := by decide +kernel
theorem dX8_link_59 : decode cX8_link 59 = .ok (.aload_n 0, 1) := by decide +kernel
theorem dX8_link_60 : decode cX8_link 60 = .ok (.getfield 19, 3) := by decide +kernel
theorem dX8_link_63 : decode cX8_link 63 = .ok (.getfield 168, 3) := by decide +kernel
theorem dX8_link_66 : decode cX8_link 66 = .ok (.iload_n 1, 1) := by decide +kernel
theorem dX8_link_67 : decode cX8_link 67 = .ok (.iload_n 2, 1) := by decide +kernel
theorem dX8_link_68 : decode cX8_link 68 = .ok (.iastore, 1) := by decide +kernel
theorem dX8_link_69 : decode cX8_link 69 = .ok (.aload_n 0, 1) := by decide +kernel
theorem dX8_link_70 : decode cX8_link 70 = .ok (.invokevirtual 137, 3) := by decide +kernel
theorem dX8_link_73 : decode cX8_link 73 = .ok (.ireturn, 1) := by decide +kernel
theorem dX8_freeze_0 : decode cX8_freeze 0 = .ok (.aload_n 0, 1) := by decide +kernel
theorem dX8_freeze_1 : decode cX8_freeze 1 = .ok (.iload_n 1, 1) := by decide +kernel
theorem dX8_freeze_2 : decode cX8_freeze 2 = .ok (.invokevirtual 118, 3) := by decide +kernel
theorem dX8_freeze_5 : decode cX8_freeze 5 = .ok (.aload_n 0, 1) := by decide +kernel
theorem dX8_freeze_6 : decode cX8_freeze 6 = .ok (.invokevirtual 121, 3) := by decide +kernel
theorem dX8_freeze_9 : decode cX8_freeze 9 = .ok (.iload_n 2, 1) := by decide +kernel
theorem dX8_freeze_10 : decode cX8_freeze 10 = .ok (.ifCond .lt 20, 3) := by decide +kernel
theorem dX8_freeze_13 : decode cX8_freeze 13 = .ok (.iload_n 2, 1) := by decide +kernel
theorem dX8_freeze_14 : decode cX8_freeze 14 = .ok (.aload_n 0, 1) := by decide +kernel
theorem dX8_freeze_15 : decode cX8_freeze 15 = .ok (.getfield 19, 3) := by decide +kernel
theorem dX8_freeze_18 : decode cX8_freeze 18 = .ok (.getfield 124, 3) := by decide +kernel
theorem dX8_freeze_21 : decode cX8_freeze 21 = .ok (.iload_n 1, 1) := by decide +kernel
theorem dX8_freeze_22 : decode cX8_freeze 22 = .ok (.iaload, 1) := by decide +kernel
theorem dX8_freeze_23 : decode cX8_freeze 23 = .ok (.if_icmp .gt 7, 3) := by decide +kernel
theorem dX8_freeze_26 : decode cX8_freeze 26 = .ok (.iconst 1, 1) := by decide +kernel
theorem dX8_freeze_27 : decode cX8_freeze 27 = .ok (.goto 4, 3) := by decide +kernel
theorem dX8_freeze_30 : decode cX8_freeze 30 = .ok (.iconst 0, 1) := by decide +kernel
theorem dX8_freeze_31 : decode cX8_freeze 31 = .ok (.invokestatic 92, 3) := by decide +kernel
theorem dX8_freeze_34 : decode cX8_freeze 34 = .ok (.aload_n 0, 1) := by decide +kernel
theorem dX8_freeze_35 : decode cX8_freeze 35 = .ok (.getfield 19, 3) := by decide +kernel
theorem dX8_freeze_38 : decode cX8_freeze 38 = .ok (.getfield 131, 3) := by decide +kernel
theorem dX8_freeze_41 : decode cX8_freeze 41 = .ok (.iload_n 1, 1) := by decide +kernel
theorem dX8_freeze_42 : decode cX8_freeze 42 = .ok (.iload_n 2, 1) := by decide +kernel
theorem dX8_freeze_43 : decode cX8_freeze 43 = .ok (.iastore, 1) := by decide +kernel
theorem dX8_freeze_44 : decode cX8_freeze 44 = .ok (.aload_n 0, 1) := by decide +kernel
theorem dX8_freeze_45 : decode cX8_freeze 45 = .ok (.invokevirtual 137, 3) := by decide +kernel
theorem dX8_freeze_48 : decode cX8_freeze 48 = .ok (.ireturn, 1) := by decide +kernel
theorem dX8_begin_0 : decode cX8_begin 0 = .ok (.aload_n 0, 1) := by decide +kernel
theorem dX8_begin_1 : decode cX8_begin 1 = .ok (.invokevirtual 121, 3) := by decide +kernel
theorem dX8_begin_4 : decode cX8_begin 4 = .ok (.aload_n 0, 1) := by decide +kernel
theorem dX8_begin_5 : decode cX8_begin 5 = .ok (.getfield 171, 3) := by decide +kernel
theorem dX8_begin_8 : decode cX8_begin 8 = .ok (.ifCond .eq 13, 3) := by decide +kernel
theorem dX8_begin_11 : decode cX8_begin 11 = .ok (.new 63, 3) := by decide +kernel
theorem dX8_begin_14 : decode cX8_begin 14 = .ok (.dup, 1) := by decide +kernel
theorem dX8_begin_15 : decode cX8_begin 15 = .ok (.ldc 174, 2) := by decide +kernel
theorem dX8_begin_17 : decode cX8_begin 17 = .ok (.invokespecial 67, 3) := by decide +kernel
theorem dX8_begin_20 : decode cX8_begin 20 = .ok (.athrow, 1) := by decide +kernel
theorem dX8_begin_21 : decode cX8_begin 21 = .ok (.aload_n 0, 1) := by decide +kernel
theorem dX8_begin_22 : decode cX8_begin 22 = .ok (.iconst 1, 1) := by decide +kernel
theorem dX8_begin_23 : decode cX8_begin 23 = .ok (.putfield 171, 3) := by decide +kernel
theorem dX8_begin_26 : decode cX8_begin 26 = .ok (.return_, 1) := by decide +kernel
theorem dX8_end_0 : decode cX8_end 0 = .ok (.aload_n 0, 1) := by decide +kernel
theorem dX8_end_1 : decode cX8_end 1 = .ok (.invokevirtual 176, 3) := by decide +kernel
theorem dX8_end_4 : decode cX8_end 4 = .ok (.aload_n 0, 1) := by decide +kernel
theorem dX8_end_5 : decode cX8_end 5 = .ok (.iconst 0, 1) := by decide +kernel
theorem dX8_end_6 : decode cX8_end 6 = .ok (.putfield 171, 3) := by decide +kernel
theorem dX8_end_9 : decode cX8_end 9 = .ok (.aload_n 0, 1) := by decide +kernel
theorem dX8_end_10 : decode cX8_end 10 = .ok (.iconst 0, 1) := by decide +kernel
theorem dX8_end_11 : decode cX8_end 11 = .ok (.putfield 179, 3) := by decide +kernel
theorem dX8_end_14 : decode cX8_end 14 = .ok (.aload_n 0, 1) := by decide +kernel
theorem dX8_end_15 : decode cX8_end 15 = .ok (.invokevirtual 137, 3) := by decide +kernel
theorem dX8_end_18 : decode cX8_end 18 = .ok (.ireturn, 1) := by decide +kernel
theorem dX8_drop_0 : decode cX8_drop 0 = .ok (.aload_n 0, 1) := by decide +kernel
theorem dX8_drop_1 : decode cX8_drop 1 = .ok (.invokevirtual 176, 3) := by decide +kernel
theorem dX8_drop_4 : decode cX8_drop 4 = .ok (.aload_n 0, 1) := by decide +kernel
theorem dX8_drop_5 : decode cX8_drop 5 = .ok (.getfield 179, 3) := by decide +kernel
theorem dX8_drop_8 : decode cX8_drop 8 = .ok (.istore_n 1, 1) := by decide +kernel
theorem dX8_drop_9 : decode cX8_drop 9 = .ok (.aload_n 0, 1) := by decide +kernel
theorem dX8_drop_10 : decode cX8_drop 10 = .ok (.iconst 0, 1) := by decide +kernel
theorem dX8_drop_11 : decode cX8_drop 11 = .ok (.putfield 171, 3) := by decide +kernel
theorem dX8_drop_14 : decode cX8_drop 14 = .ok (.aload_n 0, 1) := by decide +kernel
theorem dX8_drop_15 : decode cX8_drop 15 = .ok (.iconst 0, 1) := by decide +kernel
theorem dX8_drop_16 : decode cX8_drop 16 = .ok (.putfield 179, 3) := by decide +kernel
theorem dX8_drop_19 : decode cX8_drop 19 = .ok (.aload_n 0, 1) := by decide +kernel
theorem dX8_drop_20 : decode cX8_drop 20 = .ok (.getfield 19, 3) := by decide +kernel
theorem dX8_drop_23 : decode cX8_drop 23 = .ok (.aload_n 0, 1) := by decide +kernel
theorem dX8_drop_24 : decode cX8_drop 24 = .ok (.getfield 23, 3) := by decide +kernel
theorem dX8_drop_27 : decode cX8_drop 27 = .ok (.invokevirtual 182, 3) := by decide +kernel
theorem dX8_drop_30 : decode cX8_drop 30 = .ok (.iload_n 1, 1) := by decide +kernel
theorem dX8_drop_31 : decode cX8_drop 31 = .ok (.ireturn, 1) := by decide +kernel
theorem dX8_undo_0 : decode cX8_undo 0 = .ok (.aload_n 0, 1) := by decide +kernel
theorem dX8_undo_1 : decode cX8_undo 1 = .ok (.invokevirtual 121, 3) := by decide +kernel
theorem dX8_undo_4 : decode cX8_undo 4 = .ok (.aload_n 0, 1) := by decide +kernel
theorem dX8_undo_5 : decode cX8_undo 5 = .ok (.getfield 171, 3) := by decide +kernel
theorem dX8_undo_8 : decode cX8_undo 8 = .ok (.ifCond .eq 13, 3) := by decide +kernel
theorem dX8_undo_11 : decode cX8_undo 11 = .ok (.new 63, 3) := by decide +kernel
theorem dX8_undo_14 : decode cX8_undo 14 = .ok (.dup, 1) := by decide +kernel
theorem dX8_undo_15 : decode cX8_undo 15 = .ok (.ldc 174, 2) := by decide +kernel
theorem dX8_undo_17 : decode cX8_undo 17 = .ok (.invokespecial 67, 3) := by decide +kernel
theorem dX8_undo_20 : decode cX8_undo 20 = .ok (.athrow, 1) := by decide +kernel
theorem dX8_undo_21 : decode cX8_undo 21 = .ok (.aload_n 0, 1) := by decide +kernel
theorem dX8_undo_22 : decode cX8_undo 22 = .ok (.getfield 52, 3) := by decide +kernel
theorem dX8_undo_25 : decode cX8_undo 25 = .ok (.invokevirtual 186, 3) := by decide +kernel
theorem dX8_undo_28 : decode cX8_undo 28 = .ok (.astore_n 1, 1) := by decide +kernel
theorem dX8_undo_29 : decode cX8_undo 29 = .ok (.aload_n 1, 1) := by decide +kernel
theorem dX8_undo_30 : decode cX8_undo 30 = .ok (.ifnonnull 5, 3) := by decide +kernel
theorem dX8_undo_33 : decode cX8_undo 33 = .ok (.iconst (-1), 1) := by decide +kernel
theorem dX8_undo_34 : decode cX8_undo 34 = .ok (.ireturn, 1) := by decide +kernel
theorem dX8_undo_35 : decode cX8_undo 35 = .ok (.aload_n 0, 1) := by decide +kernel
theorem dX8_undo_36 : decode cX8_undo 36 = .ok (.aload_n 1, 1) := by decide +kernel
theorem dX8_undo_37 : decode cX8_undo 37 = .ok (.invokevirtual 190, 3) := by decide +kernel
theorem dX8_undo_40 : decode cX8_undo 40 = .ok (.istore_n 2, 1) := by decide +kernel
theorem dX8_undo_41 : decode cX8_undo 41 = .ok (.aload_n 0, 1) := by decide +kernel
theorem dX8_undo_42 : decode cX8_undo 42 = .ok (.getfield 23, 3) := by decide +kernel
theorem dX8_undo_45 : decode cX8_undo 45 = .ok (.aload_n 1, 1) := by decide +kernel
theorem dX8_undo_46 : decode cX8_undo 46 = .ok (.getfield 194, 3) := by decide +kernel
theorem dX8_undo_49 : decode cX8_undo 49 = .ok (.invokevirtual 182, 3) := by decide +kernel
theorem dX8_undo_52 : decode cX8_undo 52 = .ok (.aload_n 0, 1) := by decide +kernel
theorem dX8_undo_53 : decode cX8_undo 53 = .ok (.getfield 19, 3) := by decide +kernel
theorem dX8_undo_56 : decode cX8_undo 56 = .ok (.aload_n 0, 1) := by decide +kernel
theorem dX8_undo_57 : decode cX8_undo 57 = .ok (.getfield 23, 3) := by decide +kernel
theorem dX8_undo_60 : decode cX8_undo 60 = .ok (.invokevirtual 182, 3) := by decide +kernel
theorem dX8_undo_63 : decode cX8_undo 63 = .ok (.aload_n 1, 1) := by decide +kernel
theorem dX8_undo_64 : decode cX8_undo 64 = .ok (.getfield 197, 3) := by decide +kernel
theorem dX8_undo_67 : decode cX8_undo 67 = .ok (.iconst 0, 1) := by decide +kernel
theorem dX8_undo_68 : decode cX8_undo 68 = .ok (.aload_n 0, 1) := by decide +kernel
theorem dX8_undo_69 : decode cX8_undo 69 = .ok (.getfield 26, 3) := by decide +kernel
theorem dX8_undo_72 : decode cX8_undo 72 = .ok (.iconst 0, 1) := by decide +kernel
theorem dX8_undo_73 : decode cX8_undo 73 = .ok (.sipush 258, 3) := by decide +kernel
theorem dX8_undo_76 : decode cX8_undo 76 = .ok (.invokestatic 198, 3) := by decide +kernel
theorem dX8_undo_79 : decode cX8_undo 79 = .ok (.aload_n 0, 1) := by decide +kernel
theorem dX8_undo_80 : decode cX8_undo 80 = .ok (.getfield 45, 3) := by decide +kernel
theorem dX8_undo_83 : decode cX8_undo 83 = .ok (.getfield 204, 3) := by decide +kernel
theorem dX8_undo_86 : decode cX8_undo 86 = .ok (.aload_n 0, 1) := by decide +kernel
theorem dX8_undo_87 : decode cX8_undo 87 = .ok (.getfield 23, 3) := by decide +kernel
theorem dX8_undo_90 : decode cX8_undo 90 = .ok (.invokevirtual 208, 3) := by decide +kernel
theorem dX8_undo_93 : decode cX8_undo 93 = .ok (.pop, 1) := by decide +kernel
theorem dX8_undo_94 : decode cX8_undo 94 = .ok (.aload_n 0, 1) := by decide +kernel
theorem dX8_undo_95 : decode cX8_undo 95 = .ok (.getfield 33, 3) := by decide +kernel
theorem dX8_undo_98 : decode cX8_undo 98 = .ok (.aload_n 0, 1) := by decide +kernel
theorem dX8_undo_99 : decode cX8_undo 99 = .ok (.getfield 45, 3) := by decide +kernel
theorem dX8_undo_102 : decode cX8_undo 102 = .ok (.getfield 204, 3) := by decide +kernel
theorem dX8_undo_105 : decode cX8_undo 105 = .ok (.getfield 214, 3) := by decide +kernel
theorem dX8_undo_108 : decode cX8_undo 108 = .ok (.invokevirtual 215, 3) := by decide +kernel
theorem dX8_undo_111 : decode cX8_undo 111 = .ok (.aload_n 0, 1) := by decide +kernel
theorem dX8_undo_112 : decode cX8_undo 112 = .ok (.getfield 37, 3) := by decide +kernel
theorem dX8_undo_115 : decode cX8_undo 115 = .ok (.invokevirtual 218, 3) := by decide +kernel
theorem dX8_undo_118 : decode cX8_undo 118 = .ok (.iload_n 2, 1) := by decide +kernel
theorem dX8_undo_119 : decode cX8_undo 119 = .ok (.ireturn, 1) := by decide +kernel
theorem dX8_shadow_0 : decode cX8_shadow 0 = .ok (.aload_n 0, 1) := by decide +kernel
theorem dX8_shadow_1 : decode cX8_shadow 1 = .ok (.iload_n 1, 1) := by decide +kernel
theorem dX8_shadow_2 : decode cX8_shadow 2 = .ok (.invokevirtual 114, 3) := by decide +kernel
theorem dX8_shadow_5 : decode cX8_shadow 5 = .ok (.iload_n 2, 1) := by decide +kernel
theorem dX8_shadow_6 : decode cX8_shadow 6 = .ok (.invokestatic 221, 3) := by decide +kernel
theorem dX8_shadow_9 : decode cX8_shadow 9 = .ok (.invokestatic 92, 3) := by decide +kernel
theorem dX8_shadow_12 : decode cX8_shadow 12 = .ok (.aload_n 0, 1) := by decide +kernel
theorem dX8_shadow_13 : decode cX8_shadow 13 = .ok (.getfield 26, 3) := by decide +kernel
theorem dX8_shadow_16 : decode cX8_shadow 16 = .ok (.iload_n 1, 1) := by decide +kernel
theorem dX8_shadow_17 : decode cX8_shadow 17 = .ok (.iload_n 2, 1) := by decide +kernel
theorem dX8_shadow_18 : decode cX8_shadow 18 = .ok (.invokestatic 224, 3) := by decide +kernel
theorem dX8_shadow_21 : decode cX8_shadow 21 = .ok (.laload, 1) := by decide +kernel
theorem dX8_shadow_22 : decode cX8_shadow 22 = .ok (.lreturn, 1) := by decide +kernel
theorem dX8_listShadow_0 : decode cX8_listShadow 0 = .ok (.aload_n 0, 1) := by decide +kernel
theorem dX8_listShadow_1 : decode cX8_listShadow 1 = .ok (.iload_n 1, 1) := by decide +kernel
theorem dX8_listShadow_2 : decode cX8_listShadow 2 = .ok (.invokevirtual 118, 3) := by decide +kernel
theorem dX8_listShadow_5 : decode cX8_listShadow 5 = .ok (.iload_n 2, 1) := by decide +kernel
theorem dX8_listShadow_6 : decode cX8_listShadow 6 = .ok (.invokestatic 227, 3) := by decide +kernel
theorem dX8_listShadow_9 : decode cX8_listShadow 9 = .ok (.invokestatic 92, 3) := by decide +kernel
theorem dX8_listShadow_12 : decode cX8_listShadow 12 = .ok (.aload_n 0, 1) := by decide +kernel
theorem dX8_listShadow_13 : decode cX8_listShadow 13 = .ok (.getfield 26, 3) := by decide +kernel
theorem dX8_listShadow_16 : decode cX8_listShadow 16 = .ok (.iload_n 1, 1) := by decide +kernel
theorem dX8_listShadow_17 : decode cX8_listShadow 17 = .ok (.iload_n 2, 1) := by decide +kernel
theorem dX8_listShadow_18 : decode cX8_listShadow 18 = .ok (.invokestatic 230, 3) := by decide +kernel
theorem dX8_listShadow_21 : decode cX8_listShadow 21 = .ok (.laload, 1) := by decide +kernel
theorem dX8_listShadow_22 : decode cX8_listShadow 22 = .ok (.lreturn, 1) := by decide +kernel
theorem dX8_where_0 : decode cX8_where 0 = .ok (.aload_n 0, 1) := by decide +kernel
theorem dX8_where_1 : decode cX8_where 1 = .ok (.iload_n 1, 1) := by decide +kernel
theorem dX8_where_2 : decode cX8_where 2 = .ok (.invokevirtual 114, 3) := by decide +kernel
theorem dX8_where_5 : decode cX8_where 5 = .ok (.iload_n 2, 1) := by decide +kernel
theorem dX8_where_6 : decode cX8_where 6 = .ok (.tableswitch 105 0 5 #[38, 48, 58, 68, 78, 88], 38) := by decide +kernel
theorem dX8_where_44 : decode cX8_where 44 = .ok (.aload_n 0, 1) := by decide +kernel
theorem dX8_where_45 : decode cX8_where 45 = .ok (.getfield 19, 3) := by decide +kernel
theorem dX8_where_48 : decode cX8_where 48 = .ok (.getfield 128, 3) := by decide +kernel
theorem dX8_where_51 : decode cX8_where 51 = .ok (.iload_n 1, 1) := by decide +kernel
theorem dX8_where_52 : decode cX8_where 52 = .ok (.iaload, 1) := by decide +kernel
theorem dX8_where_53 : decode cX8_where 53 = .ok (.ireturn, 1) := by decide +kernel
theorem dX8_where_54 : decode cX8_where 54 = .ok (.aload_n 0, 1) := by decide +kernel
theorem dX8_where_55 : decode cX8_where 55 = .ok (.getfield 19, 3) := by decide +kernel
theorem dX8_where_58 : decode cX8_where 58 = .ok (.getfield 148, 3) := by decide +kernel
theorem dX8_where_61 : decode cX8_where 61 = .ok (.iload_n 1, 1) := by decide +kernel
theorem dX8_where_62 : decode cX8_where 62 = .ok (.iaload, 1) := by decide +kernel
theorem dX8_where_63 : decode cX8_where 63 = .ok (.ireturn, 1) := by decide +kernel
theorem dX8_where_64 : decode cX8_where 64 = .ok (.aload_n 0, 1) := by decide +kernel
theorem dX8_where_65 : decode cX8_where 65 = .ok (.getfield 19, 3) := by decide +kernel
theorem dX8_where_68 : decode cX8_where 68 = .ok (.iload_n 1, 1) := by decide +kernel
theorem dX8_where_69 : decode cX8_where 69 = .ok (.iconst (-1), 1) := by decide +kernel
theorem dX8_where_70 : decode cX8_where 70 = .ok (.invokevirtual 233, 3) := by decide +kernel
theorem dX8_where_73 : decode cX8_where 73 = .ok (.ireturn, 1) := by decide +kernel
theorem dX8_where_74 : decode cX8_where 74 = .ok (.aload_n 0, 1) := by decide +kernel
theorem dX8_where_75 : decode cX8_where 75 = .ok (.getfield 19, 3) := by decide +kernel
theorem dX8_where_78 : decode cX8_where 78 = .ok (.iload_n 1, 1) := by decide +kernel
theorem dX8_where_79 : decode cX8_where 79 = .ok (.iconst 1, 1) := by decide +kernel
theorem dX8_where_80 : decode cX8_where 80 = .ok (.invokevirtual 233, 3) := by decide +kernel
theorem dX8_where_83 : decode cX8_where 83 = .ok (.ireturn, 1) := by decide +kernel
theorem dX8_where_84 : decode cX8_where 84 = .ok (.aload_n 0, 1) := by decide +kernel
theorem dX8_where_85 : decode cX8_where 85 = .ok (.getfield 19, 3) := by decide +kernel
theorem dX8_where_88 : decode cX8_where 88 = .ok (.getfield 168, 3) := by decide +kernel
theorem dX8_where_91 : decode cX8_where 91 = .ok (.iload_n 1, 1) := by decide +kernel
theorem dX8_where_92 : decode cX8_where 92 = .ok (.iaload, 1) := by decide +kernel
theorem dX8_where_93 : decode cX8_where 93 = .ok (.ireturn, 1) := by decide +kernel
theorem dX8_where_94 : decode cX8_where 94 = .ok (.aload_n 0, 1) := by decide +kernel
theorem dX8_where_95 : decode cX8_where 95 = .ok (.getfield 19, 3) := by decide +kernel
theorem dX8_where_98 : decode cX8_where 98 = .ok (.iload_n 1, 1) := by decide +kernel
theorem dX8_where_99 : decode cX8_where 99 = .ok (.invokevirtual 141, 3) := by decide +kernel
theorem dX8_where_102 : decode cX8_where 102 = .ok (.ifCond .eq 7, 3) := by decide +kernel
theorem dX8_where_105 : decode cX8_where 105 = .ok (.iconst 1, 1) := by decide +kernel
theorem dX8_where_106 : decode cX8_where 106 = .ok (.goto 4, 3) := by decide +kernel
theorem dX8_where_109 : decode cX8_where 109 = .ok (.iconst 0, 1) := by decide +kernel
theorem dX8_where_110 : decode cX8_where 110 = .ok (.ireturn, 1) := by decide +kernel
theorem dX8_where_111 : decode cX8_where 111 = .ok (.iload_n 2, 1) := by decide +kernel
theorem dX8_where_112 : decode cX8_where 112 = .ok (.bipush 6, 2) := by decide +kernel
theorem dX8_where_114 : decode cX8_where 114 = .ok (.if_icmp .lt 13, 3) := by decide +kernel
theorem dX8_where_117 : decode cX8_where 117 = .ok (.iload_n 2, 1) := by decide +kernel
theorem dX8_where_118 : decode cX8_where 118 = .ok (.bipush 10, 2) := by decide +kernel
theorem dX8_where_120 : decode cX8_where 120 = .ok (.if_icmp .ge 7, 3) := by decide +kernel
theorem dX8_where_123 : decode cX8_where 123 = .ok (.iconst 1, 1) := by decide +kernel
theorem dX8_where_124 : decode cX8_where 124 = .ok (.goto 4, 3) := by decide +kernel
theorem dX8_where_127 : decode cX8_where 127 = .ok (.iconst 0, 1) := by decide +kernel
theorem dX8_where_128 : decode cX8_where 128 = .ok (.invokestatic 92, 3) := by decide +kernel
theorem dX8_where_131 : decode cX8_where 131 = .ok (.aload_n 0, 1) := by decide +kernel
theorem dX8_where_132 : decode cX8_where 132 = .ok (.getfield 19, 3) := by decide +kernel
theorem dX8_where_135 : decode cX8_where 135 = .ok (.getfield 162, 3) := by decide +kernel
theorem dX8_where_138 : decode cX8_where 138 = .ok (.iconst 4, 1) := by decide +kernel
theorem dX8_where_139 : decode cX8_where 139 = .ok (.iload_n 1, 1) := by decide +kernel
theorem dX8_where_140 : decode cX8_where 140 = .ok (.imul, 1) := by decide +kernel
theorem dX8_where_141 : decode cX8_where 141 = .ok (.iload_n 2, 1) := by decide +kernel
theorem dX8_where_142 : decode cX8_where 142 = .ok (.iadd, 1) := by decide +kernel
theorem dX8_where_143 : decode cX8_where 143 = .ok (.bipush 6, 2) := by decide +kernel
theorem dX8_where_145 : decode cX8_where 145 = .ok (.isub, 1) := by decide +kernel
theorem dX8_where_146 : decode cX8_where 146 = .ok (.iaload, 1) := by decide +kernel
theorem dX8_where_147 : decode cX8_where 147 = .ok (.ireturn, 1) := by decide +kernel
theorem dX8_at_0 : decode cX8_at 0 = .ok (.aload_n 0, 1) := by decide +kernel
theorem dX8_at_1 : decode cX8_at 1 = .ok (.iload_n 1, 1) := by decide +kernel
theorem dX8_at_2 : decode cX8_at 2 = .ok (.invokevirtual 118, 3) := by decide +kernel
theorem dX8_at_5 : decode cX8_at 5 = .ok (.aload_n 0, 1) := by decide +kernel
theorem dX8_at_6 : decode cX8_at 6 = .ok (.getfield 19, 3) := by decide +kernel
theorem dX8_at_9 : decode cX8_at 9 = .ok (.iload_n 1, 1) := by decide +kernel
theorem dX8_at_10 : decode cX8_at 10 = .ok (.iload_n 2, 1) := by decide +kernel
theorem dX8_at_11 : decode cX8_at 11 = .ok (.invokevirtual 236, 3) := by decide +kernel
theorem dX8_at_14 : decode cX8_at 14 = .ok (.ireturn, 1) := by decide +kernel
theorem dX8_worked_0 : decode cX8_worked 0 = .ok (.aload_n 0, 1) := by decide +kernel
theorem dX8_worked_1 : decode cX8_worked 1 = .ok (.getfield 37, 3) := by decide +kernel
theorem dX8_worked_4 : decode cX8_worked 4 = .ok (.iload_n 1, 1) := by decide +kernel
theorem dX8_worked_5 : decode cX8_worked 5 = .ok (.invokevirtual 239, 3) := by decide +kernel
theorem dX8_worked_8 : decode cX8_worked 8 = .ok (.ireturn, 1) := by decide +kernel
theorem dX8_order_0 : decode cX8_order 0 = .ok (.aload_n 0, 1) := by decide +kernel
theorem dX8_order_1 : decode cX8_order 1 = .ok (.getfield 33, 3) := by decide +kernel
theorem dX8_order_4 : decode cX8_order 4 = .ok (.iload_n 1, 1) := by decide +kernel
theorem dX8_order_5 : decode cX8_order 5 = .ok (.invokevirtual 239, 3) := by decide +kernel
theorem dX8_order_8 : decode cX8_order 8 = .ok (.ireturn, 1) := by decide +kernel
theorem dX8_ring_0 : decode cX8_ring 0 = .ok (.aload_n 0, 1) := by decide +kernel
theorem dX8_ring_1 : decode cX8_ring 1 = .ok (.getfield 45, 3) := by decide +kernel
theorem dX8_ring_4 : decode cX8_ring 4 = .ok (.getfield 204, 3) := by decide +kernel
theorem dX8_ring_7 : decode cX8_ring 7 = .ok (.getfield 242, 3) := by decide +kernel
theorem dX8_ring_10 : decode cX8_ring 10 = .ok (.iload_n 1, 1) := by decide +kernel
theorem dX8_ring_11 : decode cX8_ring 11 = .ok (.invokevirtual 239, 3) := by decide +kernel
theorem dX8_ring_14 : decode cX8_ring 14 = .ok (.ireturn, 1) := by decide +kernel
theorem dX8_cause_0 : decode cX8_cause 0 = .ok (.iload_n 1, 1) := by decide +kernel
theorem dX8_cause_1 : decode cX8_cause 1 = .ok (.tableswitch 51 0 2 #[27, 35, 43], 27) := by decide +kernel
theorem dX8_cause_28 : decode cX8_cause 28 = .ok (.aload_n 0, 1) := by decide +kernel
theorem dX8_cause_29 : decode cX8_cause 29 = .ok (.getfield 45, 3) := by decide +kernel
theorem dX8_cause_32 : decode cX8_cause 32 = .ok (.getfield 245, 3) := by decide +kernel
theorem dX8_cause_35 : decode cX8_cause 35 = .ok (.ireturn, 1) := by decide +kernel
theorem dX8_cause_36 : decode cX8_cause 36 = .ok (.aload_n 0, 1) := by decide +kernel
theorem dX8_cause_37 : decode cX8_cause 37 = .ok (.getfield 45, 3) := by decide +kernel
theorem dX8_cause_40 : decode cX8_cause 40 = .ok (.getfield 248, 3) := by decide +kernel
theorem dX8_cause_43 : decode cX8_cause 43 = .ok (.ireturn, 1) := by decide +kernel
theorem dX8_cause_44 : decode cX8_cause 44 = .ok (.aload_n 0, 1) := by decide +kernel
theorem dX8_cause_45 : decode cX8_cause 45 = .ok (.getfield 45, 3) := by decide +kernel
theorem dX8_cause_48 : decode cX8_cause 48 = .ok (.getfield 251, 3) := by decide +kernel
theorem dX8_cause_51 : decode cX8_cause 51 = .ok (.ireturn, 1) := by decide +kernel
theorem dX8_cause_52 : decode cX8_cause 52 = .ok (.iload_n 1, 1) := by decide +kernel
theorem dX8_cause_53 : decode cX8_cause 53 = .ok (.iconst 3, 1) := by decide +kernel
theorem dX8_cause_54 : decode cX8_cause 54 = .ok (.if_icmp .ne 7, 3) := by decide +kernel
theorem dX8_cause_57 : decode cX8_cause 57 = .ok (.iconst 1, 1) := by decide +kernel
theorem dX8_cause_58 : decode cX8_cause 58 = .ok (.goto 4, 3) := by decide +kernel
theorem dX8_cause_61 : decode cX8_cause 61 = .ok (.iconst 0, 1) := by decide +kernel
theorem dX8_cause_62 : decode cX8_cause 62 = .ok (.invokestatic 92, 3) := by decide +kernel
theorem dX8_cause_65 : decode cX8_cause 65 = .ok (.aload_n 0, 1) := by decide +kernel
theorem dX8_cause_66 : decode cX8_cause 66 = .ok (.getfield 45, 3) := by decide +kernel
theorem dX8_cause_69 : decode cX8_cause 69 = .ok (.getfield 254, 3) := by decide +kernel
theorem dX8_cause_72 : decode cX8_cause 72 = .ok (.ireturn, 1) := by decide +kernel
theorem dX8_count_0 : decode cX8_count 0 = .ok (.iload_n 1, 1) := by decide +kernel
theorem dX8_count_1 : decode cX8_count 1 = .ok (.tableswitch 81 0 5 #[39, 47, 55, 63, 71, 76], 39) := by decide +kernel
theorem dX8_count_40 : decode cX8_count 40 = .ok (.aload_n 0, 1) := by decide +kernel
theorem dX8_count_41 : decode cX8_count 41 = .ok (.getfield 10, 3) := by decide +kernel
theorem dX8_count_44 : decode cX8_count 44 = .ok (.getfield 59, 3) := by decide +kernel
theorem dX8_count_47 : decode cX8_count 47 = .ok (.ireturn, 1) := by decide +kernel
theorem dX8_count_48 : decode cX8_count 48 = .ok (.aload_n 0, 1) := by decide +kernel
theorem dX8_count_49 : decode cX8_count 49 = .ok (.getfield 10, 3) := by decide +kernel
theorem dX8_count_52 : decode cX8_count 52 = .ok (.getfield 74, 3) := by decide +kernel
theorem dX8_count_55 : decode cX8_count 55 = .ok (.ireturn, 1) := by decide +kernel
theorem dX8_count_56 : decode cX8_count 56 = .ok (.aload_n 0, 1) := by decide +kernel
theorem dX8_count_57 : decode cX8_count 57 = .ok (.getfield 33, 3) := by decide +kernel
theorem dX8_count_60 : decode cX8_count 60 = .ok (.getfield 257, 3) := by decide +kernel
theorem dX8_count_63 : decode cX8_count 63 = .ok (.ireturn, 1) := by decide +kernel
theorem dX8_count_64 : decode cX8_count 64 = .ok (.aload_n 0, 1) := by decide +kernel
theorem dX8_count_65 : decode cX8_count 65 = .ok (.getfield 52, 3) := by decide +kernel
theorem dX8_count_68 : decode cX8_count 68 = .ok (.getfield 260, 3) := by decide +kernel
theorem dX8_count_71 : decode cX8_count 71 = .ok (.ireturn, 1) := by decide +kernel
theorem dX8_count_72 : decode cX8_count 72 = .ok (.aload_n 0, 1) := by decide +kernel
theorem dX8_count_73 : decode cX8_count 73 = .ok (.getfield 261, 3) := by decide +kernel
theorem dX8_count_76 : decode cX8_count 76 = .ok (.ireturn, 1) := by decide +kernel
theorem dX8_count_77 : decode cX8_count 77 = .ok (.aload_n 0, 1) := by decide +kernel
theorem dX8_count_78 : decode cX8_count 78 = .ok (.getfield 104, 3) := by decide +kernel
theorem dX8_count_81 : decode cX8_count 81 = .ok (.ireturn, 1) := by decide +kernel
theorem dX8_count_82 : decode cX8_count 82 = .ok (.iload_n 1, 1) := by decide +kernel
theorem dX8_count_83 : decode cX8_count 83 = .ok (.bipush 6, 2) := by decide +kernel
theorem dX8_count_85 : decode cX8_count 85 = .ok (.if_icmp .ne 7, 3) := by decide +kernel
theorem dX8_count_88 : decode cX8_count 88 = .ok (.iconst 1, 1) := by decide +kernel
theorem dX8_count_89 : decode cX8_count 89 = .ok (.goto 4, 3) := by decide +kernel
theorem dX8_count_92 : decode cX8_count 92 = .ok (.iconst 0, 1) := by decide +kernel
theorem dX8_count_93 : decode cX8_count 93 = .ok (.invokestatic 92, 3) := by decide +kernel
theorem dX8_count_96 : decode cX8_count 96 = .ok (.aload_n 0, 1) := by decide +kernel
theorem dX8_count_97 : decode cX8_count 97 = .ok (.getfield 179, 3) := by decide +kernel
theorem dX8_count_100 : decode cX8_count 100 = .ok (.ireturn, 1) := by decide +kernel
theorem dX8_isSame_0 : decode cX8_isSame 0 = .ok (.aload_n 0, 1) := by decide +kernel
theorem dX8_isSame_1 : decode cX8_isSame 1 = .ok (.getfield 45, 3) := by decide +kernel
theorem dX8_isSame_4 : decode cX8_isSame 4 = .ok (.aload_n 0, 1) := by decide +kernel
theorem dX8_isSame_5 : decode cX8_isSame 5 = .ok (.getfield 23, 3) := by decide +kernel
theorem dX8_isSame_8 : decode cX8_isSame 8 = .ok (.aload_n 0, 1) := by decide +kernel
theorem dX8_isSame_9 : decode cX8_isSame 9 = .ok (.getfield 26, 3) := by decide +kernel
theorem dX8_isSame_12 : decode cX8_isSame 12 = .ok (.aload_n 0, 1) := by decide +kernel
theorem dX8_isSame_13 : decode cX8_isSame 13 = .ok (.getfield 33, 3) := by decide +kernel
theorem dX8_isSame_16 : decode cX8_isSame 16 = .ok (.invokevirtual 264, 3) := by decide +kernel
theorem dX8_isSame_19 : decode cX8_isSame 19 = .ok (.ireturn, 1) := by decide +kernel
theorem dX8_needOpenBook_0 : decode cX8_needOpenBook 0 = .ok (.aload_n 0, 1) := by decide +kernel
theorem dX8_needOpenBook_1 : decode cX8_needOpenBook 1 = .ok (.getfield 107, 3) := by decide +kernel
theorem dX8_needOpenBook_4 : decode cX8_needOpenBook 4 = .ok (.ifCond .eq 14, 3) := by decide +kernel
theorem dX8_needOpenBook_7 : decode cX8_needOpenBook 7 = .ok (.new 63, 3) := by decide +kernel
theorem dX8_needOpenBook_10 : decode cX8_needOpenBook 10 = .ok (.dup, 1) := by decide +kernel
theorem dX8_needOpenBook_11 : decode cX8_needOpenBook 11 = .ok (.ldc_w 268, 3) := by decide +kernel
theorem dX8_needOpenBook_14 : decode cX8_needOpenBook 14 = .ok (.invokespecial 67, 3) := by decide +kernel
theorem dX8_needOpenBook_17 : decode cX8_needOpenBook 17 = .ok (.athrow, 1) := by decide +kernel
theorem dX8_needOpenBook_18 : decode cX8_needOpenBook 18 = .ok (.return_, 1) := by decide +kernel
theorem dX8_needClosedBook_0 : decode cX8_needClosedBook 0 = .ok (.aload_n 0, 1) := by decide +kernel
theorem dX8_needClosedBook_1 : decode cX8_needClosedBook 1 = .ok (.getfield 107, 3) := by decide +kernel
theorem dX8_needClosedBook_4 : decode cX8_needClosedBook 4 = .ok (.ifCond .ne 14, 3) := by decide +kernel
theorem dX8_needClosedBook_7 : decode cX8_needClosedBook 7 = .ok (.new 63, 3) := by decide +kernel
theorem dX8_needClosedBook_10 : decode cX8_needClosedBook 10 = .ok (.dup, 1) := by decide +kernel
theorem dX8_needClosedBook_11 : decode cX8_needClosedBook 11 = .ok (.ldc_w 270, 3) := by decide +kernel
theorem dX8_needClosedBook_14 : decode cX8_needClosedBook 14 = .ok (.invokespecial 67, 3) := by decide +kernel
theorem dX8_needClosedBook_17 : decode cX8_needClosedBook 17 = .ok (.athrow, 1) := by decide +kernel
theorem dX8_needClosedBook_18 : decode cX8_needClosedBook 18 = .ok (.return_, 1) := by decide +kernel
theorem dX8_needGroup_0 : decode cX8_needGroup 0 = .ok (.aload_n 0, 1) := by decide +kernel
theorem dX8_needGroup_1 : decode cX8_needGroup 1 = .ok (.getfield 107, 3) := by decide +kernel
theorem dX8_needGroup_4 : decode cX8_needGroup 4 = .ok (.ifCond .eq 10, 3) := by decide +kernel
theorem dX8_needGroup_7 : decode cX8_needGroup 7 = .ok (.aload_n 0, 1) := by decide +kernel
theorem dX8_needGroup_8 : decode cX8_needGroup 8 = .ok (.getfield 171, 3) := by decide +kernel
theorem dX8_needGroup_11 : decode cX8_needGroup 11 = .ok (.ifCond .ne 14, 3) := by decide +kernel
theorem dX8_needGroup_14 : decode cX8_needGroup 14 = .ok (.new 63, 3) := by decide +kernel
theorem dX8_needGroup_17 : decode cX8_needGroup 17 = .ok (.dup, 1) := by decide +kernel
theorem dX8_needGroup_18 : decode cX8_needGroup 18 = .ok (.ldc_w 272, 3) := by decide +kernel
theorem dX8_needGroup_21 : decode cX8_needGroup 21 = .ok (.invokespecial 67, 3) := by decide +kernel
theorem dX8_needGroup_24 : decode cX8_needGroup 24 = .ok (.athrow, 1) := by decide +kernel
theorem dX8_needGroup_25 : decode cX8_needGroup 25 = .ok (.return_, 1) := by decide +kernel
theorem dX8_needThing_0 : decode cX8_needThing 0 = .ok (.iload_n 1, 1) := by decide +kernel
theorem dX8_needThing_1 : decode cX8_needThing 1 = .ok (.ifCond .lt 14, 3) := by decide +kernel
theorem dX8_needThing_4 : decode cX8_needThing 4 = .ok (.iload_n 1, 1) := by decide +kernel
theorem dX8_needThing_5 : decode cX8_needThing 5 = .ok (.aload_n 0, 1) := by decide +kernel
theorem dX8_needThing_6 : decode cX8_needThing 6 = .ok (.getfield 10, 3) := by decide +kernel
theorem dX8_needThing_9 : decode cX8_needThing 9 = .ok (.getfield 59, 3) := by decide +kernel
theorem dX8_needThing_12 : decode cX8_needThing 12 = .ok (.if_icmp .lt 14, 3) := by decide +kernel
theorem dX8_needThing_15 : decode cX8_needThing 15 = .ok (.new 274, 3) := by decide +kernel
theorem dX8_needThing_18 : decode cX8_needThing 18 = .ok (.dup, 1) := by decide +kernel
theorem dX8_needThing_19 : decode cX8_needThing 19 = .ok (.ldc_w 276, 3) := by decide +kernel
theorem dX8_needThing_22 : decode cX8_needThing 22 = .ok (.invokespecial 278, 3) := by decide +kernel
theorem dX8_needThing_25 : decode cX8_needThing 25 = .ok (.athrow, 1) := by decide +kernel
theorem dX8_needThing_26 : decode cX8_needThing 26 = .ok (.return_, 1) := by decide +kernel
theorem dX8_needList_0 : decode cX8_needList 0 = .ok (.iload_n 1, 1) := by decide +kernel
theorem dX8_needList_1 : decode cX8_needList 1 = .ok (.ifCond .lt 14, 3) := by decide +kernel
theorem dX8_needList_4 : decode cX8_needList 4 = .ok (.iload_n 1, 1) := by decide +kernel
theorem dX8_needList_5 : decode cX8_needList 5 = .ok (.aload_n 0, 1) := by decide +kernel
theorem dX8_needList_6 : decode cX8_needList 6 = .ok (.getfield 10, 3) := by decide +kernel
theorem dX8_needList_9 : decode cX8_needList 9 = .ok (.getfield 74, 3) := by decide +kernel
theorem dX8_needList_12 : decode cX8_needList 12 = .ok (.if_icmp .lt 14, 3) := by decide +kernel
theorem dX8_needList_15 : decode cX8_needList 15 = .ok (.new 274, 3) := by decide +kernel
theorem dX8_needList_18 : decode cX8_needList 18 = .ok (.dup, 1) := by decide +kernel
theorem dX8_needList_19 : decode cX8_needList 19 = .ok (.ldc_w 279, 3) := by decide +kernel
theorem dX8_needList_22 : decode cX8_needList 22 = .ok (.invokespecial 278, 3) := by decide +kernel
theorem dX8_needList_25 : decode cX8_needList 25 = .ok (.athrow, 1) := by decide +kernel
theorem dX8_needList_26 : decode cX8_needList 26 = .ok (.return_, 1) := by decide +kernel
theorem dX8_need_0 : decode cX8_need 0 = .ok (.iload_n 0, 1) := by decide +kernel
theorem dX8_need_1 : decode cX8_need 1 = .ok (.ifCond .ne 14, 3) := by decide +kernel
theorem dX8_need_4 : decode cX8_need 4 = .ok (.new 281, 3) := by decide +kernel
theorem dX8_need_7 : decode cX8_need 7 = .ok (.dup, 1) := by decide +kernel
theorem dX8_need_8 : decode cX8_need 8 = .ok (.ldc_w 283, 3) := by decide +kernel
theorem dX8_need_11 : decode cX8_need 11 = .ok (.invokespecial 285, 3) := by decide +kernel
theorem dX8_need_14 : decode cX8_need 14 = .ok (.athrow, 1) := by decide +kernel
theorem dX8_need_15 : decode cX8_need 15 = .ok (.return_, 1) := by decide +kernel
theorem dX8_settle_0 : decode cX8_settle 0 = .ok (.aload_n 0, 1) := by decide +kernel
theorem dX8_settle_1 : decode cX8_settle 1 = .ok (.getfield 171, 3) := by decide +kernel
theorem dX8_settle_4 : decode cX8_settle 4 = .ok (.ifCond .eq 15, 3) := by decide +kernel
theorem dX8_settle_7 : decode cX8_settle 7 = .ok (.aload_n 0, 1) := by decide +kernel
theorem dX8_settle_8 : decode cX8_settle 8 = .ok (.dup, 1) := by decide +kernel
theorem dX8_settle_9 : decode cX8_settle 9 = .ok (.getfield 179, 3) := by decide +kernel
theorem dX8_settle_12 : decode cX8_settle 12 = .ok (.iconst 1, 1) := by decide +kernel
theorem dX8_settle_13 : decode cX8_settle 13 = .ok (.iadd, 1) := by decide +kernel
theorem dX8_settle_14 : decode cX8_settle 14 = .ok (.putfield 179, 3) := by decide +kernel
theorem dX8_settle_17 : decode cX8_settle 17 = .ok (.iconst 0, 1) := by decide +kernel
theorem dX8_settle_18 : decode cX8_settle 18 = .ok (.ireturn, 1) := by decide +kernel
theorem dX8_settle_19 : decode cX8_settle 19 = .ok (.aload_n 0, 1) := by decide +kernel
theorem dX8_settle_20 : decode cX8_settle 20 = .ok (.getfield 45, 3) := by decide +kernel
theorem dX8_settle_23 : decode cX8_settle 23 = .ok (.aload_n 0, 1) := by decide +kernel
theorem dX8_settle_24 : decode cX8_settle 24 = .ok (.getfield 23, 3) := by decide +kernel
theorem dX8_settle_27 : decode cX8_settle 27 = .ok (.aload_n 0, 1) := by decide +kernel
theorem dX8_settle_28 : decode cX8_settle 28 = .ok (.getfield 19, 3) := by decide +kernel
theorem dX8_settle_31 : decode cX8_settle 31 = .ok (.aload_n 0, 1) := by decide +kernel
theorem dX8_settle_32 : decode cX8_settle 32 = .ok (.getfield 26, 3) := by decide +kernel
theorem dX8_settle_35 : decode cX8_settle 35 = .ok (.iconst 0, 1) := by decide +kernel
theorem dX8_settle_36 : decode cX8_settle 36 = .ok (.invokevirtual 100, 3) := by decide +kernel
theorem dX8_settle_39 : decode cX8_settle 39 = .ok (.istore_n 1, 1) := by decide +kernel
theorem dX8_settle_40 : decode cX8_settle 40 = .ok (.iload_n 1, 1) := by decide +kernel
theorem dX8_settle_41 : decode cX8_settle 41 = .ok (.ifCond .ge 26, 3) := by decide +kernel
theorem dX8_settle_44 : decode cX8_settle 44 = .ok (.aload_n 0, 1) := by decide +kernel
theorem dX8_settle_45 : decode cX8_settle 45 = .ok (.dup, 1) := by decide +kernel
theorem dX8_settle_46 : decode cX8_settle 46 = .ok (.getfield 104, 3) := by decide +kernel
theorem dX8_settle_49 : decode cX8_settle 49 = .ok (.iconst 1, 1) := by decide +kernel
theorem dX8_settle_50 : decode cX8_settle 50 = .ok (.iadd, 1) := by decide +kernel
theorem dX8_settle_51 : decode cX8_settle 51 = .ok (.putfield 104, 3) := by decide +kernel
theorem dX8_settle_54 : decode cX8_settle 54 = .ok (.aload_n 0, 1) := by decide +kernel
theorem dX8_settle_55 : decode cX8_settle 55 = .ok (.getfield 19, 3) := by decide +kernel
theorem dX8_settle_58 : decode cX8_settle 58 = .ok (.aload_n 0, 1) := by decide +kernel
theorem dX8_settle_59 : decode cX8_settle 59 = .ok (.getfield 23, 3) := by decide +kernel
theorem dX8_settle_62 : decode cX8_settle 62 = .ok (.invokevirtual 182, 3) := by decide +kernel
theorem dX8_settle_65 : decode cX8_settle 65 = .ok (.iload_n 1, 1) := by decide +kernel
theorem dX8_settle_66 : decode cX8_settle 66 = .ok (.ireturn, 1) := by decide +kernel
theorem dX8_settle_67 : decode cX8_settle 67 = .ok (.aload_n 0, 1) := by decide +kernel
theorem dX8_settle_68 : decode cX8_settle 68 = .ok (.getfield 52, 3) := by decide +kernel
theorem dX8_settle_71 : decode cX8_settle 71 = .ok (.aload_n 0, 1) := by decide +kernel
theorem dX8_settle_72 : decode cX8_settle 72 = .ok (.getfield 23, 3) := by decide +kernel
theorem dX8_settle_75 : decode cX8_settle 75 = .ok (.aload_n 0, 1) := by decide +kernel
theorem dX8_settle_76 : decode cX8_settle 76 = .ok (.getfield 26, 3) := by decide +kernel
theorem dX8_settle_79 : decode cX8_settle 79 = .ok (.invokevirtual 286, 3) := by decide +kernel
theorem dX8_settle_82 : decode cX8_settle 82 = .ok (.aload_n 0, 1) := by decide +kernel
theorem dX8_settle_83 : decode cX8_settle 83 = .ok (.getfield 23, 3) := by decide +kernel
theorem dX8_settle_86 : decode cX8_settle 86 = .ok (.aload_n 0, 1) := by decide +kernel
theorem dX8_settle_87 : decode cX8_settle 87 = .ok (.getfield 19, 3) := by decide +kernel
theorem dX8_settle_90 : decode cX8_settle 90 = .ok (.invokevirtual 182, 3) := by decide +kernel
theorem dX8_settle_93 : decode cX8_settle 93 = .ok (.aload_n 0, 1) := by decide +kernel
theorem dX8_settle_94 : decode cX8_settle 94 = .ok (.invokevirtual 111, 3) := by decide +kernel
theorem dX8_settle_97 : decode cX8_settle 97 = .ok (.iload_n 1, 1) := by decide +kernel
theorem dX8_settle_98 : decode cX8_settle 98 = .ok (.ireturn, 1) := by decide +kernel
theorem dX8_accept_0 : decode cX8_accept 0 = .ok (.aload_n 0, 1) := by decide +kernel
theorem dX8_accept_1 : decode cX8_accept 1 = .ok (.getfield 45, 3) := by decide +kernel
theorem dX8_accept_4 : decode cX8_accept 4 = .ok (.getfield 290, 3) := by decide +kernel
theorem dX8_accept_7 : decode cX8_accept 7 = .ok (.iconst 0, 1) := by decide +kernel
theorem dX8_accept_8 : decode cX8_accept 8 = .ok (.aload_n 0, 1) := by decide +kernel
theorem dX8_accept_9 : decode cX8_accept 9 = .ok (.getfield 26, 3) := by decide +kernel
theorem dX8_accept_12 : decode cX8_accept 12 = .ok (.iconst 0, 1) := by decide +kernel
theorem dX8_accept_13 : decode cX8_accept 13 = .ok (.sipush 258, 3) := by decide +kernel
theorem dX8_accept_16 : decode cX8_accept 16 = .ok (.invokestatic 198, 3) := by decide +kernel
theorem dX8_accept_19 : decode cX8_accept 19 = .ok (.aload_n 0, 1) := by decide +kernel
theorem dX8_accept_20 : decode cX8_accept 20 = .ok (.getfield 33, 3) := by decide +kernel
theorem dX8_accept_23 : decode cX8_accept 23 = .ok (.aload_n 0, 1) := by decide +kernel
theorem dX8_accept_24 : decode cX8_accept 24 = .ok (.getfield 45, 3) := by decide +kernel
theorem dX8_accept_27 : decode cX8_accept 27 = .ok (.getfield 204, 3) := by decide +kernel
theorem dX8_accept_30 : decode cX8_accept 30 = .ok (.getfield 214, 3) := by decide +kernel
theorem dX8_accept_33 : decode cX8_accept 33 = .ok (.invokevirtual 215, 3) := by decide +kernel
theorem dX8_accept_36 : decode cX8_accept 36 = .ok (.aload_n 0, 1) := by decide +kernel
theorem dX8_accept_37 : decode cX8_accept 37 = .ok (.getfield 37, 3) := by decide +kernel
theorem dX8_accept_40 : decode cX8_accept 40 = .ok (.aload_n 0, 1) := by decide +kernel
theorem dX8_accept_41 : decode cX8_accept 41 = .ok (.getfield 45, 3) := by decide +kernel
theorem dX8_accept_44 : decode cX8_accept 44 = .ok (.getfield 293, 3) := by decide +kernel
theorem dX8_accept_47 : decode cX8_accept 47 = .ok (.invokevirtual 215, 3) := by decide +kernel
theorem dX8_accept_50 : decode cX8_accept 50 = .ok (.aload_n 0, 1) := by decide +kernel
theorem dX8_accept_51 : decode cX8_accept 51 = .ok (.dup, 1) := by decide +kernel
theorem dX8_accept_52 : decode cX8_accept 52 = .ok (.getfield 261, 3) := by decide +kernel
theorem dX8_accept_55 : decode cX8_accept 55 = .ok (.aload_n 0, 1) := by decide +kernel
theorem dX8_accept_56 : decode cX8_accept 56 = .ok (.getfield 37, 3) := by decide +kernel
theorem dX8_accept_59 : decode cX8_accept 59 = .ok (.getfield 257, 3) := by decide +kernel
theorem dX8_accept_62 : decode cX8_accept 62 = .ok (.iadd, 1) := by decide +kernel
theorem dX8_accept_63 : decode cX8_accept 63 = .ok (.putfield 261, 3) := by decide +kernel
theorem dX8_accept_66 : decode cX8_accept 66 = .ok (.return_, 1) := by decide +kernel
theorem dX8_changesTo_0 : decode cX8_changesTo 0 = .ok (.iconst 0, 1) := by decide +kernel
theorem dX8_changesTo_1 : decode cX8_changesTo 1 = .ok (.istore_n 2, 1) := by decide +kernel
theorem dX8_changesTo_2 : decode cX8_changesTo 2 = .ok (.iconst 0, 1) := by decide +kernel
theorem dX8_changesTo_3 : decode cX8_changesTo 3 = .ok (.istore_n 3, 1) := by decide +kernel
theorem dX8_changesTo_4 : decode cX8_changesTo 4 = .ok (.iload_n 3, 1) := by decide +kernel
theorem dX8_changesTo_5 : decode cX8_changesTo 5 = .ok (.sipush 258, 3) := by decide +kernel
theorem dX8_changesTo_8 : decode cX8_changesTo 8 = .ok (.if_icmp .ge 67, 3) := by decide +kernel
theorem dX8_changesTo_11 : decode cX8_changesTo 11 = .ok (.aload_n 0, 1) := by decide +kernel
theorem dX8_changesTo_12 : decode cX8_changesTo 12 = .ok (.getfield 10, 3) := by decide +kernel
theorem dX8_changesTo_15 : decode cX8_changesTo 15 = .ok (.aload_n 0, 1) := by decide +kernel
theorem dX8_changesTo_16 : decode cX8_changesTo 16 = .ok (.getfield 23, 3) := by decide +kernel
theorem dX8_changesTo_19 : decode cX8_changesTo 19 = .ok (.iload_n 3, 1) := by decide +kernel
theorem dX8_changesTo_20 : decode cX8_changesTo 20 = .ok (.invokevirtual 294, 3) := by decide +kernel
theorem dX8_changesTo_23 : decode cX8_changesTo 23 = .ok (.aload_n 0, 1) := by decide +kernel
theorem dX8_changesTo_24 : decode cX8_changesTo 24 = .ok (.getfield 10, 3) := by decide +kernel
theorem dX8_changesTo_27 : decode cX8_changesTo 27 = .ok (.aload_n 1, 1) := by decide +kernel
theorem dX8_changesTo_28 : decode cX8_changesTo 28 = .ok (.getfield 194, 3) := by decide +kernel
theorem dX8_changesTo_31 : decode cX8_changesTo 31 = .ok (.iload_n 3, 1) := by decide +kernel
theorem dX8_changesTo_32 : decode cX8_changesTo 32 = .ok (.invokevirtual 294, 3) := by decide +kernel
theorem dX8_changesTo_35 : decode cX8_changesTo 35 = .ok (.if_icmp .eq 7, 3) := by decide +kernel
theorem dX8_changesTo_38 : decode cX8_changesTo 38 = .ok (.iconst 1, 1) := by decide +kernel
theorem dX8_changesTo_39 : decode cX8_changesTo 39 = .ok (.goto 4, 3) := by decide +kernel
theorem dX8_changesTo_42 : decode cX8_changesTo 42 = .ok (.iconst 0, 1) := by decide +kernel
theorem dX8_changesTo_43 : decode cX8_changesTo 43 = .ok (.istore 4, 2) := by decide +kernel
theorem dX8_changesTo_45 : decode cX8_changesTo 45 = .ok (.iload 4, 2) := by decide +kernel
theorem dX8_changesTo_47 : decode cX8_changesTo 47 = .ok (.ifCond .ne 19, 3) := by decide +kernel
theorem dX8_changesTo_50 : decode cX8_changesTo 50 = .ok (.aload_n 0, 1) := by decide +kernel
theorem dX8_changesTo_51 : decode cX8_changesTo 51 = .ok (.getfield 26, 3) := by decide +kernel
theorem dX8_changesTo_54 : decode cX8_changesTo 54 = .ok (.iload_n 3, 1) := by decide +kernel
theorem dX8_changesTo_55 : decode cX8_changesTo 55 = .ok (.laload, 1) := by decide +kernel
theorem dX8_changesTo_56 : decode cX8_changesTo 56 = .ok (.aload_n 1, 1) := by decide +kernel
theorem dX8_changesTo_57 : decode cX8_changesTo 57 = .ok (.getfield 197, 3) := by decide +kernel
theorem dX8_changesTo_60 : decode cX8_changesTo 60 = .ok (.iload_n 3, 1) := by decide +kernel
theorem dX8_changesTo_61 : decode cX8_changesTo 61 = .ok (.laload, 1) := by decide +kernel
theorem dX8_changesTo_62 : decode cX8_changesTo 62 = .ok (.lcmp, 1) := by decide +kernel
theorem dX8_changesTo_63 : decode cX8_changesTo 63 = .ok (.ifCond .eq 6, 3) := by decide +kernel
theorem dX8_changesTo_66 : decode cX8_changesTo 66 = .ok (.iinc 2 1, 3) := by decide +kernel
theorem dX8_changesTo_69 : decode cX8_changesTo 69 = .ok (.iinc 3 1, 3) := by decide +kernel
theorem dX8_changesTo_72 : decode cX8_changesTo 72 = .ok (.goto (-68), 3) := by decide +kernel
theorem dX8_changesTo_75 : decode cX8_changesTo 75 = .ok (.iload_n 2, 1) := by decide +kernel
theorem dX8_changesTo_76 : decode cX8_changesTo 76 = .ok (.ireturn, 1) := by decide +kernel
theorem dX8_isThingKind_0 : decode cX8_isThingKind 0 = .ok (.iload_n 0, 1) := by decide +kernel
theorem dX8_isThingKind_1 : decode cX8_isThingKind 1 = .ok (.ifCond .lt 13, 3) := by decide +kernel
theorem dX8_isThingKind_4 : decode cX8_isThingKind 4 = .ok (.iload_n 0, 1) := by decide +kernel
theorem dX8_isThingKind_5 : decode cX8_isThingKind 5 = .ok (.bipush 6, 2) := by decide +kernel
theorem dX8_isThingKind_7 : decode cX8_isThingKind 7 = .ok (.if_icmp .ge 7, 3) := by decide +kernel
theorem dX8_isThingKind_10 : decode cX8_isThingKind 10 = .ok (.iconst 1, 1) := by decide +kernel
theorem dX8_isThingKind_11 : decode cX8_isThingKind 11 = .ok (.goto 4, 3) := by decide +kernel
theorem dX8_isThingKind_14 : decode cX8_isThingKind 14 = .ok (.iconst 0, 1) := by decide +kernel
theorem dX8_isThingKind_15 : decode cX8_isThingKind 15 = .ok (.ireturn, 1) := by decide +kernel
theorem dX8_isListKind_0 : decode cX8_isListKind 0 = .ok (.iload_n 0, 1) := by decide +kernel
theorem dX8_isListKind_1 : decode cX8_isListKind 1 = .ok (.bipush 6, 2) := by decide +kernel
theorem dX8_isListKind_3 : decode cX8_isListKind 3 = .ok (.if_icmp .lt 13, 3) := by decide +kernel
theorem dX8_isListKind_6 : decode cX8_isListKind 6 = .ok (.iload_n 0, 1) := by decide +kernel
theorem dX8_isListKind_7 : decode cX8_isListKind 7 = .ok (.bipush 9, 2) := by decide +kernel
theorem dX8_isListKind_9 : decode cX8_isListKind 9 = .ok (.if_icmp .ge 7, 3) := by decide +kernel
theorem dX8_isListKind_12 : decode cX8_isListKind 12 = .ok (.iconst 1, 1) := by decide +kernel
theorem dX8_isListKind_13 : decode cX8_isListKind 13 = .ok (.goto 4, 3) := by decide +kernel
theorem dX8_isListKind_16 : decode cX8_isListKind 16 = .ok (.iconst 0, 1) := by decide +kernel
theorem dX8_isListKind_17 : decode cX8_isListKind 17 = .ok (.ireturn, 1) := by decide +kernel
theorem dX8_isOfThing_0 : decode cX8_isOfThing 0 = .ok (.iload_n 0, 1) := by decide +kernel
theorem dX8_isOfThing_1 : decode cX8_isOfThing 1 = .ok (.sipush 240, 3) := by decide +kernel
theorem dX8_isOfThing_4 : decode cX8_isOfThing 4 = .ok (.if_icmp .ge 7, 3) := by decide +kernel
theorem dX8_isOfThing_7 : decode cX8_isOfThing 7 = .ok (.iconst 1, 1) := by decide +kernel
theorem dX8_isOfThing_8 : decode cX8_isOfThing 8 = .ok (.goto 4, 3) := by decide +kernel
theorem dX8_isOfThing_11 : decode cX8_isOfThing 11 = .ok (.iconst 0, 1) := by decide +kernel
theorem dX8_isOfThing_12 : decode cX8_isOfThing 12 = .ok (.ireturn, 1) := by decide +kernel
theorem dX8_shadowOf_0 : decode cX8_shadowOf 0 = .ok (.bipush 6, 2) := by decide +kernel
theorem dX8_shadowOf_2 : decode cX8_shadowOf 2 = .ok (.iload_n 0, 1) := by decide +kernel
theorem dX8_shadowOf_3 : decode cX8_shadowOf 3 = .ok (.imul, 1) := by decide +kernel
theorem dX8_shadowOf_4 : decode cX8_shadowOf 4 = .ok (.iload_n 1, 1) := by decide +kernel
theorem dX8_shadowOf_5 : decode cX8_shadowOf 5 = .ok (.iadd, 1) := by decide +kernel
theorem dX8_shadowOf_6 : decode cX8_shadowOf 6 = .ok (.ireturn, 1) := by decide +kernel
theorem dX8_shadowOfList_0 : decode cX8_shadowOfList 0 = .ok (.sipush 240, 3) := by decide +kernel
theorem dX8_shadowOfList_3 : decode cX8_shadowOfList 3 = .ok (.iconst 3, 1) := by decide +kernel
theorem dX8_shadowOfList_4 : decode cX8_shadowOfList 4 = .ok (.iload_n 0, 1) := by decide +kernel
theorem dX8_shadowOfList_5 : decode cX8_shadowOfList 5 = .ok (.imul, 1) := by decide +kernel
theorem dX8_shadowOfList_6 : decode cX8_shadowOfList 6 = .ok (.iadd, 1) := by decide +kernel
theorem dX8_shadowOfList_7 : decode cX8_shadowOfList 7 = .ok (.iload_n 1, 1) := by decide +kernel
theorem dX8_shadowOfList_8 : decode cX8_shadowOfList 8 = .ok (.iadd, 1) := by decide +kernel
theorem dX8_shadowOfList_9 : decode cX8_shadowOfList 9 = .ok (.bipush 6, 2) := by decide +kernel
theorem dX8_shadowOfList_11 : decode cX8_shadowOfList 11 = .ok (.isub, 1) := by decide +kernel
theorem dX8_shadowOfList_12 : decode cX8_shadowOfList 12 = .ok (.ireturn, 1) := by decide +kernel
theorem dX8_ownerOf_0 : decode cX8_ownerOf 0 = .ok (.iload_n 0, 1) := by decide +kernel
theorem dX8_ownerOf_1 : decode cX8_ownerOf 1 = .ok (.sipush 240, 3) := by decide +kernel
theorem dX8_ownerOf_4 : decode cX8_ownerOf 4 = .ok (.if_icmp .ge 10, 3) := by decide +kernel
theorem dX8_ownerOf_7 : decode cX8_ownerOf 7 = .ok (.iload_n 0, 1) := by decide +kernel
theorem dX8_ownerOf_8 : decode cX8_ownerOf 8 = .ok (.bipush 6, 2) := by decide +kernel
theorem dX8_ownerOf_10 : decode cX8_ownerOf 10 = .ok (.idiv, 1) := by decide +kernel
theorem dX8_ownerOf_11 : decode cX8_ownerOf 11 = .ok (.goto 10, 3) := by decide +kernel
theorem dX8_ownerOf_14 : decode cX8_ownerOf 14 = .ok (.iload_n 0, 1) := by decide +kernel
theorem dX8_ownerOf_15 : decode cX8_ownerOf 15 = .ok (.sipush 240, 3) := by decide +kernel
theorem dX8_ownerOf_18 : decode cX8_ownerOf 18 = .ok (.isub, 1) := by decide +kernel
theorem dX8_ownerOf_19 : decode cX8_ownerOf 19 = .ok (.iconst 3, 1) := by decide +kernel
theorem dX8_ownerOf_20 : decode cX8_ownerOf 20 = .ok (.idiv, 1) := by decide +kernel
theorem dX8_ownerOf_21 : decode cX8_ownerOf 21 = .ok (.ireturn, 1) := by decide +kernel
theorem dX8_kindOf_0 : decode cX8_kindOf 0 = .ok (.iload_n 0, 1) := by decide +kernel
theorem dX8_kindOf_1 : decode cX8_kindOf 1 = .ok (.sipush 240, 3) := by decide +kernel
theorem dX8_kindOf_4 : decode cX8_kindOf 4 = .ok (.if_icmp .ge 10, 3) := by decide +kernel
theorem dX8_kindOf_7 : decode cX8_kindOf 7 = .ok (.iload_n 0, 1) := by decide +kernel
theorem dX8_kindOf_8 : decode cX8_kindOf 8 = .ok (.bipush 6, 2) := by decide +kernel
theorem dX8_kindOf_10 : decode cX8_kindOf 10 = .ok (.irem, 1) := by decide +kernel
theorem dX8_kindOf_11 : decode cX8_kindOf 11 = .ok (.goto 13, 3) := by decide +kernel
theorem dX8_kindOf_14 : decode cX8_kindOf 14 = .ok (.bipush 6, 2) := by decide +kernel
theorem dX8_kindOf_16 : decode cX8_kindOf 16 = .ok (.iload_n 0, 1) := by decide +kernel
theorem dX8_kindOf_17 : decode cX8_kindOf 17 = .ok (.sipush 240, 3) := by decide +kernel
theorem dX8_kindOf_20 : decode cX8_kindOf 20 = .ok (.isub, 1) := by decide +kernel
theorem dX8_kindOf_21 : decode cX8_kindOf 21 = .ok (.iconst 3, 1) := by decide +kernel
theorem dX8_kindOf_22 : decode cX8_kindOf 22 = .ok (.irem, 1) := by decide +kernel
theorem dX8_kindOf_23 : decode cX8_kindOf 23 = .ok (.iadd, 1) := by decide +kernel
theorem dX8_kindOf_24 : decode cX8_kindOf 24 = .ok (.ireturn, 1) := by decide +kernel
theorem dX8_isOverAll_0 : decode cX8_isOverAll 0 = .ok (.iload_n 0, 1) := by decide +kernel
theorem dX8_isOverAll_1 : decode cX8_isOverAll 1 = .ok (.bipush 9, 2) := by decide +kernel
theorem dX8_isOverAll_3 : decode cX8_isOverAll 3 = .ok (.if_icmp .eq 15, 3) := by decide +kernel
theorem dX8_isOverAll_6 : decode cX8_isOverAll 6 = .ok (.iload_n 0, 1) := by decide +kernel
theorem dX8_isOverAll_7 : decode cX8_isOverAll 7 = .ok (.bipush 10, 2) := by decide +kernel
theorem dX8_isOverAll_9 : decode cX8_isOverAll 9 = .ok (.if_icmp .eq 9, 3) := by decide +kernel
theorem dX8_isOverAll_12 : decode cX8_isOverAll 12 = .ok (.iload_n 0, 1) := by decide +kernel
theorem dX8_isOverAll_13 : decode cX8_isOverAll 13 = .ok (.bipush 11, 2) := by decide +kernel
theorem dX8_isOverAll_15 : decode cX8_isOverAll 15 = .ok (.if_icmp .ne 7, 3) := by decide +kernel
theorem dX8_isOverAll_18 : decode cX8_isOverAll 18 = .ok (.iconst 1, 1) := by decide +kernel
theorem dX8_isOverAll_19 : decode cX8_isOverAll 19 = .ok (.goto 4, 3) := by decide +kernel
theorem dX8_isOverAll_22 : decode cX8_isOverAll 22 = .ok (.iconst 0, 1) := by decide +kernel
theorem dX8_isOverAll_23 : decode cX8_isOverAll 23 = .ok (.ireturn, 1) := by decide +kernel
theorem dX8_isOverOne_0 : decode cX8_isOverOne 0 = .ok (.iload_n 0, 1) := by decide +kernel
theorem dX8_isOverOne_1 : decode cX8_isOverOne 1 = .ok (.iconst 4, 1) := by decide +kernel
theorem dX8_isOverOne_2 : decode cX8_isOverOne 2 = .ok (.if_icmp .lt 20, 3) := by decide +kernel
theorem dX8_isOverOne_5 : decode cX8_isOverOne 5 = .ok (.iload_n 0, 1) := by decide +kernel
theorem dX8_isOverOne_6 : decode cX8_isOverOne 6 = .ok (.bipush 13, 2) := by decide +kernel
theorem dX8_isOverOne_8 : decode cX8_isOverOne 8 = .ok (.if_icmp .gt 14, 3) := by decide +kernel
theorem dX8_isOverOne_11 : decode cX8_isOverOne 11 = .ok (.iload_n 0, 1) := by decide +kernel
theorem dX8_isOverOne_12 : decode cX8_isOverOne 12 = .ok (.invokestatic 298, 3) := by decide +kernel
theorem dX8_isOverOne_15 : decode cX8_isOverOne 15 = .ok (.ifCond .ne 7, 3) := by decide +kernel
theorem dX8_isOverOne_18 : decode cX8_isOverOne 18 = .ok (.iconst 1, 1) := by decide +kernel
theorem dX8_isOverOne_19 : decode cX8_isOverOne 19 = .ok (.goto 4, 3) := by decide +kernel
theorem dX8_isOverOne_22 : decode cX8_isOverOne 22 = .ok (.iconst 0, 1) := by decide +kernel
theorem dX8_isOverOne_23 : decode cX8_isOverOne 23 = .ok (.ireturn, 1) := by decide +kernel
theorem dX9_thrown_0 : decode cX9_thrown 0 = .ok (.aload_n 0, 1) := by decide +kernel
theorem dX9_thrown_1 : decode cX9_thrown 1 = .ok (.getfield 1, 3) := by decide +kernel
theorem dX9_thrown_4 : decode cX9_thrown 4 = .ok (.ireturn, 1) := by decide +kernel
theorem dX9_init_0 : decode cX9_init 0 = .ok (.aload_n 0, 1) := by decide +kernel
theorem dX9_init_1 : decode cX9_init 1 = .ok (.invokespecial 7, 3) := by decide +kernel
theorem dX9_init_4 : decode cX9_init 4 = .ok (.aload_n 0, 1) := by decide +kernel
theorem dX9_init_5 : decode cX9_init 5 = .ok (.iconst 1, 1) := by decide +kernel
theorem dX9_init_6 : decode cX9_init 6 = .ok (.putfield 13, 3) := by decide +kernel
theorem dX9_init_9 : decode cX9_init 9 = .ok (.aload_n 0, 1) := by decide +kernel
theorem dX9_init_10 : decode cX9_init 10 = .ok (.bipush 24, 2) := by decide +kernel
theorem dX9_init_12 : decode cX9_init 12 = .ok (.newarray .int, 2) := by decide +kernel
theorem dX9_init_14 : decode cX9_init 14 = .ok (.putfield 17, 3) := by decide +kernel
theorem dX9_init_17 : decode cX9_init 17 = .ok (.aload_n 0, 1) := by decide +kernel
theorem dX9_init_18 : decode cX9_init 18 = .ok (.bipush 24, 2) := by decide +kernel
theorem dX9_init_20 : decode cX9_init 20 = .ok (.newarray .int, 2) := by decide +kernel
theorem dX9_init_22 : decode cX9_init 22 = .ok (.putfield 21, 3) := by decide +kernel
theorem dX9_init_25 : decode cX9_init 25 = .ok (.aload_n 0, 1) := by decide +kernel
theorem dX9_init_26 : decode cX9_init 26 = .ok (.bipush 9, 2) := by decide +kernel
theorem dX9_init_28 : decode cX9_init 28 = .ok (.newarray .int, 2) := by decide +kernel
theorem dX9_init_30 : decode cX9_init 30 = .ok (.putfield 24, 3) := by decide +kernel
theorem dX9_init_33 : decode cX9_init 33 = .ok (.aload_n 0, 1) := by decide +kernel
theorem dX9_init_34 : decode cX9_init 34 = .ok (.sipush 216, 3) := by decide +kernel
theorem dX9_init_37 : decode cX9_init 37 = .ok (.newarray .int, 2) := by decide +kernel
theorem dX9_init_39 : decode cX9_init 39 = .ok (.putfield 27, 3) := by decide +kernel
theorem dX9_init_42 : decode cX9_init 42 = .ok (.aload_n 0, 1) := by decide +kernel
theorem dX9_init_43 : decode cX9_init 43 = .ok (.sipush 216, 3) := by decide +kernel
theorem dX9_init_46 : decode cX9_init 46 = .ok (.newarray .int, 2) := by decide +kernel
theorem dX9_init_48 : decode cX9_init 48 = .ok (.putfield 30, 3) := by decide +kernel
theorem dX9_init_51 : decode cX9_init 51 = .ok (.aload_n 0, 1) := by decide +kernel
theorem dX9_init_52 : decode cX9_init 52 = .ok (.sipush 504, 3) := by decide +kernel
theorem dX9_init_55 : decode cX9_init 55 = .ok (.newarray .int, 2) := by decide +kernel
theorem dX9_init_57 : decode cX9_init 57 = .ok (.putfield 33, 3) := by decide +kernel
theorem dX9_init_60 : decode cX9_init 60 = .ok (.aload_n 0, 1) := by decide +kernel
theorem dX9_init_61 : decode cX9_init 61 = .ok (.sipush 504, 3) := by decide +kernel
theorem dX9_init_64 : decode cX9_init 64 = .ok (.newarray .int, 2) := by decide +kernel
theorem dX9_init_66 : decode cX9_init 66 = .ok (.putfield 36, 3) := by decide +kernel
theorem dX9_init_69 : decode cX9_init 69 = .ok (.aload_n 0, 1) := by decide +kernel
theorem dX9_init_70 : decode cX9_init 70 = .ok (.sipush 504, 3) := by decide +kernel
theorem dX9_init_73 : decode cX9_init 73 = .ok (.newarray .int, 2) := by decide +kernel
theorem dX9_init_75 : decode cX9_init 75 = .ok (.putfield 39, 3) := by decide +kernel
theorem dX9_init_78 : decode cX9_init 78 = .ok (.aload_n 0, 1) := by decide +kernel
theorem dX9_init_79 : decode cX9_init 79 = .ok (.sipush 258, 3) := by decide +kernel
theorem dX9_init_82 : decode cX9_init 82 = .ok (.newarray .long, 2) := by decide +kernel
theorem dX9_init_84 : decode cX9_init 84 = .ok (.putfield 42, 3) := by decide +kernel
theorem dX9_init_87 : decode cX9_init 87 = .ok (.aload_n 0, 1) := by decide +kernel
theorem dX9_init_88 : decode cX9_init 88 = .ok (.sipush 258, 3) := by decide +kernel
theorem dX9_init_91 : decode cX9_init 91 = .ok (.newarray .long, 2) := by decide +kernel
theorem dX9_init_93 : decode cX9_init 93 = .ok (.putfield 46, 3) := by decide +kernel
theorem dX9_init_96 : decode cX9_init 96 = .ok (.aload_n 0, 1) := by decide +kernel
theorem dX9_init_97 : decode cX9_init 97 = .ok (.sipush 30240, 3) := by decide +kernel
theorem dX9_init_100 : decode cX9_init 100 = .ok (.newarray .int, 2) := by decide +kernel
theorem dX9_init_102 : decode cX9_init 102 = .ok (.putfield 49, 3) := by decide +kernel
theorem dX9_init_105 : decode cX9_init 105 = .ok (.aload_n 0, 1) := by decide +kernel
theorem dX9_init_106 : decode cX9_init 106 = .ok (.sipush 15480, 3) := by decide +kernel
theorem dX9_init_109 : decode cX9_init 109 = .ok (.newarray .long, 2) := by decide +kernel
theorem dX9_init_111 : decode cX9_init 111 = .ok (.putfield 52, 3) := by decide +kernel
theorem dX9_init_114 : decode cX9_init 114 = .ok (.aload_n 0, 1) := by decide +kernel
theorem dX9_init_115 : decode cX9_init 115 = .ok (.sipush 258, 3) := by decide +kernel
theorem dX9_init_118 : decode cX9_init 118 = .ok (.newarray .int, 2) := by decide +kernel
theorem dX9_init_120 : decode cX9_init 120 = .ok (.putfield 55, 3) := by decide +kernel
theorem dX9_init_123 : decode cX9_init 123 = .ok (.aload_n 0, 1) := by decide +kernel
theorem dX9_init_124 : decode cX9_init 124 = .ok (.sipush 258, 3) := by decide +kernel
theorem dX9_init_127 : decode cX9_init 127 = .ok (.newarray .int, 2) := by decide +kernel
theorem dX9_init_129 : decode cX9_init 129 = .ok (.putfield 58, 3) := by decide +kernel
theorem dX9_init_132 : decode cX9_init 132 = .ok (.aload_n 0, 1) := by decide +kernel
theorem dX9_init_133 : decode cX9_init 133 = .ok (.sipush 258, 3) := by decide +kernel
theorem dX9_init_136 : decode cX9_init 136 = .ok (.newarray .int, 2) := by decide +kernel
theorem dX9_init_138 : decode cX9_init 138 = .ok (.putfield 61, 3) := by decide +kernel
theorem dX9_init_141 : decode cX9_init 141 = .ok (.aload_n 0, 1) := by decide +kernel
theorem dX9_init_142 : decode cX9_init 142 = .ok (.iconst (-1), 1) := by decide +kernel
theorem dX9_init_143 : decode cX9_init 143 = .ok (.putfield 64, 3) := by decide +kernel
theorem dX9_init_146 : decode cX9_init 146 = .ok (.aload_n 0, 1) := by decide +kernel
theorem dX9_init_147 : decode cX9_init 147 = .ok (.iconst (-1), 1) := by decide +kernel
theorem dX9_init_148 : decode cX9_init 148 = .ok (.putfield 67, 3) := by decide +kernel
theorem dX9_init_151 : decode cX9_init 151 = .ok (.aload_n 0, 1) := by decide +kernel
theorem dX9_init_152 : decode cX9_init 152 = .ok (.iconst (-1), 1) := by decide +kernel
theorem dX9_init_153 : decode cX9_init 153 = .ok (.putfield 70, 3) := by decide +kernel
theorem dX9_init_156 : decode cX9_init 156 = .ok (.aload_n 0, 1) := by decide +kernel
theorem dX9_init_157 : decode cX9_init 157 = .ok (.sipush 1100, 3) := by decide +kernel
theorem dX9_init_160 : decode cX9_init 160 = .ok (.newarray .int, 2) := by decide +kernel
theorem dX9_init_162 : decode cX9_init 162 = .ok (.putfield 73, 3) := by decide +kernel
theorem dX9_init_165 : decode cX9_init 165 = .ok (.aload_n 0, 1) := by decide +kernel
theorem dX9_init_166 : decode cX9_init 166 = .ok (.sipush 1100, 3) := by decide +kernel
theorem dX9_init_169 : decode cX9_init 169 = .ok (.newarray .int, 2) := by decide +kernel
theorem dX9_init_171 : decode cX9_init 171 = .ok (.putfield 76, 3) := by decide +kernel
theorem dX9_init_174 : decode cX9_init 174 = .ok (.aload_n 0, 1) := by decide +kernel
theorem dX9_init_175 : decode cX9_init 175 = .ok (.sipush 258, 3) := by decide +kernel
theorem dX9_init_178 : decode cX9_init 178 = .ok (.newarray .int, 2) := by decide +kernel
theorem dX9_init_180 : decode cX9_init 180 = .ok (.putfield 79, 3) := by decide +kernel
theorem dX9_init_183 : decode cX9_init 183 = .ok (.aload_n 0, 1) := by decide +kernel
theorem dX9_init_184 : decode cX9_init 184 = .ok (.sipush 258, 3) := by decide +kernel
theorem dX9_init_187 : decode cX9_init 187 = .ok (.newarray .boolean, 2) := by decide +kernel
theorem dX9_init_189 : decode cX9_init 189 = .ok (.putfield 82, 3) := by decide +kernel
theorem dX9_init_192 : decode cX9_init 192 = .ok (.aload_n 0, 1) := by decide +kernel
theorem dX9_init_193 : decode cX9_init 193 = .ok (.ldc 86, 2) := by decide +kernel
theorem dX9_init_195 : decode cX9_init 195 = .ok (.newarray .boolean, 2) := by decide +kernel
theorem dX9_init_197 : decode cX9_init 197 = .ok (.putfield 87, 3) := by decide +kernel
theorem dX9_init_200 : decode cX9_init 200 = .ok (.aload_n 0, 1) := by decide +kernel
theorem dX9_init_201 : decode cX9_init 201 = .ok (.sipush 258, 3) := by decide +kernel
theorem dX9_init_204 : decode cX9_init 204 = .ok (.newarray .int, 2) := by decide +kernel
theorem dX9_init_206 : decode cX9_init 206 = .ok (.putfield 90, 3) := by decide +kernel
theorem dX9_init_209 : decode cX9_init 209 = .ok (.aload_n 0, 1) := by decide +kernel
theorem dX9_init_210 : decode cX9_init 210 = .ok (.bipush 9, 2) := by decide +kernel
theorem dX9_init_212 : decode cX9_init 212 = .ok (.newarray .long, 2) := by decide +kernel
theorem dX9_init_214 : decode cX9_init 214 = .ok (.putfield 93, 3) := by decide +kernel
theorem dX9_init_217 : decode cX9_init 217 = .ok (.iconst 0, 1) := by decide +kernel
theorem dX9_init_218 : decode cX9_init 218 = .ok (.istore_n 1, 1) := by decide +kernel
theorem dX9_init_219 : decode cX9_init 219 = .ok (.iload_n 1, 1) := by decide +kernel
theorem dX9_init_220 : decode cX9_init 220 = .ok (.bipush 40, 2) := by decide +kernel
theorem dX9_init_222 : decode cX9_init 222 = .ok (.if_icmp .ge 31, 3) := by decide +kernel
theorem dX9_init_225 : decode cX9_init 225 = .ok (.aload_n 0, 1) := by decide +kernel
theorem dX9_init_226 : decode cX9_init 226 = .ok (.getfield 33, 3) := by decide +kernel
theorem dX9_init_229 : decode cX9_init 229 = .ok (.sipush 172, 3) := by decide +kernel
theorem dX9_init_232 : decode cX9_init 232 = .ok (.iload_n 1, 1) := by decide +kernel
theorem dX9_init_233 : decode cX9_init 233 = .ok (.iadd, 1) := by decide +kernel
theorem dX9_init_234 : decode cX9_init 234 = .ok (.iconst (-1), 1) := by decide +kernel
theorem dX9_init_235 : decode cX9_init 235 = .ok (.iastore, 1) := by decide +kernel
theorem dX9_init_236 : decode cX9_init 236 = .ok (.aload_n 0, 1) := by decide +kernel
theorem dX9_init_237 : decode cX9_init 237 = .ok (.getfield 33, 3) := by decide +kernel
theorem dX9_init_240 : decode cX9_init 240 = .ok (.sipush 212, 3) := by decide +kernel
theorem dX9_init_243 : decode cX9_init 243 = .ok (.iload_n 1, 1) := by decide +kernel
theorem dX9_init_244 : decode cX9_init 244 = .ok (.iadd, 1) := by decide +kernel
theorem dX9_init_245 : decode cX9_init 245 = .ok (.iconst (-1), 1) := by decide +kernel
theorem dX9_init_246 : decode cX9_init 246 = .ok (.iastore, 1) := by decide +kernel
theorem dX9_init_247 : decode cX9_init 247 = .ok (.iinc 1 1, 3) := by decide +kernel
theorem dX9_init_250 : decode cX9_init 250 = .ok (.goto (-31), 3) := by decide +kernel
theorem dX9_init_253 : decode cX9_init 253 = .ok (.aload_n 0, 1) := by decide +kernel
theorem dX9_init_254 : decode cX9_init 254 = .ok (.getfield 33, 3) := by decide +kernel
theorem dX9_init_257 : decode cX9_init 257 = .ok (.iconst 0, 1) := by decide +kernel
theorem dX9_init_258 : decode cX9_init 258 = .ok (.aload_n 0, 1) := by decide +kernel
theorem dX9_init_259 : decode cX9_init 259 = .ok (.getfield 36, 3) := by decide +kernel
theorem dX9_init_262 : decode cX9_init 262 = .ok (.iconst 0, 1) := by decide +kernel
theorem dX9_init_263 : decode cX9_init 263 = .ok (.sipush 504, 3) := by decide +kernel
theorem dX9_init_266 : decode cX9_init 266 = .ok (.invokestatic 96, 3) := by decide +kernel
theorem dX9_init_269 : decode cX9_init 269 = .ok (.return_, 1) := by decide +kernel
theorem dX9_copyInts_0 : decode cX9_copyInts 0 = .ok (.iconst 0, 1) := by decide +kernel
theorem dX9_copyInts_1 : decode cX9_copyInts 1 = .ok (.istore 5, 2) := by decide +kernel
theorem dX9_copyInts_3 : decode cX9_copyInts 3 = .ok (.iload 5, 2) := by decide +kernel
theorem dX9_copyInts_5 : decode cX9_copyInts 5 = .ok (.iload 4, 2) := by decide +kernel
theorem dX9_copyInts_7 : decode cX9_copyInts 7 = .ok (.if_icmp .ge 21, 3) := by decide +kernel
theorem dX9_copyInts_10 : decode cX9_copyInts 10 = .ok (.aload_n 2, 1) := by decide +kernel
theorem dX9_copyInts_11 : decode cX9_copyInts 11 = .ok (.iload_n 3, 1) := by decide +kernel
theorem dX9_copyInts_12 : decode cX9_copyInts 12 = .ok (.iload 5, 2) := by decide +kernel
theorem dX9_copyInts_14 : decode cX9_copyInts 14 = .ok (.iadd, 1) := by decide +kernel
theorem dX9_copyInts_15 : decode cX9_copyInts 15 = .ok (.aload_n 0, 1) := by decide +kernel
theorem dX9_copyInts_16 : decode cX9_copyInts 16 = .ok (.iload_n 1, 1) := by decide +kernel
theorem dX9_copyInts_17 : decode cX9_copyInts 17 = .ok (.iload 5, 2) := by decide +kernel
theorem dX9_copyInts_19 : decode cX9_copyInts 19 = .ok (.iadd, 1) := by decide +kernel
theorem dX9_copyInts_20 : decode cX9_copyInts 20 = .ok (.iaload, 1) := by decide +kernel
theorem dX9_copyInts_21 : decode cX9_copyInts 21 = .ok (.iastore, 1) := by decide +kernel
theorem dX9_copyInts_22 : decode cX9_copyInts 22 = .ok (.iinc 5 1, 3) := by decide +kernel
theorem dX9_copyInts_25 : decode cX9_copyInts 25 = .ok (.goto (-22), 3) := by decide +kernel
theorem dX9_copyInts_28 : decode cX9_copyInts 28 = .ok (.return_, 1) := by decide +kernel
theorem dX9_copyLongs_0 : decode cX9_copyLongs 0 = .ok (.iconst 0, 1) := by decide +kernel
theorem dX9_copyLongs_1 : decode cX9_copyLongs 1 = .ok (.istore 5, 2) := by decide +kernel
theorem dX9_copyLongs_3 : decode cX9_copyLongs 3 = .ok (.iload 5, 2) := by decide +kernel
theorem dX9_copyLongs_5 : decode cX9_copyLongs 5 = .ok (.iload 4, 2) := by decide +kernel
theorem dX9_copyLongs_7 : decode cX9_copyLongs 7 = .ok (.if_icmp .ge 21, 3) := by decide +kernel
theorem dX9_copyLongs_10 : decode cX9_copyLongs 10 = .ok (.aload_n 2, 1) := by decide +kernel
theorem dX9_copyLongs_11 : decode cX9_copyLongs 11 = .ok (.iload_n 3, 1) := by decide +kernel
theorem dX9_copyLongs_12 : decode cX9_copyLongs 12 = .ok (.iload 5, 2) := by decide +kernel
theorem dX9_copyLongs_14 : decode cX9_copyLongs 14 = .ok (.iadd, 1) := by decide +kernel
theorem dX9_copyLongs_15 : decode cX9_copyLongs 15 = .ok (.aload_n 0, 1) := by decide +kernel
theorem dX9_copyLongs_16 : decode cX9_copyLongs 16 = .ok (.iload_n 1, 1) := by decide +kernel
theorem dX9_copyLongs_17 : decode cX9_copyLongs 17 = .ok (.iload 5, 2) := by decide +kernel
theorem dX9_copyLongs_19 : decode cX9_copyLongs 19 = .ok (.iadd, 1) := by decide +kernel
theorem dX9_copyLongs_20 : decode cX9_copyLongs 20 = .ok (.laload, 1) := by decide +kernel
theorem dX9_copyLongs_21 : decode cX9_copyLongs 21 = .ok (.lastore, 1) := by decide +kernel
theorem dX9_copyLongs_22 : decode cX9_copyLongs 22 = .ok (.iinc 5 1, 3) := by decide +kernel
theorem dX9_copyLongs_25 : decode cX9_copyLongs 25 = .ok (.goto (-22), 3) := by decide +kernel
theorem dX9_copyLongs_28 : decode cX9_copyLongs 28 = .ok (.return_, 1) := by decide +kernel
theorem dX9_fail_0 : decode cX9_fail 0 = .ok (.aload_n 0, 1) := by decide +kernel
theorem dX9_fail_1 : decode cX9_fail 1 = .ok (.iload_n 1, 1) := by decide +kernel
theorem dX9_fail_2 : decode cX9_fail 2 = .ok (.putfield 1, 3) := by decide +kernel
theorem dX9_fail_5 : decode cX9_fail 5 = .ok (.iconst 0, 1) := by decide +kernel
theorem dX9_fail_6 : decode cX9_fail 6 = .ok (.ireturn, 1) := by decide +kernel
theorem dX9_isThing_0 : decode cX9_isThing 0 = .ok (.iload_n 1, 1) := by decide +kernel
theorem dX9_isThing_1 : decode cX9_isThing 1 = .ok (.ifCond .lt 15, 3) := by decide +kernel
theorem dX9_isThing_4 : decode cX9_isThing 4 = .ok (.iload_n 1, 1) := by decide +kernel
theorem dX9_isThing_5 : decode cX9_isThing 5 = .ok (.aload_n 0, 1) := by decide +kernel
theorem dX9_isThing_6 : decode cX9_isThing 6 = .ok (.getfield 100, 3) := by decide +kernel
theorem dX9_isThing_9 : decode cX9_isThing 9 = .ok (.if_icmp .ge 7, 3) := by decide +kernel
theorem dX9_isThing_12 : decode cX9_isThing 12 = .ok (.iconst 1, 1) := by decide +kernel
theorem dX9_isThing_13 : decode cX9_isThing 13 = .ok (.goto 4, 3) := by decide +kernel
theorem dX9_isThing_16 : decode cX9_isThing 16 = .ok (.iconst 0, 1) := by decide +kernel
theorem dX9_isThing_17 : decode cX9_isThing 17 = .ok (.ireturn, 1) := by decide +kernel
theorem dX9_isList_0 : decode cX9_isList 0 = .ok (.iload_n 1, 1) := by decide +kernel
theorem dX9_isList_1 : decode cX9_isList 1 = .ok (.ifCond .lt 15, 3) := by decide +kernel
theorem dX9_isList_4 : decode cX9_isList 4 = .ok (.iload_n 1, 1) := by decide +kernel
theorem dX9_isList_5 : decode cX9_isList 5 = .ok (.aload_n 0, 1) := by decide +kernel
theorem dX9_isList_6 : decode cX9_isList 6 = .ok (.getfield 103, 3) := by decide +kernel
theorem dX9_isList_9 : decode cX9_isList 9 = .ok (.if_icmp .ge 7, 3) := by decide +kernel
theorem dX9_isList_12 : decode cX9_isList 12 = .ok (.iconst 1, 1) := by decide +kernel
theorem dX9_isList_13 : decode cX9_isList 13 = .ok (.goto 4, 3) := by decide +kernel
theorem dX9_isList_16 : decode cX9_isList 16 = .ok (.iconst 0, 1) := by decide +kernel
theorem dX9_isList_17 : decode cX9_isList 17 = .ok (.ireturn, 1) := by decide +kernel
theorem dX9_thing_0 : decode cX9_thing 0 = .ok (.aload_n 0, 1) := by decide +kernel
theorem dX9_thing_1 : decode cX9_thing 1 = .ok (.iconst 0, 1) := by decide +kernel
theorem dX9_thing_2 : decode cX9_thing 2 = .ok (.putfield 1, 3) := by decide +kernel
theorem dX9_thing_5 : decode cX9_thing 5 = .ok (.aload_n 0, 1) := by decide +kernel
theorem dX9_thing_6 : decode cX9_thing 6 = .ok (.getfield 13, 3) := by decide +kernel
theorem dX9_thing_9 : decode cX9_thing 9 = .ok (.ifCond .eq 12, 3) := by decide +kernel
theorem dX9_thing_12 : decode cX9_thing 12 = .ok (.aload_n 0, 1) := by decide +kernel
theorem dX9_thing_13 : decode cX9_thing 13 = .ok (.getfield 100, 3) := by decide +kernel
theorem dX9_thing_16 : decode cX9_thing 16 = .ok (.bipush 40, 2) := by decide +kernel
theorem dX9_thing_18 : decode cX9_thing 18 = .ok (.if_icmp .ne 9, 3) := by decide +kernel
theorem dX9_thing_21 : decode cX9_thing 21 = .ok (.aload_n 0, 1) := by decide +kernel
theorem dX9_thing_22 : decode cX9_thing 22 = .ok (.iconst 1, 1) := by decide +kernel
theorem dX9_thing_23 : decode cX9_thing 23 = .ok (.invokevirtual 106, 3) := by decide +kernel
theorem dX9_thing_26 : decode cX9_thing 26 = .ok (.ireturn, 1) := by decide +kernel
theorem dX9_thing_27 : decode cX9_thing 27 = .ok (.aload_n 0, 1) := by decide +kernel
theorem dX9_thing_28 : decode cX9_thing 28 = .ok (.getfield 33, 3) := by decide +kernel
theorem dX9_thing_31 : decode cX9_thing 31 = .ok (.iconst 0, 1) := by decide +kernel
theorem dX9_thing_32 : decode cX9_thing 32 = .ok (.iconst 4, 1) := by decide +kernel
theorem dX9_thing_33 : decode cX9_thing 33 = .ok (.aload_n 0, 1) := by decide +kernel
theorem dX9_thing_34 : decode cX9_thing 34 = .ok (.getfield 100, 3) := by decide +kernel
theorem dX9_thing_37 : decode cX9_thing 37 = .ok (.imul, 1) := by decide +kernel
theorem dX9_thing_38 : decode cX9_thing 38 = .ok (.iadd, 1) := by decide +kernel
theorem dX9_thing_39 : decode cX9_thing 39 = .ok (.iload_n 1, 1) := by decide +kernel
theorem dX9_thing_40 : decode cX9_thing 40 = .ok (.iastore, 1) := by decide +kernel
theorem dX9_thing_41 : decode cX9_thing 41 = .ok (.aload_n 0, 1) := by decide +kernel
theorem dX9_thing_42 : decode cX9_thing 42 = .ok (.getfield 33, 3) := by decide +kernel
theorem dX9_thing_45 : decode cX9_thing 45 = .ok (.iconst 0, 1) := by decide +kernel
theorem dX9_thing_46 : decode cX9_thing 46 = .ok (.iconst 4, 1) := by decide +kernel
theorem dX9_thing_47 : decode cX9_thing 47 = .ok (.aload_n 0, 1) := by decide +kernel
theorem dX9_thing_48 : decode cX9_thing 48 = .ok (.getfield 100, 3) := by decide +kernel
theorem dX9_thing_51 : decode cX9_thing 51 = .ok (.imul, 1) := by decide +kernel
theorem dX9_thing_52 : decode cX9_thing 52 = .ok (.iadd, 1) := by decide +kernel
theorem dX9_thing_53 : decode cX9_thing 53 = .ok (.iconst 1, 1) := by decide +kernel
theorem dX9_thing_54 : decode cX9_thing 54 = .ok (.iadd, 1) := by decide +kernel
theorem dX9_thing_55 : decode cX9_thing 55 = .ok (.iload_n 2, 1) := by decide +kernel
theorem dX9_thing_56 : decode cX9_thing 56 = .ok (.iastore, 1) := by decide +kernel
theorem dX9_thing_57 : decode cX9_thing 57 = .ok (.aload_n 0, 1) := by decide +kernel
theorem dX9_thing_58 : decode cX9_thing 58 = .ok (.getfield 33, 3) := by decide +kernel
theorem dX9_thing_61 : decode cX9_thing 61 = .ok (.iconst 0, 1) := by decide +kernel
theorem dX9_thing_62 : decode cX9_thing 62 = .ok (.iconst 4, 1) := by decide +kernel
theorem dX9_thing_63 : decode cX9_thing 63 = .ok (.aload_n 0, 1) := by decide +kernel
theorem dX9_thing_64 : decode cX9_thing 64 = .ok (.getfield 100, 3) := by decide +kernel
theorem dX9_thing_67 : decode cX9_thing 67 = .ok (.imul, 1) := by decide +kernel
theorem dX9_thing_68 : decode cX9_thing 68 = .ok (.iadd, 1) := by decide +kernel
theorem dX9_thing_69 : decode cX9_thing 69 = .ok (.iconst 2, 1) := by decide +kernel
theorem dX9_thing_70 : decode cX9_thing 70 = .ok (.iadd, 1) := by decide +kernel
theorem dX9_thing_71 : decode cX9_thing 71 = .ok (.iload_n 3, 1) := by decide +kernel
theorem dX9_thing_72 : decode cX9_thing 72 = .ok (.iastore, 1) := by decide +kernel
theorem dX9_thing_73 : decode cX9_thing 73 = .ok (.aload_n 0, 1) := by decide +kernel
theorem dX9_thing_74 : decode cX9_thing 74 = .ok (.getfield 33, 3) := by decide +kernel
theorem dX9_thing_77 : decode cX9_thing 77 = .ok (.iconst 0, 1) := by decide +kernel
theorem dX9_thing_78 : decode cX9_thing 78 = .ok (.iconst 4, 1) := by decide +kernel
theorem dX9_thing_79 : decode cX9_thing 79 = .ok (.aload_n 0, 1) := by decide +kernel
theorem dX9_thing_80 : decode cX9_thing 80 = .ok (.getfield 100, 3) := by decide +kernel
theorem dX9_thing_83 : decode cX9_thing 83 = .ok (.imul, 1) := by decide +kernel
theorem dX9_thing_84 : decode cX9_thing 84 = .ok (.iadd, 1) := by decide +kernel
theorem dX9_thing_85 : decode cX9_thing 85 = .ok (.iconst 3, 1) := by decide +kernel
theorem dX9_thing_86 : decode cX9_thing 86 = .ok (.iadd, 1) := by decide +kernel
theorem dX9_thing_87 : decode cX9_thing 87 = .ok (.iload 4, 2) := by decide +kernel
theorem dX9_thing_89 : decode cX9_thing 89 = .ok (.iastore, 1) := by decide +kernel
theorem dX9_thing_90 : decode cX9_thing 90 = .ok (.aload_n 0, 1) := by decide +kernel
theorem dX9_thing_91 : decode cX9_thing 91 = .ok (.dup, 1) := by decide +kernel
theorem dX9_thing_92 : decode cX9_thing 92 = .ok (.getfield 100, 3) := by decide +kernel
theorem dX9_thing_95 : decode cX9_thing 95 = .ok (.iconst 1, 1) := by decide +kernel
theorem dX9_thing_96 : decode cX9_thing 96 = .ok (.iadd, 1) := by decide +kernel
theorem dX9_thing_97 : decode cX9_thing 97 = .ok (.putfield 100, 3) := by decide +kernel
theorem dX9_thing_100 : decode cX9_thing 100 = .ok (.aload_n 0, 1) := by decide +kernel
theorem dX9_thing_101 : decode cX9_thing 101 = .ok (.getfield 33, 3) := by decide +kernel
theorem dX9_thing_104 : decode cX9_thing 104 = .ok (.iconst 0, 1) := by decide +kernel
theorem dX9_thing_105 : decode cX9_thing 105 = .ok (.aload_n 0, 1) := by decide +kernel
theorem dX9_thing_106 : decode cX9_thing 106 = .ok (.getfield 36, 3) := by decide +kernel
theorem dX9_thing_109 : decode cX9_thing 109 = .ok (.iconst 0, 1) := by decide +kernel
theorem dX9_thing_110 : decode cX9_thing 110 = .ok (.sipush 504, 3) := by decide +kernel
theorem dX9_thing_113 : decode cX9_thing 113 = .ok (.invokestatic 96, 3) := by decide +kernel
theorem dX9_thing_116 : decode cX9_thing 116 = .ok (.aload_n 0, 1) := by decide +kernel
theorem dX9_thing_117 : decode cX9_thing 117 = .ok (.getfield 100, 3) := by decide +kernel
theorem dX9_thing_120 : decode cX9_thing 120 = .ok (.iconst 1, 1) := by decide +kernel
theorem dX9_thing_121 : decode cX9_thing 121 = .ok (.isub, 1) := by decide +kernel
theorem dX9_thing_122 : decode cX9_thing 122 = .ok (.ireturn, 1) := by decide +kernel
theorem dX9_list_0 : decode cX9_list 0 = .ok (.aload_n 0, 1) := by decide +kernel
theorem dX9_list_1 : decode cX9_list 1 = .ok (.iconst 0, 1) := by decide +kernel
theorem dX9_list_2 : decode cX9_list 2 = .ok (.putfield 1, 3) := by decide +kernel
theorem dX9_list_5 : decode cX9_list 5 = .ok (.aload_n 0, 1) := by decide +kernel
theorem dX9_list_6 : decode cX9_list 6 = .ok (.getfield 13, 3) := by decide +kernel
theorem dX9_list_9 : decode cX9_list 9 = .ok (.ifCond .eq 12, 3) := by decide +kernel
theorem dX9_list_12 : decode cX9_list 12 = .ok (.aload_n 0, 1) := by decide +kernel
theorem dX9_list_13 : decode cX9_list 13 = .ok (.getfield 103, 3) := by decide +kernel
theorem dX9_list_16 : decode cX9_list 16 = .ok (.bipush 6, 2) := by decide +kernel
theorem dX9_list_18 : decode cX9_list 18 = .ok (.if_icmp .ne 9, 3) := by decide +kernel
theorem dX9_list_21 : decode cX9_list 21 = .ok (.aload_n 0, 1) := by decide +kernel
theorem dX9_list_22 : decode cX9_list 22 = .ok (.iconst 1, 1) := by decide +kernel
theorem dX9_list_23 : decode cX9_list 23 = .ok (.invokevirtual 106, 3) := by decide +kernel
theorem dX9_list_26 : decode cX9_list 26 = .ok (.ireturn, 1) := by decide +kernel
theorem dX9_list_27 : decode cX9_list 27 = .ok (.aload_n 0, 1) := by decide +kernel
theorem dX9_list_28 : decode cX9_list 28 = .ok (.getfield 33, 3) := by decide +kernel
theorem dX9_list_31 : decode cX9_list 31 = .ok (.sipush 160, 3) := by decide +kernel
theorem dX9_list_34 : decode cX9_list 34 = .ok (.iconst 2, 1) := by decide +kernel
theorem dX9_list_35 : decode cX9_list 35 = .ok (.aload_n 0, 1) := by decide +kernel
theorem dX9_list_36 : decode cX9_list 36 = .ok (.getfield 103, 3) := by decide +kernel
theorem dX9_list_39 : decode cX9_list 39 = .ok (.imul, 1) := by decide +kernel
theorem dX9_list_40 : decode cX9_list 40 = .ok (.iadd, 1) := by decide +kernel
theorem dX9_list_41 : decode cX9_list 41 = .ok (.iload_n 1, 1) := by decide +kernel
theorem dX9_list_42 : decode cX9_list 42 = .ok (.iastore, 1) := by decide +kernel
theorem dX9_list_43 : decode cX9_list 43 = .ok (.aload_n 0, 1) := by decide +kernel
theorem dX9_list_44 : decode cX9_list 44 = .ok (.getfield 33, 3) := by decide +kernel
theorem dX9_list_47 : decode cX9_list 47 = .ok (.sipush 160, 3) := by decide +kernel
theorem dX9_list_50 : decode cX9_list 50 = .ok (.iconst 2, 1) := by decide +kernel
theorem dX9_list_51 : decode cX9_list 51 = .ok (.aload_n 0, 1) := by decide +kernel
theorem dX9_list_52 : decode cX9_list 52 = .ok (.getfield 103, 3) := by decide +kernel
theorem dX9_list_55 : decode cX9_list 55 = .ok (.imul, 1) := by decide +kernel
theorem dX9_list_56 : decode cX9_list 56 = .ok (.iadd, 1) := by decide +kernel
theorem dX9_list_57 : decode cX9_list 57 = .ok (.iconst 1, 1) := by decide +kernel
theorem dX9_list_58 : decode cX9_list 58 = .ok (.iadd, 1) := by decide +kernel
theorem dX9_list_59 : decode cX9_list 59 = .ok (.iload_n 2, 1) := by decide +kernel
theorem dX9_list_60 : decode cX9_list 60 = .ok (.iastore, 1) := by decide +kernel
theorem dX9_list_61 : decode cX9_list 61 = .ok (.aload_n 0, 1) := by decide +kernel
theorem dX9_list_62 : decode cX9_list 62 = .ok (.dup, 1) := by decide +kernel
theorem dX9_list_63 : decode cX9_list 63 = .ok (.getfield 103, 3) := by decide +kernel
theorem dX9_list_66 : decode cX9_list 66 = .ok (.iconst 1, 1) := by decide +kernel
theorem dX9_list_67 : decode cX9_list 67 = .ok (.iadd, 1) := by decide +kernel
theorem dX9_list_68 : decode cX9_list 68 = .ok (.putfield 103, 3) := by decide +kernel
theorem dX9_list_71 : decode cX9_list 71 = .ok (.aload_n 0, 1) := by decide +kernel
theorem dX9_list_72 : decode cX9_list 72 = .ok (.getfield 33, 3) := by decide +kernel
theorem dX9_list_75 : decode cX9_list 75 = .ok (.iconst 0, 1) := by decide +kernel
theorem dX9_list_76 : decode cX9_list 76 = .ok (.aload_n 0, 1) := by decide +kernel
theorem dX9_list_77 : decode cX9_list 77 = .ok (.getfield 36, 3) := by decide +kernel
theorem dX9_list_80 : decode cX9_list 80 = .ok (.iconst 0, 1) := by decide +kernel
theorem dX9_list_81 : decode cX9_list 81 = .ok (.sipush 504, 3) := by decide +kernel
theorem dX9_list_84 : decode cX9_list 84 = .ok (.invokestatic 96, 3) := by decide +kernel
theorem dX9_list_87 : decode cX9_list 87 = .ok (.aload_n 0, 1) := by decide +kernel
theorem dX9_list_88 : decode cX9_list 88 = .ok (.getfield 103, 3) := by decide +kernel
theorem dX9_list_91 : decode cX9_list 91 = .ok (.iconst 1, 1) := by decide +kernel
theorem dX9_list_92 : decode cX9_list 92 = .ok (.isub, 1) := by decide +kernel
theorem dX9_list_93 : decode cX9_list 93 = .ok (.ireturn, 1) := by decide +kernel
theorem dX9_step_0 : decode cX9_step 0 = .ok (.aload_n 0, 1) := by decide +kernel
theorem dX9_step_1 : decode cX9_step 1 = .ok (.iconst 0, 1) := by decide +kernel
theorem dX9_step_2 : decode cX9_step 2 = .ok (.putfield 1, 3) := by decide +kernel
theorem dX9_step_5 : decode cX9_step 5 = .ok (.aload_n 0, 1) := by decide +kernel
theorem dX9_step_6 : decode cX9_step 6 = .ok (.getfield 13, 3) := by decide +kernel
theorem dX9_step_9 : decode cX9_step 9 = .ok (.ifCond .eq 12, 3) := by decide +kernel
theorem dX9_step_12 : decode cX9_step 12 = .ok (.aload_n 0, 1) := by decide +kernel
theorem dX9_step_13 : decode cX9_step 13 = .ok (.getfield 110, 3) := by decide +kernel
theorem dX9_step_16 : decode cX9_step 16 = .ok (.bipush 24, 2) := by decide +kernel
theorem dX9_step_18 : decode cX9_step 18 = .ok (.if_icmp .ne 9, 3) := by decide +kernel
theorem dX9_step_21 : decode cX9_step 21 = .ok (.aload_n 0, 1) := by decide +kernel
theorem dX9_step_22 : decode cX9_step 22 = .ok (.iconst 1, 1) := by decide +kernel
theorem dX9_step_23 : decode cX9_step 23 = .ok (.invokevirtual 106, 3) := by decide +kernel
theorem dX9_step_26 : decode cX9_step 26 = .ok (.ireturn, 1) := by decide +kernel
theorem dX9_step_27 : decode cX9_step 27 = .ok (.aload_n 0, 1) := by decide +kernel
theorem dX9_step_28 : decode cX9_step 28 = .ok (.getfield 17, 3) := by decide +kernel
theorem dX9_step_31 : decode cX9_step 31 = .ok (.aload_n 0, 1) := by decide +kernel
theorem dX9_step_32 : decode cX9_step 32 = .ok (.getfield 110, 3) := by decide +kernel
theorem dX9_step_35 : decode cX9_step 35 = .ok (.iload_n 1, 1) := by decide +kernel
theorem dX9_step_36 : decode cX9_step 36 = .ok (.iastore, 1) := by decide +kernel
theorem dX9_step_37 : decode cX9_step 37 = .ok (.aload_n 0, 1) := by decide +kernel
theorem dX9_step_38 : decode cX9_step 38 = .ok (.getfield 21, 3) := by decide +kernel
theorem dX9_step_41 : decode cX9_step 41 = .ok (.aload_n 0, 1) := by decide +kernel
theorem dX9_step_42 : decode cX9_step 42 = .ok (.getfield 110, 3) := by decide +kernel
theorem dX9_step_45 : decode cX9_step 45 = .ok (.iload_n 2, 1) := by decide +kernel
theorem dX9_step_46 : decode cX9_step 46 = .ok (.iastore, 1) := by decide +kernel
theorem dX9_step_47 : decode cX9_step 47 = .ok (.aload_n 0, 1) := by decide +kernel
theorem dX9_step_48 : decode cX9_step 48 = .ok (.dup, 1) := by decide +kernel
theorem dX9_step_49 : decode cX9_step 49 = .ok (.getfield 110, 3) := by decide +kernel
theorem dX9_step_52 : decode cX9_step 52 = .ok (.iconst 1, 1) := by decide +kernel
theorem dX9_step_53 : decode cX9_step 53 = .ok (.iadd, 1) := by decide +kernel
theorem dX9_step_54 : decode cX9_step 54 = .ok (.putfield 110, 3) := by decide +kernel
theorem dX9_step_57 : decode cX9_step 57 = .ok (.aload_n 0, 1) := by decide +kernel
theorem dX9_step_58 : decode cX9_step 58 = .ok (.getfield 110, 3) := by decide +kernel
theorem dX9_step_61 : decode cX9_step 61 = .ok (.ireturn, 1) := by decide +kernel
theorem dX9_takes_0 : decode cX9_takes 0 = .ok (.iload_n 0, 1) := by decide +kernel
theorem dX9_takes_1 : decode cX9_takes 1 = .ok (.iconst 5, 1) := by decide +kernel
theorem dX9_takes_2 : decode cX9_takes 2 = .ok (.if_icmp .eq 45, 3) := by decide +kernel
theorem dX9_takes_5 : decode cX9_takes 5 = .ok (.iload_n 0, 1) := by decide +kernel
theorem dX9_takes_6 : decode cX9_takes 6 = .ok (.bipush 6, 2) := by decide +kernel
theorem dX9_takes_8 : decode cX9_takes 8 = .ok (.if_icmp .eq 39, 3) := by decide +kernel
theorem dX9_takes_11 : decode cX9_takes 11 = .ok (.iload_n 0, 1) := by decide +kernel
theorem dX9_takes_12 : decode cX9_takes 12 = .ok (.bipush 7, 2) := by decide +kernel
theorem dX9_takes_14 : decode cX9_takes 14 = .ok (.if_icmp .eq 33, 3) := by decide +kernel
theorem dX9_takes_17 : decode cX9_takes 17 = .ok (.iload_n 0, 1) := by decide +kernel
theorem dX9_takes_18 : decode cX9_takes 18 = .ok (.bipush 10, 2) := by decide +kernel
theorem dX9_takes_20 : decode cX9_takes 20 = .ok (.if_icmp .lt 9, 3) := by decide +kernel
theorem dX9_takes_23 : decode cX9_takes 23 = .ok (.iload_n 0, 1) := by decide +kernel
theorem dX9_takes_24 : decode cX9_takes 24 = .ok (.bipush 13, 2) := by decide +kernel
theorem dX9_takes_26 : decode cX9_takes 26 = .ok (.if_icmp .le 21, 3) := by decide +kernel
theorem dX9_takes_29 : decode cX9_takes 29 = .ok (.iload_n 0, 1) := by decide +kernel
theorem dX9_takes_30 : decode cX9_takes 30 = .ok (.bipush 21, 2) := by decide +kernel
theorem dX9_takes_32 : decode cX9_takes 32 = .ok (.if_icmp .eq 15, 3) := by decide +kernel
theorem dX9_takes_35 : decode cX9_takes 35 = .ok (.iload_n 0, 1) := by decide +kernel
theorem dX9_takes_36 : decode cX9_takes 36 = .ok (.bipush 22, 2) := by decide +kernel
theorem dX9_takes_38 : decode cX9_takes 38 = .ok (.if_icmp .eq 9, 3) := by decide +kernel
theorem dX9_takes_41 : decode cX9_takes 41 = .ok (.iload_n 0, 1) := by decide +kernel
theorem dX9_takes_42 : decode cX9_takes 42 = .ok (.bipush 24, 2) := by decide +kernel
theorem dX9_takes_44 : decode cX9_takes 44 = .ok (.if_icmp .ne 5, 3) := by decide +kernel
theorem dX9_takes_47 : decode cX9_takes 47 = .ok (.iconst 1, 1) := by decide +kernel
theorem dX9_takes_48 : decode cX9_takes 48 = .ok (.ireturn, 1) := by decide +kernel
theorem dX9_takes_49 : decode cX9_takes 49 = .ok (.iload_n 0, 1) := by decide +kernel
theorem dX9_takes_50 : decode cX9_takes 50 = .ok (.bipush 14, 2) := by decide +kernel
theorem dX9_takes_52 : decode cX9_takes 52 = .ok (.if_icmp .lt 9, 3) := by decide +kernel
theorem dX9_takes_55 : decode cX9_takes 55 = .ok (.iload_n 0, 1) := by decide +kernel
theorem dX9_takes_56 : decode cX9_takes 56 = .ok (.bipush 19, 2) := by decide +kernel
theorem dX9_takes_58 : decode cX9_takes 58 = .ok (.if_icmp .le 9, 3) := by decide +kernel
theorem dX9_takes_61 : decode cX9_takes 61 = .ok (.iload_n 0, 1) := by decide +kernel
theorem dX9_takes_62 : decode cX9_takes 62 = .ok (.bipush 23, 2) := by decide +kernel
theorem dX9_takes_64 : decode cX9_takes 64 = .ok (.if_icmp .ne 5, 3) := by decide +kernel
theorem dX9_takes_67 : decode cX9_takes 67 = .ok (.iconst 2, 1) := by decide +kernel
theorem dX9_takes_68 : decode cX9_takes 68 = .ok (.ireturn, 1) := by decide +kernel
theorem dX9_takes_69 : decode cX9_takes 69 = .ok (.iload_n 0, 1) := by decide +kernel
theorem dX9_takes_70 : decode cX9_takes 70 = .ok (.bipush 20, 2) := by decide +kernel
theorem dX9_takes_72 : decode cX9_takes 72 = .ok (.if_icmp .ne 7, 3) := by decide +kernel
theorem dX9_takes_75 : decode cX9_takes 75 = .ok (.iconst 3, 1) := by decide +kernel
theorem dX9_takes_76 : decode cX9_takes 76 = .ok (.goto 4, 3) := by decide +kernel
theorem dX9_takes_79 : decode cX9_takes 79 = .ok (.iconst 0, 1) := by decide +kernel
theorem dX9_takes_80 : decode cX9_takes 80 = .ok (.ireturn, 1) := by decide +kernel
theorem dX9_gives_0 : decode cX9_gives 0 = .ok (.iload_n 0, 1) := by decide +kernel
theorem dX9_gives_1 : decode cX9_gives 1 = .ok (.bipush 21, 2) := by decide +kernel
theorem dX9_gives_3 : decode cX9_gives 3 = .ok (.if_icmp .eq 9, 3) := by decide +kernel
theorem dX9_gives_6 : decode cX9_gives 6 = .ok (.iload_n 0, 1) := by decide +kernel
theorem dX9_gives_7 : decode cX9_gives 7 = .ok (.bipush 24, 2) := by decide +kernel
theorem dX9_gives_9 : decode cX9_gives 9 = .ok (.if_icmp .ne 7, 3) := by decide +kernel
theorem dX9_gives_12 : decode cX9_gives 12 = .ok (.iconst 0, 1) := by decide +kernel
theorem dX9_gives_13 : decode cX9_gives 13 = .ok (.goto 20, 3) := by decide +kernel
theorem dX9_gives_16 : decode cX9_gives 16 = .ok (.iload_n 0, 1) := by decide +kernel
theorem dX9_gives_17 : decode cX9_gives 17 = .ok (.bipush 22, 2) := by decide +kernel
theorem dX9_gives_19 : decode cX9_gives 19 = .ok (.if_icmp .eq 9, 3) := by decide +kernel
theorem dX9_gives_22 : decode cX9_gives 22 = .ok (.iload_n 0, 1) := by decide +kernel
theorem dX9_gives_23 : decode cX9_gives 23 = .ok (.bipush 23, 2) := by decide +kernel
theorem dX9_gives_25 : decode cX9_gives 25 = .ok (.if_icmp .ne 7, 3) := by decide +kernel
theorem dX9_gives_28 : decode cX9_gives 28 = .ok (.iconst 2, 1) := by decide +kernel
theorem dX9_gives_29 : decode cX9_gives 29 = .ok (.goto 4, 3) := by decide +kernel
theorem dX9_gives_32 : decode cX9_gives 32 = .ok (.iconst 1, 1) := by decide +kernel
theorem dX9_gives_33 : decode cX9_gives 33 = .ok (.ireturn, 1) := by decide +kernel
theorem dX9_isStep_0 : decode cX9_isStep 0 = .ok (.iload_n 1, 1) := by decide +kernel
theorem dX9_isStep_1 : decode cX9_isStep 1 = .ok (.ifCond .lt 12, 3) := by decide +kernel
theorem dX9_isStep_4 : decode cX9_isStep 4 = .ok (.iload_n 1, 1) := by decide +kernel
theorem dX9_isStep_5 : decode cX9_isStep 5 = .ok (.iconst 5, 1) := by decide +kernel
theorem dX9_isStep_6 : decode cX9_isStep 6 = .ok (.if_icmp .gt 7, 3) := by decide +kernel
theorem dX9_isStep_9 : decode cX9_isStep 9 = .ok (.iconst 1, 1) := by decide +kernel
theorem dX9_isStep_10 : decode cX9_isStep 10 = .ok (.goto 4, 3) := by decide +kernel
theorem dX9_isStep_13 : decode cX9_isStep 13 = .ok (.iconst 0, 1) := by decide +kernel
theorem dX9_isStep_14 : decode cX9_isStep 14 = .ok (.istore_n 3, 1) := by decide +kernel
theorem dX9_isStep_15 : decode cX9_isStep 15 = .ok (.iload_n 1, 1) := by decide +kernel
theorem dX9_isStep_16 : decode cX9_isStep 16 = .ok (.bipush 6, 2) := by decide +kernel
theorem dX9_isStep_18 : decode cX9_isStep 18 = .ok (.if_icmp .lt 13, 3) := by decide +kernel
theorem dX9_isStep_21 : decode cX9_isStep 21 = .ok (.iload_n 1, 1) := by decide +kernel
theorem dX9_isStep_22 : decode cX9_isStep 22 = .ok (.bipush 8, 2) := by decide +kernel
theorem dX9_isStep_24 : decode cX9_isStep 24 = .ok (.if_icmp .gt 7, 3) := by decide +kernel
theorem dX9_isStep_27 : decode cX9_isStep 27 = .ok (.iconst 1, 1) := by decide +kernel
theorem dX9_isStep_28 : decode cX9_isStep 28 = .ok (.goto 4, 3) := by decide +kernel
theorem dX9_isStep_31 : decode cX9_isStep 31 = .ok (.iconst 0, 1) := by decide +kernel
theorem dX9_isStep_32 : decode cX9_isStep 32 = .ok (.istore 4, 2) := by decide +kernel
theorem dX9_isStep_34 : decode cX9_isStep 34 = .ok (.iload_n 0, 1) := by decide +kernel
theorem dX9_isStep_35 : decode cX9_isStep 35 = .ok (.tableswitch 186 0 13 #[69, 71, 94, 113, 132, 143, 143, 143, 157, 172, 172, 172, 172, 172], 69) := by decide +kernel
theorem dX9_isStep_104 : decode cX9_isStep 104 = .ok (.iconst 1, 1) := by decide +kernel
theorem dX9_isStep_105 : decode cX9_isStep 105 = .ok (.ireturn, 1) := by decide +kernel
theorem dX9_isStep_106 : decode cX9_isStep 106 = .ok (.iload_n 1, 1) := by decide +kernel
theorem dX9_isStep_107 : decode cX9_isStep 107 = .ok (.ifCond .lt 20, 3) := by decide +kernel
theorem dX9_isStep_110 : decode cX9_isStep 110 = .ok (.iload_n 1, 1) := by decide +kernel
theorem dX9_isStep_111 : decode cX9_isStep 111 = .ok (.iload_n 2, 1) := by decide +kernel
theorem dX9_isStep_112 : decode cX9_isStep 112 = .ok (.ifCond .eq 7, 3) := by decide +kernel
theorem dX9_isStep_115 : decode cX9_isStep 115 = .ok (.iconst 3, 1) := by decide +kernel
theorem dX9_isStep_116 : decode cX9_isStep 116 = .ok (.goto 4, 3) := by decide +kernel
theorem dX9_isStep_119 : decode cX9_isStep 119 = .ok (.iconst 1, 1) := by decide +kernel
theorem dX9_isStep_120 : decode cX9_isStep 120 = .ok (.if_icmp .gt 7, 3) := by decide +kernel
theorem dX9_isStep_123 : decode cX9_isStep 123 = .ok (.iconst 1, 1) := by decide +kernel
theorem dX9_isStep_124 : decode cX9_isStep 124 = .ok (.goto 4, 3) := by decide +kernel
theorem dX9_isStep_127 : decode cX9_isStep 127 = .ok (.iconst 0, 1) := by decide +kernel
theorem dX9_isStep_128 : decode cX9_isStep 128 = .ok (.ireturn, 1) := by decide +kernel
theorem dX9_isStep_129 : decode cX9_isStep 129 = .ok (.iload_n 2, 1) := by decide +kernel
theorem dX9_isStep_130 : decode cX9_isStep 130 = .ok (.ifCond .eq 16, 3) := by decide +kernel
theorem dX9_isStep_133 : decode cX9_isStep 133 = .ok (.iload_n 1, 1) := by decide +kernel
theorem dX9_isStep_134 : decode cX9_isStep 134 = .ok (.ifCond .eq 8, 3) := by decide +kernel
theorem dX9_isStep_137 : decode cX9_isStep 137 = .ok (.iload_n 1, 1) := by decide +kernel
theorem dX9_isStep_138 : decode cX9_isStep 138 = .ok (.iconst 1, 1) := by decide +kernel
theorem dX9_isStep_139 : decode cX9_isStep 139 = .ok (.if_icmp .ne 7, 3) := by decide +kernel
theorem dX9_isStep_142 : decode cX9_isStep 142 = .ok (.iconst 1, 1) := by decide +kernel
theorem dX9_isStep_143 : decode cX9_isStep 143 = .ok (.goto 4, 3) := by decide +kernel
theorem dX9_isStep_146 : decode cX9_isStep 146 = .ok (.iconst 0, 1) := by decide +kernel
theorem dX9_isStep_147 : decode cX9_isStep 147 = .ok (.ireturn, 1) := by decide +kernel
theorem dX9_isStep_148 : decode cX9_isStep 148 = .ok (.iload_n 1, 1) := by decide +kernel
theorem dX9_isStep_149 : decode cX9_isStep 149 = .ok (.iconst 1, 1) := by decide +kernel
theorem dX9_isStep_150 : decode cX9_isStep 150 = .ok (.if_icmp .eq 11, 3) := by decide +kernel
theorem dX9_isStep_153 : decode cX9_isStep 153 = .ok (.iload_n 1, 1) := by decide +kernel
theorem dX9_isStep_154 : decode cX9_isStep 154 = .ok (.ifCond .ne 11, 3) := by decide +kernel
theorem dX9_isStep_157 : decode cX9_isStep 157 = .ok (.iload_n 2, 1) := by decide +kernel
theorem dX9_isStep_158 : decode cX9_isStep 158 = .ok (.ifCond .eq 7, 3) := by decide +kernel
theorem dX9_isStep_161 : decode cX9_isStep 161 = .ok (.iconst 1, 1) := by decide +kernel
theorem dX9_isStep_162 : decode cX9_isStep 162 = .ok (.goto 4, 3) := by decide +kernel
theorem dX9_isStep_165 : decode cX9_isStep 165 = .ok (.iconst 0, 1) := by decide +kernel
theorem dX9_isStep_166 : decode cX9_isStep 166 = .ok (.ireturn, 1) := by decide +kernel
theorem dX9_isStep_167 : decode cX9_isStep 167 = .ok (.iload_n 2, 1) := by decide +kernel
theorem dX9_isStep_168 : decode cX9_isStep 168 = .ok (.ifCond .eq 7, 3) := by decide +kernel
theorem dX9_isStep_171 : decode cX9_isStep 171 = .ok (.iload_n 3, 1) := by decide +kernel
theorem dX9_isStep_172 : decode cX9_isStep 172 = .ok (.goto 5, 3) := by decide +kernel
theorem dX9_isStep_175 : decode cX9_isStep 175 = .ok (.iload 4, 2) := by decide +kernel
theorem dX9_isStep_177 : decode cX9_isStep 177 = .ok (.ireturn, 1) := by decide +kernel
theorem dX9_isStep_178 : decode cX9_isStep 178 = .ok (.iload_n 2, 1) := by decide +kernel
theorem dX9_isStep_179 : decode cX9_isStep 179 = .ok (.ifCond .eq 11, 3) := by decide +kernel
theorem dX9_isStep_182 : decode cX9_isStep 182 = .ok (.iload_n 3, 1) := by decide +kernel
theorem dX9_isStep_183 : decode cX9_isStep 183 = .ok (.ifCond .eq 7, 3) := by decide +kernel
theorem dX9_isStep_186 : decode cX9_isStep 186 = .ok (.iconst 1, 1) := by decide +kernel
theorem dX9_isStep_187 : decode cX9_isStep 187 = .ok (.goto 4, 3) := by decide +kernel
theorem dX9_isStep_190 : decode cX9_isStep 190 = .ok (.iconst 0, 1) := by decide +kernel
theorem dX9_isStep_191 : decode cX9_isStep 191 = .ok (.ireturn, 1) := by decide +kernel
theorem dX9_isStep_192 : decode cX9_isStep 192 = .ok (.iload_n 2, 1) := by decide +kernel
theorem dX9_isStep_193 : decode cX9_isStep 193 = .ok (.ifCond .eq 12, 3) := by decide +kernel
theorem dX9_isStep_196 : decode cX9_isStep 196 = .ok (.iload 4, 2) := by decide +kernel
theorem dX9_isStep_198 : decode cX9_isStep 198 = .ok (.ifCond .eq 7, 3) := by decide +kernel
theorem dX9_isStep_201 : decode cX9_isStep 201 = .ok (.iconst 1, 1) := by decide +kernel
theorem dX9_isStep_202 : decode cX9_isStep 202 = .ok (.goto 4, 3) := by decide +kernel
theorem dX9_isStep_205 : decode cX9_isStep 205 = .ok (.iconst 0, 1) := by decide +kernel
theorem dX9_isStep_206 : decode cX9_isStep 206 = .ok (.ireturn, 1) := by decide +kernel
theorem dX9_isStep_207 : decode cX9_isStep 207 = .ok (.iload_n 2, 1) := by decide +kernel
theorem dX9_isStep_208 : decode cX9_isStep 208 = .ok (.ifCond .ne 11, 3) := by decide +kernel
theorem dX9_isStep_211 : decode cX9_isStep 211 = .ok (.iload_n 3, 1) := by decide +kernel
theorem dX9_isStep_212 : decode cX9_isStep 212 = .ok (.ifCond .eq 7, 3) := by decide +kernel
theorem dX9_isStep_215 : decode cX9_isStep 215 = .ok (.iconst 1, 1) := by decide +kernel
theorem dX9_isStep_216 : decode cX9_isStep 216 = .ok (.goto 4, 3) := by decide +kernel
theorem dX9_isStep_219 : decode cX9_isStep 219 = .ok (.iconst 0, 1) := by decide +kernel
theorem dX9_isStep_220 : decode cX9_isStep 220 = .ok (.ireturn, 1) := by decide +kernel
theorem dX9_isStep_221 : decode cX9_isStep 221 = .ok (.iload_n 0, 1) := by decide +kernel
theorem dX9_isStep_222 : decode cX9_isStep 222 = .ok (.bipush 14, 2) := by decide +kernel
theorem dX9_isStep_224 : decode cX9_isStep 224 = .ok (.if_icmp .lt 13, 3) := by decide +kernel
theorem dX9_isStep_227 : decode cX9_isStep 227 = .ok (.iload_n 0, 1) := by decide +kernel
theorem dX9_isStep_228 : decode cX9_isStep 228 = .ok (.bipush 24, 2) := by decide +kernel
theorem dX9_isStep_230 : decode cX9_isStep 230 = .ok (.if_icmp .gt 7, 3) := by decide +kernel
theorem dX9_isStep_233 : decode cX9_isStep 233 = .ok (.iconst 1, 1) := by decide +kernel
theorem dX9_isStep_234 : decode cX9_isStep 234 = .ok (.goto 4, 3) := by decide +kernel
theorem dX9_isStep_237 : decode cX9_isStep 237 = .ok (.iconst 0, 1) := by decide +kernel
theorem dX9_isStep_238 : decode cX9_isStep 238 = .ok (.ireturn, 1) := by decide +kernel
theorem dX9_maker_0 : decode cX9_maker 0 = .ok (.aload_n 0, 1) := by decide +kernel
theorem dX9_maker_1 : decode cX9_maker 1 = .ok (.iconst 0, 1) := by decide +kernel
theorem dX9_maker_2 : decode cX9_maker 2 = .ok (.putfield 1, 3) := by decide +kernel
theorem dX9_maker_5 : decode cX9_maker 5 = .ok (.aload_n 0, 1) := by decide +kernel
theorem dX9_maker_6 : decode cX9_maker 6 = .ok (.getfield 13, 3) := by decide +kernel
theorem dX9_maker_9 : decode cX9_maker 9 = .ok (.ifCond .ne 9, 3) := by decide +kernel
theorem dX9_maker_12 : decode cX9_maker 12 = .ok (.aload_n 0, 1) := by decide +kernel
theorem dX9_maker_13 : decode cX9_maker 13 = .ok (.iconst 1, 1) := by decide +kernel
theorem dX9_maker_14 : decode cX9_maker 14 = .ok (.invokevirtual 106, 3) := by decide +kernel
theorem dX9_maker_17 : decode cX9_maker 17 = .ok (.ireturn, 1) := by decide +kernel
theorem dX9_maker_18 : decode cX9_maker 18 = .ok (.iload_n 1, 1) := by decide +kernel
theorem dX9_maker_19 : decode cX9_maker 19 = .ok (.ifCond .lt 9, 3) := by decide +kernel
theorem dX9_maker_22 : decode cX9_maker 22 = .ok (.iload_n 1, 1) := by decide +kernel
theorem dX9_maker_23 : decode cX9_maker 23 = .ok (.bipush 8, 2) := by decide +kernel
theorem dX9_maker_25 : decode cX9_maker 25 = .ok (.if_icmp .le 9, 3) := by decide +kernel
theorem dX9_maker_28 : decode cX9_maker 28 = .ok (.aload_n 0, 1) := by decide +kernel
theorem dX9_maker_29 : decode cX9_maker 29 = .ok (.iconst 2, 1) := by decide +kernel
theorem dX9_maker_30 : decode cX9_maker 30 = .ok (.invokevirtual 106, 3) := by decide +kernel
theorem dX9_maker_33 : decode cX9_maker 33 = .ok (.ireturn, 1) := by decide +kernel
theorem dX9_maker_34 : decode cX9_maker 34 = .ok (.aload_n 0, 1) := by decide +kernel
theorem dX9_maker_35 : decode cX9_maker 35 = .ok (.getfield 110, 3) := by decide +kernel
theorem dX9_maker_38 : decode cX9_maker 38 = .ok (.istore_n 2, 1) := by decide +kernel
theorem dX9_maker_39 : decode cX9_maker 39 = .ok (.aload_n 0, 1) := by decide +kernel
theorem dX9_maker_40 : decode cX9_maker 40 = .ok (.iconst 0, 1) := by decide +kernel
theorem dX9_maker_41 : decode cX9_maker 41 = .ok (.putfield 110, 3) := by decide +kernel
theorem dX9_maker_44 : decode cX9_maker 44 = .ok (.iconst 0, 1) := by decide +kernel
theorem dX9_maker_45 : decode cX9_maker 45 = .ok (.istore_n 3, 1) := by decide +kernel
theorem dX9_maker_46 : decode cX9_maker 46 = .ok (.iconst 0, 1) := by decide +kernel
theorem dX9_maker_47 : decode cX9_maker 47 = .ok (.istore 4, 2) := by decide +kernel
theorem dX9_maker_49 : decode cX9_maker 49 = .ok (.iload 4, 2) := by decide +kernel
theorem dX9_maker_51 : decode cX9_maker 51 = .ok (.iload_n 2, 1) := by decide +kernel
theorem dX9_maker_52 : decode cX9_maker 52 = .ok (.if_icmp .ge 89, 3) := by decide +kernel
theorem dX9_maker_55 : decode cX9_maker 55 = .ok (.aload_n 0, 1) := by decide +kernel
theorem dX9_maker_56 : decode cX9_maker 56 = .ok (.getfield 17, 3) := by decide +kernel
theorem dX9_maker_59 : decode cX9_maker 59 = .ok (.iload 4, 2) := by decide +kernel
theorem dX9_maker_61 : decode cX9_maker 61 = .ok (.iaload, 1) := by decide +kernel
theorem dX9_maker_62 : decode cX9_maker 62 = .ok (.istore 5, 2) := by decide +kernel
theorem dX9_maker_64 : decode cX9_maker 64 = .ok (.iload 5, 2) := by decide +kernel
theorem dX9_maker_66 : decode cX9_maker 66 = .ok (.aload_n 0, 1) := by decide +kernel
theorem dX9_maker_67 : decode cX9_maker 67 = .ok (.getfield 21, 3) := by decide +kernel
theorem dX9_maker_70 : decode cX9_maker 70 = .ok (.iload 4, 2) := by decide +kernel
theorem dX9_maker_72 : decode cX9_maker 72 = .ok (.iaload, 1) := by decide +kernel
theorem dX9_maker_73 : decode cX9_maker 73 = .ok (.iload_n 1, 1) := by decide +kernel
theorem dX9_maker_74 : decode cX9_maker 74 = .ok (.iconst 5, 1) := by decide +kernel
theorem dX9_maker_75 : decode cX9_maker 75 = .ok (.if_icmp .gt 7, 3) := by decide +kernel
theorem dX9_maker_78 : decode cX9_maker 78 = .ok (.iconst 1, 1) := by decide +kernel
theorem dX9_maker_79 : decode cX9_maker 79 = .ok (.goto 4, 3) := by decide +kernel
theorem dX9_maker_82 : decode cX9_maker 82 = .ok (.iconst 0, 1) := by decide +kernel
theorem dX9_maker_83 : decode cX9_maker 83 = .ok (.invokestatic 113, 3) := by decide +kernel
theorem dX9_maker_86 : decode cX9_maker 86 = .ok (.ifCond .eq 30, 3) := by decide +kernel
theorem dX9_maker_89 : decode cX9_maker 89 = .ok (.iload 5, 2) := by decide +kernel
theorem dX9_maker_91 : decode cX9_maker 91 = .ok (.invokestatic 117, 3) := by decide +kernel
theorem dX9_maker_94 : decode cX9_maker 94 = .ok (.iload_n 3, 1) := by decide +kernel
theorem dX9_maker_95 : decode cX9_maker 95 = .ok (.if_icmp .gt 21, 3) := by decide +kernel
theorem dX9_maker_98 : decode cX9_maker 98 = .ok (.iload_n 3, 1) := by decide +kernel
theorem dX9_maker_99 : decode cX9_maker 99 = .ok (.iload 5, 2) := by decide +kernel
theorem dX9_maker_101 : decode cX9_maker 101 = .ok (.invokestatic 117, 3) := by decide +kernel
theorem dX9_maker_104 : decode cX9_maker 104 = .ok (.isub, 1) := by decide +kernel
theorem dX9_maker_105 : decode cX9_maker 105 = .ok (.iload 5, 2) := by decide +kernel
theorem dX9_maker_107 : decode cX9_maker 107 = .ok (.invokestatic 120, 3) := by decide +kernel
theorem dX9_maker_110 : decode cX9_maker 110 = .ok (.iadd, 1) := by decide +kernel
theorem dX9_maker_111 : decode cX9_maker 111 = .ok (.bipush 8, 2) := by decide +kernel
theorem dX9_maker_113 : decode cX9_maker 113 = .ok (.if_icmp .le 8, 3) := by decide +kernel
theorem dX9_maker_116 : decode cX9_maker 116 = .ok (.iconst (-1), 1) := by decide +kernel
theorem dX9_maker_117 : decode cX9_maker 117 = .ok (.iload 4, 2) := by decide +kernel
theorem dX9_maker_119 : decode cX9_maker 119 = .ok (.isub, 1) := by decide +kernel
theorem dX9_maker_120 : decode cX9_maker 120 = .ok (.ireturn, 1) := by decide +kernel
theorem dX9_maker_121 : decode cX9_maker 121 = .ok (.iload_n 3, 1) := by decide +kernel
theorem dX9_maker_122 : decode cX9_maker 122 = .ok (.iload 5, 2) := by decide +kernel
theorem dX9_maker_124 : decode cX9_maker 124 = .ok (.invokestatic 120, 3) := by decide +kernel
theorem dX9_maker_127 : decode cX9_maker 127 = .ok (.iload 5, 2) := by decide +kernel
theorem dX9_maker_129 : decode cX9_maker 129 = .ok (.invokestatic 117, 3) := by decide +kernel
theorem dX9_maker_132 : decode cX9_maker 132 = .ok (.isub, 1) := by decide +kernel
theorem dX9_maker_133 : decode cX9_maker 133 = .ok (.iadd, 1) := by decide +kernel
theorem dX9_maker_134 : decode cX9_maker 134 = .ok (.istore_n 3, 1) := by decide +kernel
theorem dX9_maker_135 : decode cX9_maker 135 = .ok (.iinc 4 1, 3) := by decide +kernel
theorem dX9_maker_138 : decode cX9_maker 138 = .ok (.goto (-89), 3) := by decide +kernel
theorem dX9_maker_141 : decode cX9_maker 141 = .ok (.iload_n 3, 1) := by decide +kernel
theorem dX9_maker_142 : decode cX9_maker 142 = .ok (.iconst 1, 1) := by decide +kernel
theorem dX9_maker_143 : decode cX9_maker 143 = .ok (.if_icmp .eq 7, 3) := by decide +kernel
theorem dX9_maker_146 : decode cX9_maker 146 = .ok (.iconst (-1), 1) := by decide +kernel
theorem dX9_maker_147 : decode cX9_maker 147 = .ok (.iload_n 2, 1) := by decide +kernel
theorem dX9_maker_148 : decode cX9_maker 148 = .ok (.isub, 1) := by decide +kernel
theorem dX9_maker_149 : decode cX9_maker 149 = .ok (.ireturn, 1) := by decide +kernel
theorem dX9_maker_150 : decode cX9_maker 150 = .ok (.aload_n 0, 1) := by decide +kernel
theorem dX9_maker_151 : decode cX9_maker 151 = .ok (.getfield 24, 3) := by decide +kernel
theorem dX9_maker_154 : decode cX9_maker 154 = .ok (.iload_n 1, 1) := by decide +kernel
theorem dX9_maker_155 : decode cX9_maker 155 = .ok (.iload_n 2, 1) := by decide +kernel
theorem dX9_maker_156 : decode cX9_maker 156 = .ok (.iastore, 1) := by decide +kernel
theorem dX9_maker_157 : decode cX9_maker 157 = .ok (.iconst 0, 1) := by decide +kernel
theorem dX9_maker_158 : decode cX9_maker 158 = .ok (.istore 4, 2) := by decide +kernel
theorem dX9_maker_160 : decode cX9_maker 160 = .ok (.iload 4, 2) := by decide +kernel
theorem dX9_maker_162 : decode cX9_maker 162 = .ok (.iload_n 2, 1) := by decide +kernel
theorem dX9_maker_163 : decode cX9_maker 163 = .ok (.if_icmp .ge 47, 3) := by decide +kernel
theorem dX9_maker_166 : decode cX9_maker 166 = .ok (.aload_n 0, 1) := by decide +kernel
theorem dX9_maker_167 : decode cX9_maker 167 = .ok (.getfield 27, 3) := by decide +kernel
theorem dX9_maker_170 : decode cX9_maker 170 = .ok (.iload_n 1, 1) := by decide +kernel
theorem dX9_maker_171 : decode cX9_maker 171 = .ok (.bipush 24, 2) := by decide +kernel
theorem dX9_maker_173 : decode cX9_maker 173 = .ok (.imul, 1) := by decide +kernel
theorem dX9_maker_174 : decode cX9_maker 174 = .ok (.iload 4, 2) := by decide +kernel
theorem dX9_maker_176 : decode cX9_maker 176 = .ok (.iadd, 1) := by decide +kernel
theorem dX9_maker_177 : decode cX9_maker 177 = .ok (.aload_n 0, 1) := by decide +kernel
theorem dX9_maker_178 : decode cX9_maker 178 = .ok (.getfield 17, 3) := by decide +kernel
theorem dX9_maker_181 : decode cX9_maker 181 = .ok (.iload 4, 2) := by decide +kernel
theorem dX9_maker_183 : decode cX9_maker 183 = .ok (.iaload, 1) := by decide +kernel
theorem dX9_maker_184 : decode cX9_maker 184 = .ok (.iastore, 1) := by decide +kernel
theorem dX9_maker_185 : decode cX9_maker 185 = .ok (.aload_n 0, 1) := by decide +kernel
theorem dX9_maker_186 : decode cX9_maker 186 = .ok (.getfield 30, 3) := by decide +kernel
theorem dX9_maker_189 : decode cX9_maker 189 = .ok (.iload_n 1, 1) := by decide +kernel
theorem dX9_maker_190 : decode cX9_maker 190 = .ok (.bipush 24, 2) := by decide +kernel
theorem dX9_maker_192 : decode cX9_maker 192 = .ok (.imul, 1) := by decide +kernel
theorem dX9_maker_193 : decode cX9_maker 193 = .ok (.iload 4, 2) := by decide +kernel
theorem dX9_maker_195 : decode cX9_maker 195 = .ok (.iadd, 1) := by decide +kernel
theorem dX9_maker_196 : decode cX9_maker 196 = .ok (.aload_n 0, 1) := by decide +kernel
theorem dX9_maker_197 : decode cX9_maker 197 = .ok (.getfield 21, 3) := by decide +kernel
theorem dX9_maker_200 : decode cX9_maker 200 = .ok (.iload 4, 2) := by decide +kernel
theorem dX9_maker_202 : decode cX9_maker 202 = .ok (.iaload, 1) := by decide +kernel
theorem dX9_maker_203 : decode cX9_maker 203 = .ok (.iastore, 1) := by decide +kernel
theorem dX9_maker_204 : decode cX9_maker 204 = .ok (.iinc 4 1, 3) := by decide +kernel
theorem dX9_maker_207 : decode cX9_maker 207 = .ok (.goto (-47), 3) := by decide +kernel
theorem dX9_maker_210 : decode cX9_maker 210 = .ok (.iconst 0, 1) := by decide +kernel
theorem dX9_maker_211 : decode cX9_maker 211 = .ok (.ireturn, 1) := by decide +kernel
theorem dX9_open_0 : decode cX9_open 0 = .ok (.aload_n 0, 1) := by decide +kernel
theorem dX9_open_1 : decode cX9_open 1 = .ok (.iconst 0, 1) := by decide +kernel
theorem dX9_open_2 : decode cX9_open 2 = .ok (.putfield 1, 3) := by decide +kernel
theorem dX9_open_5 : decode cX9_open 5 = .ok (.aload_n 0, 1) := by decide +kernel
theorem dX9_open_6 : decode cX9_open 6 = .ok (.getfield 13, 3) := by decide +kernel
theorem dX9_open_9 : decode cX9_open 9 = .ok (.ifCond .ne 9, 3) := by decide +kernel
theorem dX9_open_12 : decode cX9_open 12 = .ok (.aload_n 0, 1) := by decide +kernel
theorem dX9_open_13 : decode cX9_open 13 = .ok (.iconst 1, 1) := by decide +kernel
theorem dX9_open_14 : decode cX9_open 14 = .ok (.invokevirtual 106, 3) := by decide +kernel
theorem dX9_open_17 : decode cX9_open 17 = .ok (.ireturn, 1) := by decide +kernel
theorem dX9_open_18 : decode cX9_open 18 = .ok (.aload_n 0, 1) := by decide +kernel
theorem dX9_open_19 : decode cX9_open 19 = .ok (.iconst 0, 1) := by decide +kernel
theorem dX9_open_20 : decode cX9_open 20 = .ok (.putfield 13, 3) := by decide +kernel
theorem dX9_open_23 : decode cX9_open 23 = .ok (.aload_n 0, 1) := by decide +kernel
theorem dX9_open_24 : decode cX9_open 24 = .ok (.iconst 1, 1) := by decide +kernel
theorem dX9_open_25 : decode cX9_open 25 = .ok (.invokevirtual 123, 3) := by decide +kernel
theorem dX9_open_28 : decode cX9_open 28 = .ok (.istore_n 1, 1) := by decide +kernel
theorem dX9_open_29 : decode cX9_open 29 = .ok (.aload_n 0, 1) := by decide +kernel
theorem dX9_open_30 : decode cX9_open 30 = .ok (.iload_n 1, 1) := by decide +kernel
theorem dX9_open_31 : decode cX9_open 31 = .ok (.ifCond .ge 7, 3) := by decide +kernel
theorem dX9_open_34 : decode cX9_open 34 = .ok (.iconst 1, 1) := by decide +kernel
theorem dX9_open_35 : decode cX9_open 35 = .ok (.goto 4, 3) := by decide +kernel
theorem dX9_open_38 : decode cX9_open 38 = .ok (.iconst 0, 1) := by decide +kernel
theorem dX9_open_39 : decode cX9_open 39 = .ok (.putfield 13, 3) := by decide +kernel
theorem dX9_open_42 : decode cX9_open 42 = .ok (.iload_n 1, 1) := by decide +kernel
theorem dX9_open_43 : decode cX9_open 43 = .ok (.ireturn, 1) := by decide +kernel
theorem dX9_kindOf_0 : decode cX9_kindOf 0 = .ok (.iload_n 0, 1) := by decide +kernel
theorem dX9_kindOf_1 : decode cX9_kindOf 1 = .ok (.sipush 240, 3) := by decide +kernel
theorem dX9_kindOf_4 : decode cX9_kindOf 4 = .ok (.if_icmp .ge 10, 3) := by decide +kernel
theorem dX9_kindOf_7 : decode cX9_kindOf 7 = .ok (.iload_n 0, 1) := by decide +kernel
theorem dX9_kindOf_8 : decode cX9_kindOf 8 = .ok (.bipush 6, 2) := by decide +kernel
theorem dX9_kindOf_10 : decode cX9_kindOf 10 = .ok (.irem, 1) := by decide +kernel
theorem dX9_kindOf_11 : decode cX9_kindOf 11 = .ok (.goto 13, 3) := by decide +kernel
theorem dX9_kindOf_14 : decode cX9_kindOf 14 = .ok (.bipush 6, 2) := by decide +kernel
theorem dX9_kindOf_16 : decode cX9_kindOf 16 = .ok (.iload_n 0, 1) := by decide +kernel
theorem dX9_kindOf_17 : decode cX9_kindOf 17 = .ok (.sipush 240, 3) := by decide +kernel
theorem dX9_kindOf_20 : decode cX9_kindOf 20 = .ok (.isub, 1) := by decide +kernel
theorem dX9_kindOf_21 : decode cX9_kindOf 21 = .ok (.iconst 3, 1) := by decide +kernel
theorem dX9_kindOf_22 : decode cX9_kindOf 22 = .ok (.irem, 1) := by decide +kernel
theorem dX9_kindOf_23 : decode cX9_kindOf 23 = .ok (.iadd, 1) := by decide +kernel
theorem dX9_kindOf_24 : decode cX9_kindOf 24 = .ok (.ireturn, 1) := by decide +kernel
theorem dX9_ownerOf_0 : decode cX9_ownerOf 0 = .ok (.iload_n 0, 1) := by decide +kernel
theorem dX9_ownerOf_1 : decode cX9_ownerOf 1 = .ok (.sipush 240, 3) := by decide +kernel
theorem dX9_ownerOf_4 : decode cX9_ownerOf 4 = .ok (.if_icmp .ge 10, 3) := by decide +kernel
theorem dX9_ownerOf_7 : decode cX9_ownerOf 7 = .ok (.iload_n 0, 1) := by decide +kernel
theorem dX9_ownerOf_8 : decode cX9_ownerOf 8 = .ok (.bipush 6, 2) := by decide +kernel
theorem dX9_ownerOf_10 : decode cX9_ownerOf 10 = .ok (.idiv, 1) := by decide +kernel
theorem dX9_ownerOf_11 : decode cX9_ownerOf 11 = .ok (.goto 10, 3) := by decide +kernel
theorem dX9_ownerOf_14 : decode cX9_ownerOf 14 = .ok (.iload_n 0, 1) := by decide +kernel
theorem dX9_ownerOf_15 : decode cX9_ownerOf 15 = .ok (.sipush 240, 3) := by decide +kernel
theorem dX9_ownerOf_18 : decode cX9_ownerOf 18 = .ok (.isub, 1) := by decide +kernel
theorem dX9_ownerOf_19 : decode cX9_ownerOf 19 = .ok (.iconst 3, 1) := by decide +kernel
theorem dX9_ownerOf_20 : decode cX9_ownerOf 20 = .ok (.idiv, 1) := by decide +kernel
theorem dX9_ownerOf_21 : decode cX9_ownerOf 21 = .ok (.ireturn, 1) := by decide +kernel
theorem dX9_isCell_0 : decode cX9_isCell 0 = .ok (.aload_n 0, 1) := by decide +kernel
theorem dX9_isCell_1 : decode cX9_isCell 1 = .ok (.getfield 24, 3) := by decide +kernel
theorem dX9_isCell_4 : decode cX9_isCell 4 = .ok (.iload_n 2, 1) := by decide +kernel
theorem dX9_isCell_5 : decode cX9_isCell 5 = .ok (.invokestatic 127, 3) := by decide +kernel
theorem dX9_isCell_8 : decode cX9_isCell 8 = .ok (.iaload, 1) := by decide +kernel
theorem dX9_isCell_9 : decode cX9_isCell 9 = .ok (.ifCond .ne 5, 3) := by decide +kernel
theorem dX9_isCell_12 : decode cX9_isCell 12 = .ok (.iconst 0, 1) := by decide +kernel
theorem dX9_isCell_13 : decode cX9_isCell 13 = .ok (.ireturn, 1) := by decide +kernel
theorem dX9_isCell_14 : decode cX9_isCell 14 = .ok (.iload_n 2, 1) := by decide +kernel
theorem dX9_isCell_15 : decode cX9_isCell 15 = .ok (.sipush 240, 3) := by decide +kernel
theorem dX9_isCell_18 : decode cX9_isCell 18 = .ok (.if_icmp .ge 36, 3) := by decide +kernel
theorem dX9_isCell_21 : decode cX9_isCell 21 = .ok (.iload_n 2, 1) := by decide +kernel
theorem dX9_isCell_22 : decode cX9_isCell 22 = .ok (.invokestatic 130, 3) := by decide +kernel
theorem dX9_isCell_25 : decode cX9_isCell 25 = .ok (.aload_n 0, 1) := by decide +kernel
theorem dX9_isCell_26 : decode cX9_isCell 26 = .ok (.getfield 100, 3) := by decide +kernel
theorem dX9_isCell_29 : decode cX9_isCell 29 = .ok (.if_icmp .ge 21, 3) := by decide +kernel
theorem dX9_isCell_32 : decode cX9_isCell 32 = .ok (.aload_n 1, 1) := by decide +kernel
theorem dX9_isCell_33 : decode cX9_isCell 33 = .ok (.sipush 212, 3) := by decide +kernel
theorem dX9_isCell_36 : decode cX9_isCell 36 = .ok (.iload_n 2, 1) := by decide +kernel
theorem dX9_isCell_37 : decode cX9_isCell 37 = .ok (.invokestatic 130, 3) := by decide +kernel
theorem dX9_isCell_40 : decode cX9_isCell 40 = .ok (.iadd, 1) := by decide +kernel
theorem dX9_isCell_41 : decode cX9_isCell 41 = .ok (.iaload, 1) := by decide +kernel
theorem dX9_isCell_42 : decode cX9_isCell 42 = .ok (.iconst (-1), 1) := by decide +kernel
theorem dX9_isCell_43 : decode cX9_isCell 43 = .ok (.if_icmp .eq 7, 3) := by decide +kernel
theorem dX9_isCell_46 : decode cX9_isCell 46 = .ok (.iconst 1, 1) := by decide +kernel
theorem dX9_isCell_47 : decode cX9_isCell 47 = .ok (.goto 23, 3) := by decide +kernel
theorem dX9_isCell_50 : decode cX9_isCell 50 = .ok (.iconst 0, 1) := by decide +kernel
theorem dX9_isCell_51 : decode cX9_isCell 51 = .ok (.goto 19, 3) := by decide +kernel
theorem dX9_isCell_54 : decode cX9_isCell 54 = .ok (.iload_n 2, 1) := by decide +kernel
theorem dX9_isCell_55 : decode cX9_isCell 55 = .ok (.invokestatic 130, 3) := by decide +kernel
theorem dX9_isCell_58 : decode cX9_isCell 58 = .ok (.aload_n 0, 1) := by decide +kernel
theorem dX9_isCell_59 : decode cX9_isCell 59 = .ok (.getfield 103, 3) := by decide +kernel
theorem dX9_isCell_62 : decode cX9_isCell 62 = .ok (.if_icmp .ge 7, 3) := by decide +kernel
theorem dX9_isCell_65 : decode cX9_isCell 65 = .ok (.iconst 1, 1) := by decide +kernel
theorem dX9_isCell_66 : decode cX9_isCell 66 = .ok (.goto 4, 3) := by decide +kernel
theorem dX9_isCell_69 : decode cX9_isCell 69 = .ok (.iconst 0, 1) := by decide +kernel
theorem dX9_isCell_70 : decode cX9_isCell 70 = .ok (.ireturn, 1) := by decide +kernel
theorem dX9_placeOf_0 : decode cX9_placeOf 0 = .ok (.aload_n 0, 1) := by decide +kernel
theorem dX9_placeOf_1 : decode cX9_placeOf 1 = .ok (.sipush 212, 3) := by decide +kernel
theorem dX9_placeOf_4 : decode cX9_placeOf 4 = .ok (.iload_n 1, 1) := by decide +kernel
theorem dX9_placeOf_5 : decode cX9_placeOf 5 = .ok (.iadd, 1) := by decide +kernel
theorem dX9_placeOf_6 : decode cX9_placeOf 6 = .ok (.iaload, 1) := by decide +kernel
theorem dX9_placeOf_7 : decode cX9_placeOf 7 = .ok (.istore_n 2, 1) := by decide +kernel
theorem dX9_placeOf_8 : decode cX9_placeOf 8 = .ok (.iconst 0, 1) := by decide +kernel
theorem dX9_placeOf_9 : decode cX9_placeOf 9 = .ok (.istore_n 3, 1) := by decide +kernel
theorem dX9_placeOf_10 : decode cX9_placeOf 10 = .ok (.iload_n 3, 1) := by decide +kernel
theorem dX9_placeOf_11 : decode cX9_placeOf 11 = .ok (.aload_n 0, 1) := by decide +kernel
theorem dX9_placeOf_12 : decode cX9_placeOf 12 = .ok (.sipush 492, 3) := by decide +kernel
theorem dX9_placeOf_15 : decode cX9_placeOf 15 = .ok (.iload_n 2, 1) := by decide +kernel
theorem dX9_placeOf_16 : decode cX9_placeOf 16 = .ok (.iadd, 1) := by decide +kernel
theorem dX9_placeOf_17 : decode cX9_placeOf 17 = .ok (.iaload, 1) := by decide +kernel
theorem dX9_placeOf_18 : decode cX9_placeOf 18 = .ok (.if_icmp .ge 27, 3) := by decide +kernel
theorem dX9_placeOf_21 : decode cX9_placeOf 21 = .ok (.aload_n 0, 1) := by decide +kernel
theorem dX9_placeOf_22 : decode cX9_placeOf 22 = .ok (.sipush 252, 3) := by decide +kernel
theorem dX9_placeOf_25 : decode cX9_placeOf 25 = .ok (.iload_n 2, 1) := by decide +kernel
theorem dX9_placeOf_26 : decode cX9_placeOf 26 = .ok (.bipush 40, 2) := by decide +kernel
theorem dX9_placeOf_28 : decode cX9_placeOf 28 = .ok (.imul, 1) := by decide +kernel
theorem dX9_placeOf_29 : decode cX9_placeOf 29 = .ok (.iadd, 1) := by decide +kernel
theorem dX9_placeOf_30 : decode cX9_placeOf 30 = .ok (.iload_n 3, 1) := by decide +kernel
theorem dX9_placeOf_31 : decode cX9_placeOf 31 = .ok (.iadd, 1) := by decide +kernel
theorem dX9_placeOf_32 : decode cX9_placeOf 32 = .ok (.iaload, 1) := by decide +kernel
theorem dX9_placeOf_33 : decode cX9_placeOf 33 = .ok (.iload_n 1, 1) := by decide +kernel
theorem dX9_placeOf_34 : decode cX9_placeOf 34 = .ok (.if_icmp .ne 5, 3) := by decide +kernel
theorem dX9_placeOf_37 : decode cX9_placeOf 37 = .ok (.iload_n 3, 1) := by decide +kernel
theorem dX9_placeOf_38 : decode cX9_placeOf 38 = .ok (.ireturn, 1) := by decide +kernel
theorem dX9_placeOf_39 : decode cX9_placeOf 39 = .ok (.iinc 3 1, 3) := by decide +kernel
theorem dX9_placeOf_42 : decode cX9_placeOf 42 = .ok (.goto (-32), 3) := by decide +kernel
theorem dX9_placeOf_45 : decode cX9_placeOf 45 = .ok (.iconst (-1), 1) := by decide +kernel
theorem dX9_placeOf_46 : decode cX9_placeOf 46 = .ok (.ireturn, 1) := by decide +kernel
theorem dX9_isFrozenThing_0 : decode cX9_isFrozenThing 0 = .ok (.aload_n 0, 1) := by decide +kernel
theorem dX9_isFrozenThing_1 : decode cX9_isFrozenThing 1 = .ok (.sipush 212, 3) := by decide +kernel
theorem dX9_isFrozenThing_4 : decode cX9_isFrozenThing 4 = .ok (.iload_n 1, 1) := by decide +kernel
theorem dX9_isFrozenThing_5 : decode cX9_isFrozenThing 5 = .ok (.iadd, 1) := by decide +kernel
theorem dX9_isFrozenThing_6 : decode cX9_isFrozenThing 6 = .ok (.iaload, 1) := by decide +kernel
theorem dX9_isFrozenThing_7 : decode cX9_isFrozenThing 7 = .ok (.iconst (-1), 1) := by decide +kernel
theorem dX9_isFrozenThing_8 : decode cX9_isFrozenThing 8 = .ok (.if_icmp .eq 28, 3) := by decide +kernel
theorem dX9_isFrozenThing_11 : decode cX9_isFrozenThing 11 = .ok (.aload_n 0, 1) := by decide +kernel
theorem dX9_isFrozenThing_12 : decode cX9_isFrozenThing 12 = .ok (.iload_n 1, 1) := by decide +kernel
theorem dX9_isFrozenThing_13 : decode cX9_isFrozenThing 13 = .ok (.invokestatic 133, 3) := by decide +kernel
theorem dX9_isFrozenThing_16 : decode cX9_isFrozenThing 16 = .ok (.aload_n 0, 1) := by decide +kernel
theorem dX9_isFrozenThing_17 : decode cX9_isFrozenThing 17 = .ok (.sipush 498, 3) := by decide +kernel
theorem dX9_isFrozenThing_20 : decode cX9_isFrozenThing 20 = .ok (.aload_n 0, 1) := by decide +kernel
theorem dX9_isFrozenThing_21 : decode cX9_isFrozenThing 21 = .ok (.sipush 212, 3) := by decide +kernel
theorem dX9_isFrozenThing_24 : decode cX9_isFrozenThing 24 = .ok (.iload_n 1, 1) := by decide +kernel
theorem dX9_isFrozenThing_25 : decode cX9_isFrozenThing 25 = .ok (.iadd, 1) := by decide +kernel
theorem dX9_isFrozenThing_26 : decode cX9_isFrozenThing 26 = .ok (.iaload, 1) := by decide +kernel
theorem dX9_isFrozenThing_27 : decode cX9_isFrozenThing 27 = .ok (.iadd, 1) := by decide +kernel
theorem dX9_isFrozenThing_28 : decode cX9_isFrozenThing 28 = .ok (.iaload, 1) := by decide +kernel
theorem dX9_isFrozenThing_29 : decode cX9_isFrozenThing 29 = .ok (.if_icmp .ge 7, 3) := by decide +kernel
theorem dX9_isFrozenThing_32 : decode cX9_isFrozenThing 32 = .ok (.iconst 1, 1) := by decide +kernel
theorem dX9_isFrozenThing_33 : decode cX9_isFrozenThing 33 = .ok (.goto 4, 3) := by decide +kernel
theorem dX9_isFrozenThing_36 : decode cX9_isFrozenThing 36 = .ok (.iconst 0, 1) := by decide +kernel
theorem dX9_isFrozenThing_37 : decode cX9_isFrozenThing 37 = .ok (.ireturn, 1) := by decide +kernel
theorem dX9_isFrozen_0 : decode cX9_isFrozen 0 = .ok (.iload_n 1, 1) := by decide +kernel
theorem dX9_isFrozen_1 : decode cX9_isFrozen 1 = .ok (.sipush 240, 3) := by decide +kernel
theorem dX9_isFrozen_4 : decode cX9_isFrozen 4 = .ok (.if_icmp .ge 18, 3) := by decide +kernel
theorem dX9_isFrozen_7 : decode cX9_isFrozen 7 = .ok (.aload_n 0, 1) := by decide +kernel
theorem dX9_isFrozen_8 : decode cX9_isFrozen 8 = .ok (.iload_n 1, 1) := by decide +kernel
theorem dX9_isFrozen_9 : decode cX9_isFrozen 9 = .ok (.invokestatic 130, 3) := by decide +kernel
theorem dX9_isFrozen_12 : decode cX9_isFrozen 12 = .ok (.invokestatic 137, 3) := by decide +kernel
theorem dX9_isFrozen_15 : decode cX9_isFrozen 15 = .ok (.ifCond .eq 7, 3) := by decide +kernel
theorem dX9_isFrozen_18 : decode cX9_isFrozen 18 = .ok (.iconst 1, 1) := by decide +kernel
theorem dX9_isFrozen_19 : decode cX9_isFrozen 19 = .ok (.goto 4, 3) := by decide +kernel
theorem dX9_isFrozen_22 : decode cX9_isFrozen 22 = .ok (.iconst 0, 1) := by decide +kernel
theorem dX9_isFrozen_23 : decode cX9_isFrozen 23 = .ok (.ireturn, 1) := by decide +kernel
theorem dX9_neighbour_0 : decode cX9_neighbour 0 = .ok (.aload_n 0, 1) := by decide +kernel
theorem dX9_neighbour_1 : decode cX9_neighbour 1 = .ok (.sipush 212, 3) := by decide +kernel
theorem dX9_neighbour_4 : decode cX9_neighbour 4 = .ok (.iload_n 1, 1) := by decide +kernel
theorem dX9_neighbour_5 : decode cX9_neighbour 5 = .ok (.iadd, 1) := by decide +kernel
theorem dX9_neighbour_6 : decode cX9_neighbour 6 = .ok (.iaload, 1) := by decide +kernel
theorem dX9_neighbour_7 : decode cX9_neighbour 7 = .ok (.istore_n 3, 1) := by decide +kernel
theorem dX9_neighbour_8 : decode cX9_neighbour 8 = .ok (.aload_n 0, 1) := by decide +kernel
theorem dX9_neighbour_9 : decode cX9_neighbour 9 = .ok (.iload_n 1, 1) := by decide +kernel
theorem dX9_neighbour_10 : decode cX9_neighbour 10 = .ok (.invokestatic 133, 3) := by decide +kernel
theorem dX9_neighbour_13 : decode cX9_neighbour 13 = .ok (.iload_n 2, 1) := by decide +kernel
theorem dX9_neighbour_14 : decode cX9_neighbour 14 = .ok (.iadd, 1) := by decide +kernel
theorem dX9_neighbour_15 : decode cX9_neighbour 15 = .ok (.istore 4, 2) := by decide +kernel
theorem dX9_neighbour_17 : decode cX9_neighbour 17 = .ok (.iload 4, 2) := by decide +kernel
theorem dX9_neighbour_19 : decode cX9_neighbour 19 = .ok (.ifCond .lt 31, 3) := by decide +kernel
theorem dX9_neighbour_22 : decode cX9_neighbour 22 = .ok (.iload 4, 2) := by decide +kernel
theorem dX9_neighbour_24 : decode cX9_neighbour 24 = .ok (.aload_n 0, 1) := by decide +kernel
theorem dX9_neighbour_25 : decode cX9_neighbour 25 = .ok (.sipush 492, 3) := by decide +kernel
theorem dX9_neighbour_28 : decode cX9_neighbour 28 = .ok (.iload_n 3, 1) := by decide +kernel
theorem dX9_neighbour_29 : decode cX9_neighbour 29 = .ok (.iadd, 1) := by decide +kernel
theorem dX9_neighbour_30 : decode cX9_neighbour 30 = .ok (.iaload, 1) := by decide +kernel
theorem dX9_neighbour_31 : decode cX9_neighbour 31 = .ok (.if_icmp .ge 19, 3) := by decide +kernel
theorem dX9_neighbour_34 : decode cX9_neighbour 34 = .ok (.aload_n 0, 1) := by decide +kernel
theorem dX9_neighbour_35 : decode cX9_neighbour 35 = .ok (.sipush 252, 3) := by decide +kernel
theorem dX9_neighbour_38 : decode cX9_neighbour 38 = .ok (.iload_n 3, 1) := by decide +kernel
theorem dX9_neighbour_39 : decode cX9_neighbour 39 = .ok (.bipush 40, 2) := by decide +kernel
theorem dX9_neighbour_41 : decode cX9_neighbour 41 = .ok (.imul, 1) := by decide +kernel
theorem dX9_neighbour_42 : decode cX9_neighbour 42 = .ok (.iadd, 1) := by decide +kernel
theorem dX9_neighbour_43 : decode cX9_neighbour 43 = .ok (.iload 4, 2) := by decide +kernel
theorem dX9_neighbour_45 : decode cX9_neighbour 45 = .ok (.iadd, 1) := by decide +kernel
theorem dX9_neighbour_46 : decode cX9_neighbour 46 = .ok (.iaload, 1) := by decide +kernel
theorem dX9_neighbour_47 : decode cX9_neighbour 47 = .ok (.goto 4, 3) := by decide +kernel
theorem dX9_neighbour_50 : decode cX9_neighbour 50 = .ok (.iconst (-1), 1) := by decide +kernel
theorem dX9_neighbour_51 : decode cX9_neighbour 51 = .ok (.ireturn, 1) := by decide +kernel
theorem dX9_look_0 : decode cX9_look 0 = .ok (.aload_n 0, 1) := by decide +kernel
theorem dX9_look_1 : decode cX9_look 1 = .ok (.getfield 73, 3) := by decide +kernel
theorem dX9_look_4 : decode cX9_look 4 = .ok (.aload_n 0, 1) := by decide +kernel
theorem dX9_look_5 : decode cX9_look 5 = .ok (.getfield 141, 3) := by decide +kernel
theorem dX9_look_8 : decode cX9_look 8 = .ok (.iload_n 1, 1) := by decide +kernel
theorem dX9_look_9 : decode cX9_look 9 = .ok (.iastore, 1) := by decide +kernel
theorem dX9_look_10 : decode cX9_look 10 = .ok (.aload_n 0, 1) := by decide +kernel
theorem dX9_look_11 : decode cX9_look 11 = .ok (.dup, 1) := by decide +kernel
theorem dX9_look_12 : decode cX9_look 12 = .ok (.getfield 141, 3) := by decide +kernel
theorem dX9_look_15 : decode cX9_look 15 = .ok (.iconst 1, 1) := by decide +kernel
theorem dX9_look_16 : decode cX9_look 16 = .ok (.iadd, 1) := by decide +kernel
theorem dX9_look_17 : decode cX9_look 17 = .ok (.putfield 141, 3) := by decide +kernel
theorem dX9_look_20 : decode cX9_look 20 = .ok (.return_, 1) := by decide +kernel
theorem dX9_lookThing_0 : decode cX9_lookThing 0 = .ok (.aload_n 0, 1) := by decide +kernel
theorem dX9_lookThing_1 : decode cX9_lookThing 1 = .ok (.iload_n 1, 1) := by decide +kernel
theorem dX9_lookThing_2 : decode cX9_lookThing 2 = .ok (.iconst (-1), 1) := by decide +kernel
theorem dX9_lookThing_3 : decode cX9_lookThing 3 = .ok (.if_icmp .ne 7, 3) := by decide +kernel
theorem dX9_lookThing_6 : decode cX9_lookThing 6 = .ok (.iconst 0, 1) := by decide +kernel
theorem dX9_lookThing_7 : decode cX9_lookThing 7 = .ok (.goto 13, 3) := by decide +kernel
theorem dX9_lookThing_10 : decode cX9_lookThing 10 = .ok (.sipush 5000, 3) := by decide +kernel
theorem dX9_lookThing_13 : decode cX9_lookThing 13 = .ok (.bipush 6, 2) := by decide +kernel
theorem dX9_lookThing_15 : decode cX9_lookThing 15 = .ok (.iload_n 1, 1) := by decide +kernel
theorem dX9_lookThing_16 : decode cX9_lookThing 16 = .ok (.imul, 1) := by decide +kernel
theorem dX9_lookThing_17 : decode cX9_lookThing 17 = .ok (.iadd, 1) := by decide +kernel
theorem dX9_lookThing_18 : decode cX9_lookThing 18 = .ok (.iload_n 2, 1) := by decide +kernel
theorem dX9_lookThing_19 : decode cX9_lookThing 19 = .ok (.iadd, 1) := by decide +kernel
theorem dX9_lookThing_20 : decode cX9_lookThing 20 = .ok (.invokevirtual 144, 3) := by decide +kernel
theorem dX9_lookThing_23 : decode cX9_lookThing 23 = .ok (.return_, 1) := by decide +kernel
theorem dX9_lookAt_0 : decode cX9_lookAt 0 = .ok (.aload_n 0, 1) := by decide +kernel
theorem dX9_lookAt_1 : decode cX9_lookAt 1 = .ok (.iconst 0, 1) := by decide +kernel
theorem dX9_lookAt_2 : decode cX9_lookAt 2 = .ok (.putfield 141, 3) := by decide +kernel
theorem dX9_lookAt_5 : decode cX9_lookAt 5 = .ok (.aload_n 1, 1) := by decide +kernel
theorem dX9_lookAt_6 : decode cX9_lookAt 6 = .ok (.iload_n 2, 1) := by decide +kernel
theorem dX9_lookAt_7 : decode cX9_lookAt 7 = .ok (.invokestatic 148, 3) := by decide +kernel
theorem dX9_lookAt_10 : decode cX9_lookAt 10 = .ok (.ifCond .eq 4, 3) := by decide +kernel
theorem dX9_lookAt_13 : decode cX9_lookAt 13 = .ok (.return_, 1) := by decide +kernel
theorem dX9_lookAt_14 : decode cX9_lookAt 14 = .ok (.iload_n 2, 1) := by decide +kernel
theorem dX9_lookAt_15 : decode cX9_lookAt 15 = .ok (.invokestatic 127, 3) := by decide +kernel
theorem dX9_lookAt_18 : decode cX9_lookAt 18 = .ok (.istore_n 3, 1) := by decide +kernel
theorem dX9_lookAt_19 : decode cX9_lookAt 19 = .ok (.iload_n 2, 1) := by decide +kernel
theorem dX9_lookAt_20 : decode cX9_lookAt 20 = .ok (.invokestatic 130, 3) := by decide +kernel
theorem dX9_lookAt_23 : decode cX9_lookAt 23 = .ok (.istore 4, 2) := by decide +kernel
theorem dX9_lookAt_25 : decode cX9_lookAt 25 = .ok (.iload_n 2, 1) := by decide +kernel
theorem dX9_lookAt_26 : decode cX9_lookAt 26 = .ok (.sipush 240, 3) := by decide +kernel
theorem dX9_lookAt_29 : decode cX9_lookAt 29 = .ok (.if_icmp .ge 14, 3) := by decide +kernel
theorem dX9_lookAt_32 : decode cX9_lookAt 32 = .ok (.aload_n 1, 1) := by decide +kernel
theorem dX9_lookAt_33 : decode cX9_lookAt 33 = .ok (.sipush 212, 3) := by decide +kernel
theorem dX9_lookAt_36 : decode cX9_lookAt 36 = .ok (.iload 4, 2) := by decide +kernel
theorem dX9_lookAt_38 : decode cX9_lookAt 38 = .ok (.iadd, 1) := by decide +kernel
theorem dX9_lookAt_39 : decode cX9_lookAt 39 = .ok (.iaload, 1) := by decide +kernel
theorem dX9_lookAt_40 : decode cX9_lookAt 40 = .ok (.goto 5, 3) := by decide +kernel
theorem dX9_lookAt_43 : decode cX9_lookAt 43 = .ok (.iload 4, 2) := by decide +kernel
theorem dX9_lookAt_45 : decode cX9_lookAt 45 = .ok (.istore 5, 2) := by decide +kernel
theorem dX9_lookAt_47 : decode cX9_lookAt 47 = .ok (.iconst 0, 1) := by decide +kernel
theorem dX9_lookAt_48 : decode cX9_lookAt 48 = .ok (.istore 6, 2) := by decide +kernel
theorem dX9_lookAt_50 : decode cX9_lookAt 50 = .ok (.iload 6, 2) := by decide +kernel
theorem dX9_lookAt_52 : decode cX9_lookAt 52 = .ok (.aload_n 0, 1) := by decide +kernel
theorem dX9_lookAt_53 : decode cX9_lookAt 53 = .ok (.getfield 24, 3) := by decide +kernel
theorem dX9_lookAt_56 : decode cX9_lookAt 56 = .ok (.iload_n 3, 1) := by decide +kernel
theorem dX9_lookAt_57 : decode cX9_lookAt 57 = .ok (.iaload, 1) := by decide +kernel
theorem dX9_lookAt_58 : decode cX9_lookAt 58 = .ok (.if_icmp .ge 421, 3) := by decide +kernel
theorem dX9_lookAt_61 : decode cX9_lookAt 61 = .ok (.aload_n 0, 1) := by decide +kernel
theorem dX9_lookAt_62 : decode cX9_lookAt 62 = .ok (.getfield 30, 3) := by decide +kernel
theorem dX9_lookAt_65 : decode cX9_lookAt 65 = .ok (.iload_n 3, 1) := by decide +kernel
theorem dX9_lookAt_66 : decode cX9_lookAt 66 = .ok (.bipush 24, 2) := by decide +kernel
theorem dX9_lookAt_68 : decode cX9_lookAt 68 = .ok (.imul, 1) := by decide +kernel
theorem dX9_lookAt_69 : decode cX9_lookAt 69 = .ok (.iload 6, 2) := by decide +kernel
theorem dX9_lookAt_71 : decode cX9_lookAt 71 = .ok (.iadd, 1) := by decide +kernel
theorem dX9_lookAt_72 : decode cX9_lookAt 72 = .ok (.iaload, 1) := by decide +kernel
theorem dX9_lookAt_73 : decode cX9_lookAt 73 = .ok (.istore 7, 2) := by decide +kernel
theorem dX9_lookAt_75 : decode cX9_lookAt 75 = .ok (.aload_n 0, 1) := by decide +kernel
theorem dX9_lookAt_76 : decode cX9_lookAt 76 = .ok (.getfield 27, 3) := by decide +kernel
theorem dX9_lookAt_79 : decode cX9_lookAt 79 = .ok (.iload_n 3, 1) := by decide +kernel
theorem dX9_lookAt_80 : decode cX9_lookAt 80 = .ok (.bipush 24, 2) := by decide +kernel
theorem dX9_lookAt_82 : decode cX9_lookAt 82 = .ok (.imul, 1) := by decide +kernel
theorem dX9_lookAt_83 : decode cX9_lookAt 83 = .ok (.iload 6, 2) := by decide +kernel
theorem dX9_lookAt_85 : decode cX9_lookAt 85 = .ok (.iadd, 1) := by decide +kernel
theorem dX9_lookAt_86 : decode cX9_lookAt 86 = .ok (.iaload, 1) := by decide +kernel
theorem dX9_lookAt_87 : decode cX9_lookAt 87 = .ok (.tableswitch 386 1 13 #[65, 104, 122, 149, 192, 208, 224, 239, 260, 260, 260, 305, 340], 65) := by decide +kernel
theorem dX9_lookAt_152 : decode cX9_lookAt 152 = .ok (.aload_n 0, 1) := by decide +kernel
theorem dX9_lookAt_153 : decode cX9_lookAt 153 = .ok (.iload_n 2, 1) := by decide +kernel
theorem dX9_lookAt_154 : decode cX9_lookAt 154 = .ok (.sipush 240, 3) := by decide +kernel
theorem dX9_lookAt_157 : decode cX9_lookAt 157 = .ok (.if_icmp .ge 17, 3) := by decide +kernel
theorem dX9_lookAt_160 : decode cX9_lookAt 160 = .ok (.sipush 1000, 3) := by decide +kernel
theorem dX9_lookAt_163 : decode cX9_lookAt 163 = .ok (.iconst 4, 1) := by decide +kernel
theorem dX9_lookAt_164 : decode cX9_lookAt 164 = .ok (.iload 4, 2) := by decide +kernel
theorem dX9_lookAt_166 : decode cX9_lookAt 166 = .ok (.imul, 1) := by decide +kernel
theorem dX9_lookAt_167 : decode cX9_lookAt 167 = .ok (.iadd, 1) := by decide +kernel
theorem dX9_lookAt_168 : decode cX9_lookAt 168 = .ok (.iload 7, 2) := by decide +kernel
theorem dX9_lookAt_170 : decode cX9_lookAt 170 = .ok (.iadd, 1) := by decide +kernel
theorem dX9_lookAt_171 : decode cX9_lookAt 171 = .ok (.goto 14, 3) := by decide +kernel
theorem dX9_lookAt_174 : decode cX9_lookAt 174 = .ok (.sipush 2000, 3) := by decide +kernel
theorem dX9_lookAt_177 : decode cX9_lookAt 177 = .ok (.iconst 2, 1) := by decide +kernel
theorem dX9_lookAt_178 : decode cX9_lookAt 178 = .ok (.iload 4, 2) := by decide +kernel
theorem dX9_lookAt_180 : decode cX9_lookAt 180 = .ok (.imul, 1) := by decide +kernel
theorem dX9_lookAt_181 : decode cX9_lookAt 181 = .ok (.iadd, 1) := by decide +kernel
theorem dX9_lookAt_182 : decode cX9_lookAt 182 = .ok (.iload 7, 2) := by decide +kernel
theorem dX9_lookAt_184 : decode cX9_lookAt 184 = .ok (.iadd, 1) := by decide +kernel
theorem dX9_lookAt_185 : decode cX9_lookAt 185 = .ok (.invokevirtual 144, 3) := by decide +kernel
theorem dX9_lookAt_188 : decode cX9_lookAt 188 = .ok (.goto 285, 3) := by decide +kernel
theorem dX9_lookAt_191 : decode cX9_lookAt 191 = .ok (.aload_n 0, 1) := by decide +kernel
theorem dX9_lookAt_192 : decode cX9_lookAt 192 = .ok (.sipush 2000, 3) := by decide +kernel
theorem dX9_lookAt_195 : decode cX9_lookAt 195 = .ok (.iconst 2, 1) := by decide +kernel
theorem dX9_lookAt_196 : decode cX9_lookAt 196 = .ok (.iload 5, 2) := by decide +kernel
theorem dX9_lookAt_198 : decode cX9_lookAt 198 = .ok (.imul, 1) := by decide +kernel
theorem dX9_lookAt_199 : decode cX9_lookAt 199 = .ok (.iadd, 1) := by decide +kernel
theorem dX9_lookAt_200 : decode cX9_lookAt 200 = .ok (.iload 7, 2) := by decide +kernel
theorem dX9_lookAt_202 : decode cX9_lookAt 202 = .ok (.iadd, 1) := by decide +kernel
theorem dX9_lookAt_203 : decode cX9_lookAt 203 = .ok (.invokevirtual 144, 3) := by decide +kernel
theorem dX9_lookAt_206 : decode cX9_lookAt 206 = .ok (.goto 267, 3) := by decide +kernel
theorem dX9_lookAt_209 : decode cX9_lookAt 209 = .ok (.aload_n 0, 1) := by decide +kernel
theorem dX9_lookAt_210 : decode cX9_lookAt 210 = .ok (.iload 7, 2) := by decide +kernel
theorem dX9_lookAt_212 : decode cX9_lookAt 212 = .ok (.ifCond .ne 12, 3) := by decide +kernel
theorem dX9_lookAt_215 : decode cX9_lookAt 215 = .ok (.sipush 3000, 3) := by decide +kernel
theorem dX9_lookAt_218 : decode cX9_lookAt 218 = .ok (.iload 5, 2) := by decide +kernel
theorem dX9_lookAt_220 : decode cX9_lookAt 220 = .ok (.iadd, 1) := by decide +kernel
theorem dX9_lookAt_221 : decode cX9_lookAt 221 = .ok (.goto 9, 3) := by decide +kernel
theorem dX9_lookAt_224 : decode cX9_lookAt 224 = .ok (.sipush 4000, 3) := by decide +kernel
theorem dX9_lookAt_227 : decode cX9_lookAt 227 = .ok (.iload 5, 2) := by decide +kernel
theorem dX9_lookAt_229 : decode cX9_lookAt 229 = .ok (.iadd, 1) := by decide +kernel
theorem dX9_lookAt_230 : decode cX9_lookAt 230 = .ok (.invokevirtual 144, 3) := by decide +kernel
theorem dX9_lookAt_233 : decode cX9_lookAt 233 = .ok (.goto 240, 3) := by decide +kernel
theorem dX9_lookAt_236 : decode cX9_lookAt 236 = .ok (.aload_n 0, 1) := by decide +kernel
theorem dX9_lookAt_237 : decode cX9_lookAt 237 = .ok (.sipush 5000, 3) := by decide +kernel
theorem dX9_lookAt_240 : decode cX9_lookAt 240 = .ok (.iload_n 2, 1) := by decide +kernel
theorem dX9_lookAt_241 : decode cX9_lookAt 241 = .ok (.sipush 240, 3) := by decide +kernel
theorem dX9_lookAt_244 : decode cX9_lookAt 244 = .ok (.if_icmp .ge 14, 3) := by decide +kernel
theorem dX9_lookAt_247 : decode cX9_lookAt 247 = .ok (.bipush 6, 2) := by decide +kernel
theorem dX9_lookAt_249 : decode cX9_lookAt 249 = .ok (.iload 4, 2) := by decide +kernel
theorem dX9_lookAt_251 : decode cX9_lookAt 251 = .ok (.imul, 1) := by decide +kernel
theorem dX9_lookAt_252 : decode cX9_lookAt 252 = .ok (.iload 7, 2) := by decide +kernel
theorem dX9_lookAt_254 : decode cX9_lookAt 254 = .ok (.iadd, 1) := by decide +kernel
theorem dX9_lookAt_255 : decode cX9_lookAt 255 = .ok (.goto 17, 3) := by decide +kernel
theorem dX9_lookAt_258 : decode cX9_lookAt 258 = .ok (.sipush 240, 3) := by decide +kernel
theorem dX9_lookAt_261 : decode cX9_lookAt 261 = .ok (.iconst 3, 1) := by decide +kernel
theorem dX9_lookAt_262 : decode cX9_lookAt 262 = .ok (.iload 4, 2) := by decide +kernel
theorem dX9_lookAt_264 : decode cX9_lookAt 264 = .ok (.imul, 1) := by decide +kernel
theorem dX9_lookAt_265 : decode cX9_lookAt 265 = .ok (.iadd, 1) := by decide +kernel
theorem dX9_lookAt_266 : decode cX9_lookAt 266 = .ok (.iload 7, 2) := by decide +kernel
theorem dX9_lookAt_268 : decode cX9_lookAt 268 = .ok (.iadd, 1) := by decide +kernel
theorem dX9_lookAt_269 : decode cX9_lookAt 269 = .ok (.bipush 6, 2) := by decide +kernel
theorem dX9_lookAt_271 : decode cX9_lookAt 271 = .ok (.isub, 1) := by decide +kernel
theorem dX9_lookAt_272 : decode cX9_lookAt 272 = .ok (.iadd, 1) := by decide +kernel
theorem dX9_lookAt_273 : decode cX9_lookAt 273 = .ok (.invokevirtual 144, 3) := by decide +kernel
theorem dX9_lookAt_276 : decode cX9_lookAt 276 = .ok (.goto 197, 3) := by decide +kernel
theorem dX9_lookAt_279 : decode cX9_lookAt 279 = .ok (.aload_n 0, 1) := by decide +kernel
theorem dX9_lookAt_280 : decode cX9_lookAt 280 = .ok (.aload_n 1, 1) := by decide +kernel
theorem dX9_lookAt_281 : decode cX9_lookAt 281 = .ok (.iload 4, 2) := by decide +kernel
theorem dX9_lookAt_283 : decode cX9_lookAt 283 = .ok (.iconst (-1), 1) := by decide +kernel
theorem dX9_lookAt_284 : decode cX9_lookAt 284 = .ok (.invokestatic 151, 3) := by decide +kernel
theorem dX9_lookAt_287 : decode cX9_lookAt 287 = .ok (.iload 7, 2) := by decide +kernel
theorem dX9_lookAt_289 : decode cX9_lookAt 289 = .ok (.invokevirtual 155, 3) := by decide +kernel
theorem dX9_lookAt_292 : decode cX9_lookAt 292 = .ok (.goto 181, 3) := by decide +kernel
theorem dX9_lookAt_295 : decode cX9_lookAt 295 = .ok (.aload_n 0, 1) := by decide +kernel
theorem dX9_lookAt_296 : decode cX9_lookAt 296 = .ok (.aload_n 1, 1) := by decide +kernel
theorem dX9_lookAt_297 : decode cX9_lookAt 297 = .ok (.iload 4, 2) := by decide +kernel
theorem dX9_lookAt_299 : decode cX9_lookAt 299 = .ok (.iconst 1, 1) := by decide +kernel
theorem dX9_lookAt_300 : decode cX9_lookAt 300 = .ok (.invokestatic 151, 3) := by decide +kernel
theorem dX9_lookAt_303 : decode cX9_lookAt 303 = .ok (.iload 7, 2) := by decide +kernel
theorem dX9_lookAt_305 : decode cX9_lookAt 305 = .ok (.invokevirtual 155, 3) := by decide +kernel
theorem dX9_lookAt_308 : decode cX9_lookAt 308 = .ok (.goto 165, 3) := by decide +kernel
theorem dX9_lookAt_311 : decode cX9_lookAt 311 = .ok (.aload_n 0, 1) := by decide +kernel
theorem dX9_lookAt_312 : decode cX9_lookAt 312 = .ok (.aload_n 1, 1) := by decide +kernel
theorem dX9_lookAt_313 : decode cX9_lookAt 313 = .ok (.iload 4, 2) := by decide +kernel
theorem dX9_lookAt_315 : decode cX9_lookAt 315 = .ok (.invokestatic 159, 3) := by decide +kernel
theorem dX9_lookAt_318 : decode cX9_lookAt 318 = .ok (.iload 7, 2) := by decide +kernel
theorem dX9_lookAt_320 : decode cX9_lookAt 320 = .ok (.invokevirtual 155, 3) := by decide +kernel
theorem dX9_lookAt_323 : decode cX9_lookAt 323 = .ok (.goto 150, 3) := by decide +kernel
theorem dX9_lookAt_326 : decode cX9_lookAt 326 = .ok (.aload_n 0, 1) := by decide +kernel
theorem dX9_lookAt_327 : decode cX9_lookAt 327 = .ok (.sipush 5240, 3) := by decide +kernel
theorem dX9_lookAt_330 : decode cX9_lookAt 330 = .ok (.iconst 3, 1) := by decide +kernel
theorem dX9_lookAt_331 : decode cX9_lookAt 331 = .ok (.iload 5, 2) := by decide +kernel
theorem dX9_lookAt_333 : decode cX9_lookAt 333 = .ok (.imul, 1) := by decide +kernel
theorem dX9_lookAt_334 : decode cX9_lookAt 334 = .ok (.iadd, 1) := by decide +kernel
theorem dX9_lookAt_335 : decode cX9_lookAt 335 = .ok (.iload 7, 2) := by decide +kernel
theorem dX9_lookAt_337 : decode cX9_lookAt 337 = .ok (.iadd, 1) := by decide +kernel
theorem dX9_lookAt_338 : decode cX9_lookAt 338 = .ok (.bipush 6, 2) := by decide +kernel
theorem dX9_lookAt_340 : decode cX9_lookAt 340 = .ok (.isub, 1) := by decide +kernel
theorem dX9_lookAt_341 : decode cX9_lookAt 341 = .ok (.invokevirtual 144, 3) := by decide +kernel
theorem dX9_lookAt_344 : decode cX9_lookAt 344 = .ok (.goto 129, 3) := by decide +kernel
theorem dX9_lookAt_347 : decode cX9_lookAt 347 = .ok (.iconst 0, 1) := by decide +kernel
theorem dX9_lookAt_348 : decode cX9_lookAt 348 = .ok (.istore 8, 2) := by decide +kernel
theorem dX9_lookAt_350 : decode cX9_lookAt 350 = .ok (.iload 8, 2) := by decide +kernel
theorem dX9_lookAt_352 : decode cX9_lookAt 352 = .ok (.aload_n 1, 1) := by decide +kernel
theorem dX9_lookAt_353 : decode cX9_lookAt 353 = .ok (.sipush 492, 3) := by decide +kernel
theorem dX9_lookAt_356 : decode cX9_lookAt 356 = .ok (.iload 5, 2) := by decide +kernel
theorem dX9_lookAt_358 : decode cX9_lookAt 358 = .ok (.iadd, 1) := by decide +kernel
theorem dX9_lookAt_359 : decode cX9_lookAt 359 = .ok (.iaload, 1) := by decide +kernel
theorem dX9_lookAt_360 : decode cX9_lookAt 360 = .ok (.if_icmp .ge 29, 3) := by decide +kernel
theorem dX9_lookAt_363 : decode cX9_lookAt 363 = .ok (.aload_n 0, 1) := by decide +kernel
theorem dX9_lookAt_364 : decode cX9_lookAt 364 = .ok (.aload_n 1, 1) := by decide +kernel
theorem dX9_lookAt_365 : decode cX9_lookAt 365 = .ok (.sipush 252, 3) := by decide +kernel
theorem dX9_lookAt_368 : decode cX9_lookAt 368 = .ok (.iload 5, 2) := by decide +kernel
theorem dX9_lookAt_370 : decode cX9_lookAt 370 = .ok (.bipush 40, 2) := by decide +kernel
theorem dX9_lookAt_372 : decode cX9_lookAt 372 = .ok (.imul, 1) := by decide +kernel
theorem dX9_lookAt_373 : decode cX9_lookAt 373 = .ok (.iadd, 1) := by decide +kernel
theorem dX9_lookAt_374 : decode cX9_lookAt 374 = .ok (.iload 8, 2) := by decide +kernel
theorem dX9_lookAt_376 : decode cX9_lookAt 376 = .ok (.iadd, 1) := by decide +kernel
theorem dX9_lookAt_377 : decode cX9_lookAt 377 = .ok (.iaload, 1) := by decide +kernel
theorem dX9_lookAt_378 : decode cX9_lookAt 378 = .ok (.iload 7, 2) := by decide +kernel
theorem dX9_lookAt_380 : decode cX9_lookAt 380 = .ok (.invokevirtual 155, 3) := by decide +kernel
theorem dX9_lookAt_383 : decode cX9_lookAt 383 = .ok (.iinc 8 1, 3) := by decide +kernel
theorem dX9_lookAt_386 : decode cX9_lookAt 386 = .ok (.goto (-36), 3) := by decide +kernel
theorem dX9_lookAt_389 : decode cX9_lookAt 389 = .ok (.goto 84, 3) := by decide +kernel
theorem dX9_lookAt_392 : decode cX9_lookAt 392 = .ok (.aload_n 0, 1) := by decide +kernel
theorem dX9_lookAt_393 : decode cX9_lookAt 393 = .ok (.aload_n 1, 1) := by decide +kernel
theorem dX9_lookAt_394 : decode cX9_lookAt 394 = .ok (.sipush 492, 3) := by decide +kernel
theorem dX9_lookAt_397 : decode cX9_lookAt 397 = .ok (.iload 5, 2) := by decide +kernel
theorem dX9_lookAt_399 : decode cX9_lookAt 399 = .ok (.iadd, 1) := by decide +kernel
theorem dX9_lookAt_400 : decode cX9_lookAt 400 = .ok (.iaload, 1) := by decide +kernel
theorem dX9_lookAt_401 : decode cX9_lookAt 401 = .ok (.ifCond .ne 7, 3) := by decide +kernel
theorem dX9_lookAt_404 : decode cX9_lookAt 404 = .ok (.iconst (-1), 1) := by decide +kernel
theorem dX9_lookAt_405 : decode cX9_lookAt 405 = .ok (.goto 14, 3) := by decide +kernel
theorem dX9_lookAt_408 : decode cX9_lookAt 408 = .ok (.aload_n 1, 1) := by decide +kernel
theorem dX9_lookAt_409 : decode cX9_lookAt 409 = .ok (.sipush 252, 3) := by decide +kernel
theorem dX9_lookAt_412 : decode cX9_lookAt 412 = .ok (.iload 5, 2) := by decide +kernel
theorem dX9_lookAt_414 : decode cX9_lookAt 414 = .ok (.bipush 40, 2) := by decide +kernel
theorem dX9_lookAt_416 : decode cX9_lookAt 416 = .ok (.imul, 1) := by decide +kernel
theorem dX9_lookAt_417 : decode cX9_lookAt 417 = .ok (.iadd, 1) := by decide +kernel
theorem dX9_lookAt_418 : decode cX9_lookAt 418 = .ok (.iaload, 1) := by decide +kernel
theorem dX9_lookAt_419 : decode cX9_lookAt 419 = .ok (.iload 7, 2) := by decide +kernel
theorem dX9_lookAt_421 : decode cX9_lookAt 421 = .ok (.invokevirtual 155, 3) := by decide +kernel
theorem dX9_lookAt_424 : decode cX9_lookAt 424 = .ok (.goto 49, 3) := by decide +kernel
theorem dX9_lookAt_427 : decode cX9_lookAt 427 = .ok (.aload_n 0, 1) := by decide +kernel
theorem dX9_lookAt_428 : decode cX9_lookAt 428 = .ok (.aload_n 1, 1) := by decide +kernel
theorem dX9_lookAt_429 : decode cX9_lookAt 429 = .ok (.sipush 492, 3) := by decide +kernel
theorem dX9_lookAt_432 : decode cX9_lookAt 432 = .ok (.iload 5, 2) := by decide +kernel
theorem dX9_lookAt_434 : decode cX9_lookAt 434 = .ok (.iadd, 1) := by decide +kernel
theorem dX9_lookAt_435 : decode cX9_lookAt 435 = .ok (.iaload, 1) := by decide +kernel
theorem dX9_lookAt_436 : decode cX9_lookAt 436 = .ok (.ifCond .ne 7, 3) := by decide +kernel
theorem dX9_lookAt_439 : decode cX9_lookAt 439 = .ok (.iconst (-1), 1) := by decide +kernel
theorem dX9_lookAt_440 : decode cX9_lookAt 440 = .ok (.goto 25, 3) := by decide +kernel
theorem dX9_lookAt_443 : decode cX9_lookAt 443 = .ok (.aload_n 1, 1) := by decide +kernel
theorem dX9_lookAt_444 : decode cX9_lookAt 444 = .ok (.sipush 252, 3) := by decide +kernel
theorem dX9_lookAt_447 : decode cX9_lookAt 447 = .ok (.iload 5, 2) := by decide +kernel
theorem dX9_lookAt_449 : decode cX9_lookAt 449 = .ok (.bipush 40, 2) := by decide +kernel
theorem dX9_lookAt_451 : decode cX9_lookAt 451 = .ok (.imul, 1) := by decide +kernel
theorem dX9_lookAt_452 : decode cX9_lookAt 452 = .ok (.iadd, 1) := by decide +kernel
theorem dX9_lookAt_453 : decode cX9_lookAt 453 = .ok (.aload_n 1, 1) := by decide +kernel
theorem dX9_lookAt_454 : decode cX9_lookAt 454 = .ok (.sipush 492, 3) := by decide +kernel
theorem dX9_lookAt_457 : decode cX9_lookAt 457 = .ok (.iload 5, 2) := by decide +kernel
theorem dX9_lookAt_459 : decode cX9_lookAt 459 = .ok (.iadd, 1) := by decide +kernel
theorem dX9_lookAt_460 : decode cX9_lookAt 460 = .ok (.iaload, 1) := by decide +kernel
theorem dX9_lookAt_461 : decode cX9_lookAt 461 = .ok (.iadd, 1) := by decide +kernel
theorem dX9_lookAt_462 : decode cX9_lookAt 462 = .ok (.iconst 1, 1) := by decide +kernel
theorem dX9_lookAt_463 : decode cX9_lookAt 463 = .ok (.isub, 1) := by decide +kernel
theorem dX9_lookAt_464 : decode cX9_lookAt 464 = .ok (.iaload, 1) := by decide +kernel
theorem dX9_lookAt_465 : decode cX9_lookAt 465 = .ok (.iload 7, 2) := by decide +kernel
theorem dX9_lookAt_467 : decode cX9_lookAt 467 = .ok (.invokevirtual 155, 3) := by decide +kernel
theorem dX9_lookAt_470 : decode cX9_lookAt 470 = .ok (.goto 3, 3) := by decide +kernel
theorem dX9_lookAt_473 : decode cX9_lookAt 473 = .ok (.iinc 6 1, 3) := by decide +kernel
theorem dX9_lookAt_476 : decode cX9_lookAt 476 = .ok (.goto (-426), 3) := by decide +kernel
theorem dX9_lookAt_479 : decode cX9_lookAt 479 = .ok (.return_, 1) := by decide +kernel
theorem dX9_linkOf_0 : decode cX9_linkOf 0 = .ok (.aload_n 0, 1) := by decide +kernel
theorem dX9_linkOf_1 : decode cX9_linkOf 1 = .ok (.sipush 172, 3) := by decide +kernel
theorem dX9_linkOf_4 : decode cX9_linkOf 4 = .ok (.iload_n 1, 1) := by decide +kernel
theorem dX9_linkOf_5 : decode cX9_linkOf 5 = .ok (.iadd, 1) := by decide +kernel
theorem dX9_linkOf_6 : decode cX9_linkOf 6 = .ok (.iaload, 1) := by decide +kernel
theorem dX9_linkOf_7 : decode cX9_linkOf 7 = .ok (.istore_n 2, 1) := by decide +kernel
theorem dX9_linkOf_8 : decode cX9_linkOf 8 = .ok (.iload_n 2, 1) := by decide +kernel
theorem dX9_linkOf_9 : decode cX9_linkOf 9 = .ok (.iconst (-1), 1) := by decide +kernel
theorem dX9_linkOf_10 : decode cX9_linkOf 10 = .ok (.if_icmp .eq 18, 3) := by decide +kernel
theorem dX9_linkOf_13 : decode cX9_linkOf 13 = .ok (.aload_n 0, 1) := by decide +kernel
theorem dX9_linkOf_14 : decode cX9_linkOf 14 = .ok (.sipush 212, 3) := by decide +kernel
theorem dX9_linkOf_17 : decode cX9_linkOf 17 = .ok (.iload_n 2, 1) := by decide +kernel
theorem dX9_linkOf_18 : decode cX9_linkOf 18 = .ok (.iadd, 1) := by decide +kernel
theorem dX9_linkOf_19 : decode cX9_linkOf 19 = .ok (.iaload, 1) := by decide +kernel
theorem dX9_linkOf_20 : decode cX9_linkOf 20 = .ok (.iconst (-1), 1) := by decide +kernel
theorem dX9_linkOf_21 : decode cX9_linkOf 21 = .ok (.if_icmp .eq 7, 3) := by decide +kernel
theorem dX9_linkOf_24 : decode cX9_linkOf 24 = .ok (.iload_n 2, 1) := by decide +kernel
theorem dX9_linkOf_25 : decode cX9_linkOf 25 = .ok (.goto 4, 3) := by decide +kernel
theorem dX9_linkOf_28 : decode cX9_linkOf 28 = .ok (.iconst (-1), 1) := by decide +kernel
theorem dX9_linkOf_29 : decode cX9_linkOf 29 = .ok (.ireturn, 1) := by decide +kernel
theorem dX9_readsCell_0 : decode cX9_readsCell 0 = .ok (.iload_n 2, 1) := by decide +kernel
theorem dX9_readsCell_1 : decode cX9_readsCell 1 = .ok (.sipush 5000, 3) := by decide +kernel
theorem dX9_readsCell_4 : decode cX9_readsCell 4 = .ok (.if_icmp .lt 20, 3) := by decide +kernel
theorem dX9_readsCell_7 : decode cX9_readsCell 7 = .ok (.aload_n 0, 1) := by decide +kernel
theorem dX9_readsCell_8 : decode cX9_readsCell 8 = .ok (.aload_n 1, 1) := by decide +kernel
theorem dX9_readsCell_9 : decode cX9_readsCell 9 = .ok (.iload_n 2, 1) := by decide +kernel
theorem dX9_readsCell_10 : decode cX9_readsCell 10 = .ok (.sipush 5000, 3) := by decide +kernel
theorem dX9_readsCell_13 : decode cX9_readsCell 13 = .ok (.isub, 1) := by decide +kernel
theorem dX9_readsCell_14 : decode cX9_readsCell 14 = .ok (.invokevirtual 162, 3) := by decide +kernel
theorem dX9_readsCell_17 : decode cX9_readsCell 17 = .ok (.ifCond .eq 7, 3) := by decide +kernel
theorem dX9_readsCell_20 : decode cX9_readsCell 20 = .ok (.iconst 1, 1) := by decide +kernel
theorem dX9_readsCell_21 : decode cX9_readsCell 21 = .ok (.goto 4, 3) := by decide +kernel
theorem dX9_readsCell_24 : decode cX9_readsCell 24 = .ok (.iconst 0, 1) := by decide +kernel
theorem dX9_readsCell_25 : decode cX9_readsCell 25 = .ok (.ireturn, 1) := by decide +kernel
theorem dX9_valueOf_0 : decode cX9_valueOf 0 = .ok (.iload_n 3, 1) := by decide +kernel
theorem dX9_valueOf_1 : decode cX9_valueOf 1 = .ok (.sipush 5000, 3) := by decide +kernel
theorem dX9_valueOf_4 : decode cX9_valueOf 4 = .ok (.if_icmp .lt 28, 3) := by decide +kernel
theorem dX9_valueOf_7 : decode cX9_valueOf 7 = .ok (.aload_n 0, 1) := by decide +kernel
theorem dX9_valueOf_8 : decode cX9_valueOf 8 = .ok (.aload_n 1, 1) := by decide +kernel
theorem dX9_valueOf_9 : decode cX9_valueOf 9 = .ok (.iload_n 3, 1) := by decide +kernel
theorem dX9_valueOf_10 : decode cX9_valueOf 10 = .ok (.sipush 5000, 3) := by decide +kernel
theorem dX9_valueOf_13 : decode cX9_valueOf 13 = .ok (.isub, 1) := by decide +kernel
theorem dX9_valueOf_14 : decode cX9_valueOf 14 = .ok (.invokevirtual 162, 3) := by decide +kernel
theorem dX9_valueOf_17 : decode cX9_valueOf 17 = .ok (.ifCond .eq 13, 3) := by decide +kernel
theorem dX9_valueOf_20 : decode cX9_valueOf 20 = .ok (.aload_n 2, 1) := by decide +kernel
theorem dX9_valueOf_21 : decode cX9_valueOf 21 = .ok (.iload_n 3, 1) := by decide +kernel
theorem dX9_valueOf_22 : decode cX9_valueOf 22 = .ok (.sipush 5000, 3) := by decide +kernel
theorem dX9_valueOf_25 : decode cX9_valueOf 25 = .ok (.isub, 1) := by decide +kernel
theorem dX9_valueOf_26 : decode cX9_valueOf 26 = .ok (.laload, 1) := by decide +kernel
theorem dX9_valueOf_27 : decode cX9_valueOf 27 = .ok (.goto 4, 3) := by decide +kernel
theorem dX9_valueOf_30 : decode cX9_valueOf 30 = .ok (.lconst 0, 1) := by decide +kernel
theorem dX9_valueOf_31 : decode cX9_valueOf 31 = .ok (.lreturn, 1) := by decide +kernel
theorem dX9_valueOf_32 : decode cX9_valueOf 32 = .ok (.iload_n 3, 1) := by decide +kernel
theorem dX9_valueOf_33 : decode cX9_valueOf 33 = .ok (.sipush 4000, 3) := by decide +kernel
theorem dX9_valueOf_36 : decode cX9_valueOf 36 = .ok (.if_icmp .lt 16, 3) := by decide +kernel
theorem dX9_valueOf_39 : decode cX9_valueOf 39 = .ok (.aload_n 1, 1) := by decide +kernel
theorem dX9_valueOf_40 : decode cX9_valueOf 40 = .ok (.sipush 492, 3) := by decide +kernel
theorem dX9_valueOf_43 : decode cX9_valueOf 43 = .ok (.iload_n 3, 1) := by decide +kernel
theorem dX9_valueOf_44 : decode cX9_valueOf 44 = .ok (.iadd, 1) := by decide +kernel
theorem dX9_valueOf_45 : decode cX9_valueOf 45 = .ok (.sipush 4000, 3) := by decide +kernel
theorem dX9_valueOf_48 : decode cX9_valueOf 48 = .ok (.isub, 1) := by decide +kernel
theorem dX9_valueOf_49 : decode cX9_valueOf 49 = .ok (.iaload, 1) := by decide +kernel
theorem dX9_valueOf_50 : decode cX9_valueOf 50 = .ok (.i2l, 1) := by decide +kernel
theorem dX9_valueOf_51 : decode cX9_valueOf 51 = .ok (.lreturn, 1) := by decide +kernel
theorem dX9_valueOf_52 : decode cX9_valueOf 52 = .ok (.iload_n 3, 1) := by decide +kernel
theorem dX9_valueOf_53 : decode cX9_valueOf 53 = .ok (.sipush 3000, 3) := by decide +kernel
theorem dX9_valueOf_56 : decode cX9_valueOf 56 = .ok (.if_icmp .lt 11, 3) := by decide +kernel
theorem dX9_valueOf_59 : decode cX9_valueOf 59 = .ok (.aload_n 1, 1) := by decide +kernel
theorem dX9_valueOf_60 : decode cX9_valueOf 60 = .ok (.iload 4, 2) := by decide +kernel
theorem dX9_valueOf_62 : decode cX9_valueOf 62 = .ok (.invokestatic 133, 3) := by decide +kernel
theorem dX9_valueOf_65 : decode cX9_valueOf 65 = .ok (.i2l, 1) := by decide +kernel
theorem dX9_valueOf_66 : decode cX9_valueOf 66 = .ok (.lreturn, 1) := by decide +kernel
theorem dX9_valueOf_67 : decode cX9_valueOf 67 = .ok (.iload_n 3, 1) := by decide +kernel
theorem dX9_valueOf_68 : decode cX9_valueOf 68 = .ok (.sipush 2000, 3) := by decide +kernel
theorem dX9_valueOf_71 : decode cX9_valueOf 71 = .ok (.if_icmp .lt 16, 3) := by decide +kernel
theorem dX9_valueOf_74 : decode cX9_valueOf 74 = .ok (.aload_n 1, 1) := by decide +kernel
theorem dX9_valueOf_75 : decode cX9_valueOf 75 = .ok (.sipush 160, 3) := by decide +kernel
theorem dX9_valueOf_78 : decode cX9_valueOf 78 = .ok (.iload_n 3, 1) := by decide +kernel
theorem dX9_valueOf_79 : decode cX9_valueOf 79 = .ok (.iadd, 1) := by decide +kernel
theorem dX9_valueOf_80 : decode cX9_valueOf 80 = .ok (.sipush 2000, 3) := by decide +kernel
theorem dX9_valueOf_83 : decode cX9_valueOf 83 = .ok (.isub, 1) := by decide +kernel
theorem dX9_valueOf_84 : decode cX9_valueOf 84 = .ok (.iaload, 1) := by decide +kernel
theorem dX9_valueOf_85 : decode cX9_valueOf 85 = .ok (.i2l, 1) := by decide +kernel
theorem dX9_valueOf_86 : decode cX9_valueOf 86 = .ok (.lreturn, 1) := by decide +kernel
theorem dX9_valueOf_87 : decode cX9_valueOf 87 = .ok (.iload_n 3, 1) := by decide +kernel
theorem dX9_valueOf_88 : decode cX9_valueOf 88 = .ok (.sipush 1000, 3) := by decide +kernel
theorem dX9_valueOf_91 : decode cX9_valueOf 91 = .ok (.if_icmp .lt 16, 3) := by decide +kernel
theorem dX9_valueOf_94 : decode cX9_valueOf 94 = .ok (.aload_n 1, 1) := by decide +kernel
theorem dX9_valueOf_95 : decode cX9_valueOf 95 = .ok (.iconst 0, 1) := by decide +kernel
theorem dX9_valueOf_96 : decode cX9_valueOf 96 = .ok (.iload_n 3, 1) := by decide +kernel
theorem dX9_valueOf_97 : decode cX9_valueOf 97 = .ok (.iadd, 1) := by decide +kernel
theorem dX9_valueOf_98 : decode cX9_valueOf 98 = .ok (.sipush 1000, 3) := by decide +kernel
theorem dX9_valueOf_101 : decode cX9_valueOf 101 = .ok (.isub, 1) := by decide +kernel
theorem dX9_valueOf_102 : decode cX9_valueOf 102 = .ok (.iaload, 1) := by decide +kernel
theorem dX9_valueOf_103 : decode cX9_valueOf 103 = .ok (.i2l, 1) := by decide +kernel
theorem dX9_valueOf_104 : decode cX9_valueOf 104 = .ok (.goto 4, 3) := by decide +kernel
theorem dX9_valueOf_107 : decode cX9_valueOf 107 = .ok (.lconst 0, 1) := by decide +kernel
theorem dX9_valueOf_108 : decode cX9_valueOf 108 = .ok (.lreturn, 1) := by decide +kernel
theorem dX9_arrange_0 : decode cX9_arrange 0 = .ok (.iconst 0, 1) := by decide +kernel
theorem dX9_arrange_1 : decode cX9_arrange 1 = .ok (.istore_n 2, 1) := by decide +kernel
theorem dX9_arrange_2 : decode cX9_arrange 2 = .ok (.iconst 0, 1) := by decide +kernel
theorem dX9_arrange_3 : decode cX9_arrange 3 = .ok (.istore_n 3, 1) := by decide +kernel
theorem dX9_arrange_4 : decode cX9_arrange 4 = .ok (.iload_n 3, 1) := by decide +kernel
theorem dX9_arrange_5 : decode cX9_arrange 5 = .ok (.sipush 258, 3) := by decide +kernel
theorem dX9_arrange_8 : decode cX9_arrange 8 = .ok (.if_icmp .ge 124, 3) := by decide +kernel
theorem dX9_arrange_11 : decode cX9_arrange 11 = .ok (.aload_n 0, 1) := by decide +kernel
theorem dX9_arrange_12 : decode cX9_arrange 12 = .ok (.getfield 82, 3) := by decide +kernel
theorem dX9_arrange_15 : decode cX9_arrange 15 = .ok (.iload_n 3, 1) := by decide +kernel
theorem dX9_arrange_16 : decode cX9_arrange 16 = .ok (.iconst 0, 1) := by decide +kernel
theorem dX9_arrange_17 : decode cX9_arrange 17 = .ok (.bastore, 1) := by decide +kernel
theorem dX9_arrange_18 : decode cX9_arrange 18 = .ok (.aload_n 0, 1) := by decide +kernel
theorem dX9_arrange_19 : decode cX9_arrange 19 = .ok (.aload_n 1, 1) := by decide +kernel
theorem dX9_arrange_20 : decode cX9_arrange 20 = .ok (.iload_n 3, 1) := by decide +kernel
theorem dX9_arrange_21 : decode cX9_arrange 21 = .ok (.invokevirtual 162, 3) := by decide +kernel
theorem dX9_arrange_24 : decode cX9_arrange 24 = .ok (.ifCond .ne 6, 3) := by decide +kernel
theorem dX9_arrange_27 : decode cX9_arrange 27 = .ok (.goto 99, 3) := by decide +kernel
theorem dX9_arrange_30 : decode cX9_arrange 30 = .ok (.iinc 2 1, 3) := by decide +kernel
theorem dX9_arrange_33 : decode cX9_arrange 33 = .ok (.iconst 0, 1) := by decide +kernel
theorem dX9_arrange_34 : decode cX9_arrange 34 = .ok (.istore 4, 2) := by decide +kernel
theorem dX9_arrange_36 : decode cX9_arrange 36 = .ok (.iload 4, 2) := by decide +kernel
theorem dX9_arrange_38 : decode cX9_arrange 38 = .ok (.sipush 258, 3) := by decide +kernel
theorem dX9_arrange_41 : decode cX9_arrange 41 = .ok (.if_icmp .ge 23, 3) := by decide +kernel
theorem dX9_arrange_44 : decode cX9_arrange 44 = .ok (.aload_n 0, 1) := by decide +kernel
theorem dX9_arrange_45 : decode cX9_arrange 45 = .ok (.getfield 87, 3) := by decide +kernel
theorem dX9_arrange_48 : decode cX9_arrange 48 = .ok (.iload_n 3, 1) := by decide +kernel
theorem dX9_arrange_49 : decode cX9_arrange 49 = .ok (.sipush 258, 3) := by decide +kernel
theorem dX9_arrange_52 : decode cX9_arrange 52 = .ok (.imul, 1) := by decide +kernel
theorem dX9_arrange_53 : decode cX9_arrange 53 = .ok (.iload 4, 2) := by decide +kernel
theorem dX9_arrange_55 : decode cX9_arrange 55 = .ok (.iadd, 1) := by decide +kernel
theorem dX9_arrange_56 : decode cX9_arrange 56 = .ok (.iconst 0, 1) := by decide +kernel
theorem dX9_arrange_57 : decode cX9_arrange 57 = .ok (.bastore, 1) := by decide +kernel
theorem dX9_arrange_58 : decode cX9_arrange 58 = .ok (.iinc 4 1, 3) := by decide +kernel
theorem dX9_arrange_61 : decode cX9_arrange 61 = .ok (.goto (-25), 3) := by decide +kernel
theorem dX9_arrange_64 : decode cX9_arrange 64 = .ok (.aload_n 0, 1) := by decide +kernel
theorem dX9_arrange_65 : decode cX9_arrange 65 = .ok (.aload_n 1, 1) := by decide +kernel
theorem dX9_arrange_66 : decode cX9_arrange 66 = .ok (.iload_n 3, 1) := by decide +kernel
theorem dX9_arrange_67 : decode cX9_arrange 67 = .ok (.invokevirtual 165, 3) := by decide +kernel
theorem dX9_arrange_70 : decode cX9_arrange 70 = .ok (.iconst 0, 1) := by decide +kernel
theorem dX9_arrange_71 : decode cX9_arrange 71 = .ok (.istore 4, 2) := by decide +kernel
theorem dX9_arrange_73 : decode cX9_arrange 73 = .ok (.iload 4, 2) := by decide +kernel
theorem dX9_arrange_75 : decode cX9_arrange 75 = .ok (.aload_n 0, 1) := by decide +kernel
theorem dX9_arrange_76 : decode cX9_arrange 76 = .ok (.getfield 141, 3) := by decide +kernel
theorem dX9_arrange_79 : decode cX9_arrange 79 = .ok (.if_icmp .ge 47, 3) := by decide +kernel
theorem dX9_arrange_82 : decode cX9_arrange 82 = .ok (.aload_n 0, 1) := by decide +kernel
theorem dX9_arrange_83 : decode cX9_arrange 83 = .ok (.aload_n 1, 1) := by decide +kernel
theorem dX9_arrange_84 : decode cX9_arrange 84 = .ok (.aload_n 0, 1) := by decide +kernel
theorem dX9_arrange_85 : decode cX9_arrange 85 = .ok (.getfield 73, 3) := by decide +kernel
theorem dX9_arrange_88 : decode cX9_arrange 88 = .ok (.iload 4, 2) := by decide +kernel
theorem dX9_arrange_90 : decode cX9_arrange 90 = .ok (.iaload, 1) := by decide +kernel
theorem dX9_arrange_91 : decode cX9_arrange 91 = .ok (.invokevirtual 169, 3) := by decide +kernel
theorem dX9_arrange_94 : decode cX9_arrange 94 = .ok (.ifCond .eq 26, 3) := by decide +kernel
theorem dX9_arrange_97 : decode cX9_arrange 97 = .ok (.aload_n 0, 1) := by decide +kernel
theorem dX9_arrange_98 : decode cX9_arrange 98 = .ok (.getfield 87, 3) := by decide +kernel
theorem dX9_arrange_101 : decode cX9_arrange 101 = .ok (.iload_n 3, 1) := by decide +kernel
theorem dX9_arrange_102 : decode cX9_arrange 102 = .ok (.sipush 258, 3) := by decide +kernel
theorem dX9_arrange_105 : decode cX9_arrange 105 = .ok (.imul, 1) := by decide +kernel
theorem dX9_arrange_106 : decode cX9_arrange 106 = .ok (.aload_n 0, 1) := by decide +kernel
theorem dX9_arrange_107 : decode cX9_arrange 107 = .ok (.getfield 73, 3) := by decide +kernel
theorem dX9_arrange_110 : decode cX9_arrange 110 = .ok (.iload 4, 2) := by decide +kernel
theorem dX9_arrange_112 : decode cX9_arrange 112 = .ok (.iaload, 1) := by decide +kernel
theorem dX9_arrange_113 : decode cX9_arrange 113 = .ok (.iadd, 1) := by decide +kernel
theorem dX9_arrange_114 : decode cX9_arrange 114 = .ok (.sipush 5000, 3) := by decide +kernel
theorem dX9_arrange_117 : decode cX9_arrange 117 = .ok (.isub, 1) := by decide +kernel
theorem dX9_arrange_118 : decode cX9_arrange 118 = .ok (.iconst 1, 1) := by decide +kernel
theorem dX9_arrange_119 : decode cX9_arrange 119 = .ok (.bastore, 1) := by decide +kernel
theorem dX9_arrange_120 : decode cX9_arrange 120 = .ok (.iinc 4 1, 3) := by decide +kernel
theorem dX9_arrange_123 : decode cX9_arrange 123 = .ok (.goto (-50), 3) := by decide +kernel
theorem dX9_arrange_126 : decode cX9_arrange 126 = .ok (.iinc 3 1, 3) := by decide +kernel
theorem dX9_arrange_129 : decode cX9_arrange 129 = .ok (.goto (-125), 3) := by decide +kernel
theorem dX9_arrange_132 : decode cX9_arrange 132 = .ok (.aload_n 0, 1) := by decide +kernel
theorem dX9_arrange_133 : decode cX9_arrange 133 = .ok (.iconst 0, 1) := by decide +kernel
theorem dX9_arrange_134 : decode cX9_arrange 134 = .ok (.putfield 172, 3) := by decide +kernel
theorem dX9_arrange_137 : decode cX9_arrange 137 = .ok (.iconst 1, 1) := by decide +kernel
theorem dX9_arrange_138 : decode cX9_arrange 138 = .ok (.istore_n 3, 1) := by decide +kernel
theorem dX9_arrange_139 : decode cX9_arrange 139 = .ok (.iload_n 3, 1) := by decide +kernel
theorem dX9_arrange_140 : decode cX9_arrange 140 = .ok (.ifCond .eq 147, 3) := by decide +kernel
theorem dX9_arrange_143 : decode cX9_arrange 143 = .ok (.iconst 0, 1) := by decide +kernel
theorem dX9_arrange_144 : decode cX9_arrange 144 = .ok (.istore_n 3, 1) := by decide +kernel
theorem dX9_arrange_145 : decode cX9_arrange 145 = .ok (.iconst 0, 1) := by decide +kernel
theorem dX9_arrange_146 : decode cX9_arrange 146 = .ok (.istore 4, 2) := by decide +kernel
theorem dX9_arrange_148 : decode cX9_arrange 148 = .ok (.iload 4, 2) := by decide +kernel
theorem dX9_arrange_150 : decode cX9_arrange 150 = .ok (.sipush 258, 3) := by decide +kernel
theorem dX9_arrange_153 : decode cX9_arrange 153 = .ok (.if_icmp .ge 131, 3) := by decide +kernel
theorem dX9_arrange_156 : decode cX9_arrange 156 = .ok (.iload_n 3, 1) := by decide +kernel
theorem dX9_arrange_157 : decode cX9_arrange 157 = .ok (.ifCond .ne 127, 3) := by decide +kernel
theorem dX9_arrange_160 : decode cX9_arrange 160 = .ok (.aload_n 0, 1) := by decide +kernel
theorem dX9_arrange_161 : decode cX9_arrange 161 = .ok (.aload_n 1, 1) := by decide +kernel
theorem dX9_arrange_162 : decode cX9_arrange 162 = .ok (.iload 4, 2) := by decide +kernel
theorem dX9_arrange_164 : decode cX9_arrange 164 = .ok (.invokevirtual 162, 3) := by decide +kernel
theorem dX9_arrange_167 : decode cX9_arrange 167 = .ok (.ifCond .eq 111, 3) := by decide +kernel
theorem dX9_arrange_170 : decode cX9_arrange 170 = .ok (.aload_n 0, 1) := by decide +kernel
theorem dX9_arrange_171 : decode cX9_arrange 171 = .ok (.getfield 82, 3) := by decide +kernel
theorem dX9_arrange_174 : decode cX9_arrange 174 = .ok (.iload 4, 2) := by decide +kernel
theorem dX9_arrange_176 : decode cX9_arrange 176 = .ok (.baload, 1) := by decide +kernel
theorem dX9_arrange_177 : decode cX9_arrange 177 = .ok (.ifCond .eq 6, 3) := by decide +kernel
theorem dX9_arrange_180 : decode cX9_arrange 180 = .ok (.goto 98, 3) := by decide +kernel
theorem dX9_arrange_183 : decode cX9_arrange 183 = .ok (.iconst 1, 1) := by decide +kernel
theorem dX9_arrange_184 : decode cX9_arrange 184 = .ok (.istore 5, 2) := by decide +kernel
theorem dX9_arrange_186 : decode cX9_arrange 186 = .ok (.iconst 0, 1) := by decide +kernel
theorem dX9_arrange_187 : decode cX9_arrange 187 = .ok (.istore 6, 2) := by decide +kernel
theorem dX9_arrange_189 : decode cX9_arrange 189 = .ok (.iload 6, 2) := by decide +kernel
theorem dX9_arrange_191 : decode cX9_arrange 191 = .ok (.sipush 258, 3) := by decide +kernel
theorem dX9_arrange_194 : decode cX9_arrange 194 = .ok (.if_icmp .ge 48, 3) := by decide +kernel
theorem dX9_arrange_197 : decode cX9_arrange 197 = .ok (.iload 5, 2) := by decide +kernel
theorem dX9_arrange_199 : decode cX9_arrange 199 = .ok (.ifCond .eq 43, 3) := by decide +kernel
theorem dX9_arrange_202 : decode cX9_arrange 202 = .ok (.aload_n 0, 1) := by decide +kernel
theorem dX9_arrange_203 : decode cX9_arrange 203 = .ok (.getfield 87, 3) := by decide +kernel
theorem dX9_arrange_206 : decode cX9_arrange 206 = .ok (.iload 4, 2) := by decide +kernel
theorem dX9_arrange_208 : decode cX9_arrange 208 = .ok (.sipush 258, 3) := by decide +kernel
theorem dX9_arrange_211 : decode cX9_arrange 211 = .ok (.imul, 1) := by decide +kernel
theorem dX9_arrange_212 : decode cX9_arrange 212 = .ok (.iload 6, 2) := by decide +kernel
theorem dX9_arrange_214 : decode cX9_arrange 214 = .ok (.iadd, 1) := by decide +kernel
theorem dX9_arrange_215 : decode cX9_arrange 215 = .ok (.baload, 1) := by decide +kernel
theorem dX9_arrange_216 : decode cX9_arrange 216 = .ok (.ifCond .eq 13, 3) := by decide +kernel
theorem dX9_arrange_219 : decode cX9_arrange 219 = .ok (.aload_n 0, 1) := by decide +kernel
theorem dX9_arrange_220 : decode cX9_arrange 220 = .ok (.getfield 82, 3) := by decide +kernel
theorem dX9_arrange_223 : decode cX9_arrange 223 = .ok (.iload 6, 2) := by decide +kernel
theorem dX9_arrange_225 : decode cX9_arrange 225 = .ok (.baload, 1) := by decide +kernel
theorem dX9_arrange_226 : decode cX9_arrange 226 = .ok (.ifCond .eq 7, 3) := by decide +kernel
theorem dX9_arrange_229 : decode cX9_arrange 229 = .ok (.iconst 1, 1) := by decide +kernel
theorem dX9_arrange_230 : decode cX9_arrange 230 = .ok (.goto 4, 3) := by decide +kernel
theorem dX9_arrange_233 : decode cX9_arrange 233 = .ok (.iconst 0, 1) := by decide +kernel
theorem dX9_arrange_234 : decode cX9_arrange 234 = .ok (.istore 5, 2) := by decide +kernel
theorem dX9_arrange_236 : decode cX9_arrange 236 = .ok (.iinc 6 1, 3) := by decide +kernel
theorem dX9_arrange_239 : decode cX9_arrange 239 = .ok (.goto (-50), 3) := by decide +kernel
theorem dX9_arrange_242 : decode cX9_arrange 242 = .ok (.iload 5, 2) := by decide +kernel
theorem dX9_arrange_244 : decode cX9_arrange 244 = .ok (.ifCond .eq 34, 3) := by decide +kernel
theorem dX9_arrange_247 : decode cX9_arrange 247 = .ok (.aload_n 0, 1) := by decide +kernel
theorem dX9_arrange_248 : decode cX9_arrange 248 = .ok (.getfield 82, 3) := by decide +kernel
theorem dX9_arrange_251 : decode cX9_arrange 251 = .ok (.iload 4, 2) := by decide +kernel
theorem dX9_arrange_253 : decode cX9_arrange 253 = .ok (.iconst 1, 1) := by decide +kernel
theorem dX9_arrange_254 : decode cX9_arrange 254 = .ok (.bastore, 1) := by decide +kernel
theorem dX9_arrange_255 : decode cX9_arrange 255 = .ok (.aload_n 0, 1) := by decide +kernel
theorem dX9_arrange_256 : decode cX9_arrange 256 = .ok (.getfield 79, 3) := by decide +kernel
theorem dX9_arrange_259 : decode cX9_arrange 259 = .ok (.aload_n 0, 1) := by decide +kernel
theorem dX9_arrange_260 : decode cX9_arrange 260 = .ok (.getfield 172, 3) := by decide +kernel
theorem dX9_arrange_263 : decode cX9_arrange 263 = .ok (.iload 4, 2) := by decide +kernel
theorem dX9_arrange_265 : decode cX9_arrange 265 = .ok (.iastore, 1) := by decide +kernel
theorem dX9_arrange_266 : decode cX9_arrange 266 = .ok (.aload_n 0, 1) := by decide +kernel
theorem dX9_arrange_267 : decode cX9_arrange 267 = .ok (.dup, 1) := by decide +kernel
theorem dX9_arrange_268 : decode cX9_arrange 268 = .ok (.getfield 172, 3) := by decide +kernel
theorem dX9_arrange_271 : decode cX9_arrange 271 = .ok (.iconst 1, 1) := by decide +kernel
theorem dX9_arrange_272 : decode cX9_arrange 272 = .ok (.iadd, 1) := by decide +kernel
theorem dX9_arrange_273 : decode cX9_arrange 273 = .ok (.putfield 172, 3) := by decide +kernel
theorem dX9_arrange_276 : decode cX9_arrange 276 = .ok (.iconst 1, 1) := by decide +kernel
theorem dX9_arrange_277 : decode cX9_arrange 277 = .ok (.istore_n 3, 1) := by decide +kernel
theorem dX9_arrange_278 : decode cX9_arrange 278 = .ok (.iinc 4 1, 3) := by decide +kernel
theorem dX9_arrange_281 : decode cX9_arrange 281 = .ok (.goto (-133), 3) := by decide +kernel
theorem dX9_arrange_284 : decode cX9_arrange 284 = .ok (.goto (-145), 3) := by decide +kernel
theorem dX9_arrange_287 : decode cX9_arrange 287 = .ok (.aload_n 0, 1) := by decide +kernel
theorem dX9_arrange_288 : decode cX9_arrange 288 = .ok (.getfield 172, 3) := by decide +kernel
theorem dX9_arrange_291 : decode cX9_arrange 291 = .ok (.iload_n 2, 1) := by decide +kernel
theorem dX9_arrange_292 : decode cX9_arrange 292 = .ok (.if_icmp .ne 7, 3) := by decide +kernel
theorem dX9_arrange_295 : decode cX9_arrange 295 = .ok (.iconst 1, 1) := by decide +kernel
theorem dX9_arrange_296 : decode cX9_arrange 296 = .ok (.goto 4, 3) := by decide +kernel
theorem dX9_arrange_299 : decode cX9_arrange 299 = .ok (.iconst 0, 1) := by decide +kernel
theorem dX9_arrange_300 : decode cX9_arrange 300 = .ok (.ireturn, 1) := by decide +kernel
theorem dX9_measure_0 : decode cX9_measure 0 = .ok (.iconst 0, 1) := by decide +kernel
theorem dX9_measure_1 : decode cX9_measure 1 = .ok (.istore_n 3, 1) := by decide +kernel
theorem dX9_measure_2 : decode cX9_measure 2 = .ok (.iload_n 3, 1) := by decide +kernel
theorem dX9_measure_3 : decode cX9_measure 3 = .ok (.sipush 258, 3) := by decide +kernel
theorem dX9_measure_6 : decode cX9_measure 6 = .ok (.if_icmp .ge 27, 3) := by decide +kernel
theorem dX9_measure_9 : decode cX9_measure 9 = .ok (.aload_n 0, 1) := by decide +kernel
theorem dX9_measure_10 : decode cX9_measure 10 = .ok (.getfield 90, 3) := by decide +kernel
theorem dX9_measure_13 : decode cX9_measure 13 = .ok (.iload_n 3, 1) := by decide +kernel
theorem dX9_measure_14 : decode cX9_measure 14 = .ok (.iload_n 3, 1) := by decide +kernel
theorem dX9_measure_15 : decode cX9_measure 15 = .ok (.iload_n 2, 1) := by decide +kernel
theorem dX9_measure_16 : decode cX9_measure 16 = .ok (.if_icmp .ne 7, 3) := by decide +kernel
theorem dX9_measure_19 : decode cX9_measure 19 = .ok (.iconst 0, 1) := by decide +kernel
theorem dX9_measure_20 : decode cX9_measure 20 = .ok (.goto 6, 3) := by decide +kernel
theorem dX9_measure_23 : decode cX9_measure 23 = .ok (.sipush 258, 3) := by decide +kernel
theorem dX9_measure_26 : decode cX9_measure 26 = .ok (.iastore, 1) := by decide +kernel
theorem dX9_measure_27 : decode cX9_measure 27 = .ok (.iinc 3 1, 3) := by decide +kernel
theorem dX9_measure_30 : decode cX9_measure 30 = .ok (.goto (-28), 3) := by decide +kernel
theorem dX9_measure_33 : decode cX9_measure 33 = .ok (.iconst 1, 1) := by decide +kernel
theorem dX9_measure_34 : decode cX9_measure 34 = .ok (.istore_n 3, 1) := by decide +kernel
theorem dX9_measure_35 : decode cX9_measure 35 = .ok (.iload_n 3, 1) := by decide +kernel
theorem dX9_measure_36 : decode cX9_measure 36 = .ok (.ifCond .eq 115, 3) := by decide +kernel
theorem dX9_measure_39 : decode cX9_measure 39 = .ok (.iconst 0, 1) := by decide +kernel
theorem dX9_measure_40 : decode cX9_measure 40 = .ok (.istore_n 3, 1) := by decide +kernel
theorem dX9_measure_41 : decode cX9_measure 41 = .ok (.iconst 0, 1) := by decide +kernel
theorem dX9_measure_42 : decode cX9_measure 42 = .ok (.istore 4, 2) := by decide +kernel
theorem dX9_measure_44 : decode cX9_measure 44 = .ok (.iload 4, 2) := by decide +kernel
theorem dX9_measure_46 : decode cX9_measure 46 = .ok (.sipush 258, 3) := by decide +kernel
theorem dX9_measure_49 : decode cX9_measure 49 = .ok (.if_icmp .ge 99, 3) := by decide +kernel
theorem dX9_measure_52 : decode cX9_measure 52 = .ok (.aload_n 0, 1) := by decide +kernel
theorem dX9_measure_53 : decode cX9_measure 53 = .ok (.aload_n 1, 1) := by decide +kernel
theorem dX9_measure_54 : decode cX9_measure 54 = .ok (.iload 4, 2) := by decide +kernel
theorem dX9_measure_56 : decode cX9_measure 56 = .ok (.invokevirtual 162, 3) := by decide +kernel
theorem dX9_measure_59 : decode cX9_measure 59 = .ok (.ifCond .eq 83, 3) := by decide +kernel
theorem dX9_measure_62 : decode cX9_measure 62 = .ok (.iload 4, 2) := by decide +kernel
theorem dX9_measure_64 : decode cX9_measure 64 = .ok (.iload_n 2, 1) := by decide +kernel
theorem dX9_measure_65 : decode cX9_measure 65 = .ok (.if_icmp .ne 6, 3) := by decide +kernel
theorem dX9_measure_68 : decode cX9_measure 68 = .ok (.goto 74, 3) := by decide +kernel
theorem dX9_measure_71 : decode cX9_measure 71 = .ok (.iconst 0, 1) := by decide +kernel
theorem dX9_measure_72 : decode cX9_measure 72 = .ok (.istore 5, 2) := by decide +kernel
theorem dX9_measure_74 : decode cX9_measure 74 = .ok (.iload 5, 2) := by decide +kernel
theorem dX9_measure_76 : decode cX9_measure 76 = .ok (.sipush 258, 3) := by decide +kernel
theorem dX9_measure_79 : decode cX9_measure 79 = .ok (.if_icmp .ge 63, 3) := by decide +kernel
theorem dX9_measure_82 : decode cX9_measure 82 = .ok (.aload_n 0, 1) := by decide +kernel
theorem dX9_measure_83 : decode cX9_measure 83 = .ok (.getfield 87, 3) := by decide +kernel
theorem dX9_measure_86 : decode cX9_measure 86 = .ok (.iload 4, 2) := by decide +kernel
theorem dX9_measure_88 : decode cX9_measure 88 = .ok (.sipush 258, 3) := by decide +kernel
theorem dX9_measure_91 : decode cX9_measure 91 = .ok (.imul, 1) := by decide +kernel
theorem dX9_measure_92 : decode cX9_measure 92 = .ok (.iload 5, 2) := by decide +kernel
theorem dX9_measure_94 : decode cX9_measure 94 = .ok (.iadd, 1) := by decide +kernel
theorem dX9_measure_95 : decode cX9_measure 95 = .ok (.baload, 1) := by decide +kernel
theorem dX9_measure_96 : decode cX9_measure 96 = .ok (.ifCond .eq 40, 3) := by decide +kernel
theorem dX9_measure_99 : decode cX9_measure 99 = .ok (.aload_n 0, 1) := by decide +kernel
theorem dX9_measure_100 : decode cX9_measure 100 = .ok (.getfield 90, 3) := by decide +kernel
theorem dX9_measure_103 : decode cX9_measure 103 = .ok (.iload 5, 2) := by decide +kernel
theorem dX9_measure_105 : decode cX9_measure 105 = .ok (.iaload, 1) := by decide +kernel
theorem dX9_measure_106 : decode cX9_measure 106 = .ok (.iconst 1, 1) := by decide +kernel
theorem dX9_measure_107 : decode cX9_measure 107 = .ok (.iadd, 1) := by decide +kernel
theorem dX9_measure_108 : decode cX9_measure 108 = .ok (.aload_n 0, 1) := by decide +kernel
theorem dX9_measure_109 : decode cX9_measure 109 = .ok (.getfield 90, 3) := by decide +kernel
theorem dX9_measure_112 : decode cX9_measure 112 = .ok (.iload 4, 2) := by decide +kernel
theorem dX9_measure_114 : decode cX9_measure 114 = .ok (.iaload, 1) := by decide +kernel
theorem dX9_measure_115 : decode cX9_measure 115 = .ok (.if_icmp .ge 21, 3) := by decide +kernel
theorem dX9_measure_118 : decode cX9_measure 118 = .ok (.aload_n 0, 1) := by decide +kernel
theorem dX9_measure_119 : decode cX9_measure 119 = .ok (.getfield 90, 3) := by decide +kernel
theorem dX9_measure_122 : decode cX9_measure 122 = .ok (.iload 4, 2) := by decide +kernel
theorem dX9_measure_124 : decode cX9_measure 124 = .ok (.aload_n 0, 1) := by decide +kernel
theorem dX9_measure_125 : decode cX9_measure 125 = .ok (.getfield 90, 3) := by decide +kernel
theorem dX9_measure_128 : decode cX9_measure 128 = .ok (.iload 5, 2) := by decide +kernel
theorem dX9_measure_130 : decode cX9_measure 130 = .ok (.iaload, 1) := by decide +kernel
theorem dX9_measure_131 : decode cX9_measure 131 = .ok (.iconst 1, 1) := by decide +kernel
theorem dX9_measure_132 : decode cX9_measure 132 = .ok (.iadd, 1) := by decide +kernel
theorem dX9_measure_133 : decode cX9_measure 133 = .ok (.iastore, 1) := by decide +kernel
theorem dX9_measure_134 : decode cX9_measure 134 = .ok (.iconst 1, 1) := by decide +kernel
theorem dX9_measure_135 : decode cX9_measure 135 = .ok (.istore_n 3, 1) := by decide +kernel
theorem dX9_measure_136 : decode cX9_measure 136 = .ok (.iinc 5 1, 3) := by decide +kernel
theorem dX9_measure_139 : decode cX9_measure 139 = .ok (.goto (-65), 3) := by decide +kernel
theorem dX9_measure_142 : decode cX9_measure 142 = .ok (.iinc 4 1, 3) := by decide +kernel
theorem dX9_measure_145 : decode cX9_measure 145 = .ok (.goto (-101), 3) := by decide +kernel
theorem dX9_measure_148 : decode cX9_measure 148 = .ok (.goto (-113), 3) := by decide +kernel
theorem dX9_measure_151 : decode cX9_measure 151 = .ok (.return_, 1) := by decide +kernel
theorem dX9_isInRing_0 : decode cX9_isInRing 0 = .ok (.aload_n 0, 1) := by decide +kernel
theorem dX9_isInRing_1 : decode cX9_isInRing 1 = .ok (.aload_n 1, 1) := by decide +kernel
theorem dX9_isInRing_2 : decode cX9_isInRing 2 = .ok (.iload_n 2, 1) := by decide +kernel
theorem dX9_isInRing_3 : decode cX9_isInRing 3 = .ok (.invokevirtual 175, 3) := by decide +kernel
theorem dX9_isInRing_6 : decode cX9_isInRing 6 = .ok (.iconst 0, 1) := by decide +kernel
theorem dX9_isInRing_7 : decode cX9_isInRing 7 = .ok (.istore_n 3, 1) := by decide +kernel
theorem dX9_isInRing_8 : decode cX9_isInRing 8 = .ok (.iconst 0, 1) := by decide +kernel
theorem dX9_isInRing_9 : decode cX9_isInRing 9 = .ok (.istore 4, 2) := by decide +kernel
theorem dX9_isInRing_11 : decode cX9_isInRing 11 = .ok (.iload 4, 2) := by decide +kernel
theorem dX9_isInRing_13 : decode cX9_isInRing 13 = .ok (.sipush 258, 3) := by decide +kernel
theorem dX9_isInRing_16 : decode cX9_isInRing 16 = .ok (.if_icmp .ge 46, 3) := by decide +kernel
theorem dX9_isInRing_19 : decode cX9_isInRing 19 = .ok (.iload_n 3, 1) := by decide +kernel
theorem dX9_isInRing_20 : decode cX9_isInRing 20 = .ok (.aload_n 0, 1) := by decide +kernel
theorem dX9_isInRing_21 : decode cX9_isInRing 21 = .ok (.getfield 87, 3) := by decide +kernel
theorem dX9_isInRing_24 : decode cX9_isInRing 24 = .ok (.iload_n 2, 1) := by decide +kernel
theorem dX9_isInRing_25 : decode cX9_isInRing 25 = .ok (.sipush 258, 3) := by decide +kernel
theorem dX9_isInRing_28 : decode cX9_isInRing 28 = .ok (.imul, 1) := by decide +kernel
theorem dX9_isInRing_29 : decode cX9_isInRing 29 = .ok (.iload 4, 2) := by decide +kernel
theorem dX9_isInRing_31 : decode cX9_isInRing 31 = .ok (.iadd, 1) := by decide +kernel
theorem dX9_isInRing_32 : decode cX9_isInRing 32 = .ok (.baload, 1) := by decide +kernel
theorem dX9_isInRing_33 : decode cX9_isInRing 33 = .ok (.ifCond .eq 20, 3) := by decide +kernel
theorem dX9_isInRing_36 : decode cX9_isInRing 36 = .ok (.aload_n 0, 1) := by decide +kernel
theorem dX9_isInRing_37 : decode cX9_isInRing 37 = .ok (.getfield 90, 3) := by decide +kernel
theorem dX9_isInRing_40 : decode cX9_isInRing 40 = .ok (.iload 4, 2) := by decide +kernel
theorem dX9_isInRing_42 : decode cX9_isInRing 42 = .ok (.iaload, 1) := by decide +kernel
theorem dX9_isInRing_43 : decode cX9_isInRing 43 = .ok (.sipush 258, 3) := by decide +kernel
theorem dX9_isInRing_46 : decode cX9_isInRing 46 = .ok (.if_icmp .ge 7, 3) := by decide +kernel
theorem dX9_isInRing_49 : decode cX9_isInRing 49 = .ok (.iconst 1, 1) := by decide +kernel
theorem dX9_isInRing_50 : decode cX9_isInRing 50 = .ok (.goto 4, 3) := by decide +kernel
theorem dX9_isInRing_53 : decode cX9_isInRing 53 = .ok (.iconst 0, 1) := by decide +kernel
theorem dX9_isInRing_54 : decode cX9_isInRing 54 = .ok (.ior, 1) := by decide +kernel
theorem dX9_isInRing_55 : decode cX9_isInRing 55 = .ok (.istore_n 3, 1) := by decide +kernel
theorem dX9_isInRing_56 : decode cX9_isInRing 56 = .ok (.iinc 4 1, 3) := by decide +kernel
theorem dX9_isInRing_59 : decode cX9_isInRing 59 = .ok (.goto (-48), 3) := by decide +kernel
theorem dX9_isInRing_62 : decode cX9_isInRing 62 = .ok (.iload_n 3, 1) := by decide +kernel
theorem dX9_isInRing_63 : decode cX9_isInRing 63 = .ok (.ireturn, 1) := by decide +kernel
theorem dX9_findRing_0 : decode cX9_findRing 0 = .ok (.iconst 0, 1) := by decide +kernel
theorem dX9_findRing_1 : decode cX9_findRing 1 = .ok (.istore_n 2, 1) := by decide +kernel
theorem dX9_findRing_2 : decode cX9_findRing 2 = .ok (.aload_n 0, 1) := by decide +kernel
theorem dX9_findRing_3 : decode cX9_findRing 3 = .ok (.aload_n 1, 1) := by decide +kernel
theorem dX9_findRing_4 : decode cX9_findRing 4 = .ok (.iload_n 2, 1) := by decide +kernel
theorem dX9_findRing_5 : decode cX9_findRing 5 = .ok (.invokevirtual 162, 3) := by decide +kernel
theorem dX9_findRing_8 : decode cX9_findRing 8 = .ok (.ifCond .eq 12, 3) := by decide +kernel
theorem dX9_findRing_11 : decode cX9_findRing 11 = .ok (.aload_n 0, 1) := by decide +kernel
theorem dX9_findRing_12 : decode cX9_findRing 12 = .ok (.aload_n 1, 1) := by decide +kernel
theorem dX9_findRing_13 : decode cX9_findRing 13 = .ok (.iload_n 2, 1) := by decide +kernel
theorem dX9_findRing_14 : decode cX9_findRing 14 = .ok (.invokevirtual 178, 3) := by decide +kernel
theorem dX9_findRing_17 : decode cX9_findRing 17 = .ok (.ifCond .ne 9, 3) := by decide +kernel
theorem dX9_findRing_20 : decode cX9_findRing 20 = .ok (.iinc 2 1, 3) := by decide +kernel
theorem dX9_findRing_23 : decode cX9_findRing 23 = .ok (.goto (-21), 3) := by decide +kernel
theorem dX9_findRing_26 : decode cX9_findRing 26 = .ok (.iload_n 2, 1) := by decide +kernel
theorem dX9_findRing_27 : decode cX9_findRing 27 = .ok (.istore_n 3, 1) := by decide +kernel
theorem dX9_findRing_28 : decode cX9_findRing 28 = .ok (.aload_n 0, 1) := by decide +kernel
theorem dX9_findRing_29 : decode cX9_findRing 29 = .ok (.iconst 0, 1) := by decide +kernel
theorem dX9_findRing_30 : decode cX9_findRing 30 = .ok (.putfield 181, 3) := by decide +kernel
theorem dX9_findRing_33 : decode cX9_findRing 33 = .ok (.aload_n 0, 1) := by decide +kernel
theorem dX9_findRing_34 : decode cX9_findRing 34 = .ok (.getfield 61, 3) := by decide +kernel
theorem dX9_findRing_37 : decode cX9_findRing 37 = .ok (.aload_n 0, 1) := by decide +kernel
theorem dX9_findRing_38 : decode cX9_findRing 38 = .ok (.getfield 181, 3) := by decide +kernel
theorem dX9_findRing_41 : decode cX9_findRing 41 = .ok (.iload_n 3, 1) := by decide +kernel
theorem dX9_findRing_42 : decode cX9_findRing 42 = .ok (.iastore, 1) := by decide +kernel
theorem dX9_findRing_43 : decode cX9_findRing 43 = .ok (.aload_n 0, 1) := by decide +kernel
theorem dX9_findRing_44 : decode cX9_findRing 44 = .ok (.dup, 1) := by decide +kernel
theorem dX9_findRing_45 : decode cX9_findRing 45 = .ok (.getfield 181, 3) := by decide +kernel
theorem dX9_findRing_48 : decode cX9_findRing 48 = .ok (.iconst 1, 1) := by decide +kernel
theorem dX9_findRing_49 : decode cX9_findRing 49 = .ok (.iadd, 1) := by decide +kernel
theorem dX9_findRing_50 : decode cX9_findRing 50 = .ok (.putfield 181, 3) := by decide +kernel
theorem dX9_findRing_53 : decode cX9_findRing 53 = .ok (.aload_n 0, 1) := by decide +kernel
theorem dX9_findRing_54 : decode cX9_findRing 54 = .ok (.aload_n 1, 1) := by decide +kernel
theorem dX9_findRing_55 : decode cX9_findRing 55 = .ok (.iload_n 3, 1) := by decide +kernel
theorem dX9_findRing_56 : decode cX9_findRing 56 = .ok (.invokevirtual 165, 3) := by decide +kernel
theorem dX9_findRing_59 : decode cX9_findRing 59 = .ok (.iconst (-1), 1) := by decide +kernel
theorem dX9_findRing_60 : decode cX9_findRing 60 = .ok (.istore 4, 2) := by decide +kernel
theorem dX9_findRing_62 : decode cX9_findRing 62 = .ok (.iconst 0, 1) := by decide +kernel
theorem dX9_findRing_63 : decode cX9_findRing 63 = .ok (.istore 5, 2) := by decide +kernel
theorem dX9_findRing_65 : decode cX9_findRing 65 = .ok (.iload 5, 2) := by decide +kernel
theorem dX9_findRing_67 : decode cX9_findRing 67 = .ok (.aload_n 0, 1) := by decide +kernel
theorem dX9_findRing_68 : decode cX9_findRing 68 = .ok (.getfield 141, 3) := by decide +kernel
theorem dX9_findRing_71 : decode cX9_findRing 71 = .ok (.if_icmp .ge 74, 3) := by decide +kernel
theorem dX9_findRing_74 : decode cX9_findRing 74 = .ok (.aload_n 0, 1) := by decide +kernel
theorem dX9_findRing_75 : decode cX9_findRing 75 = .ok (.aload_n 1, 1) := by decide +kernel
theorem dX9_findRing_76 : decode cX9_findRing 76 = .ok (.aload_n 0, 1) := by decide +kernel
theorem dX9_findRing_77 : decode cX9_findRing 77 = .ok (.getfield 73, 3) := by decide +kernel
theorem dX9_findRing_80 : decode cX9_findRing 80 = .ok (.iload 5, 2) := by decide +kernel
theorem dX9_findRing_82 : decode cX9_findRing 82 = .ok (.iaload, 1) := by decide +kernel
theorem dX9_findRing_83 : decode cX9_findRing 83 = .ok (.invokevirtual 169, 3) := by decide +kernel
theorem dX9_findRing_86 : decode cX9_findRing 86 = .ok (.ifCond .eq 17, 3) := by decide +kernel
theorem dX9_findRing_89 : decode cX9_findRing 89 = .ok (.aload_n 0, 1) := by decide +kernel
theorem dX9_findRing_90 : decode cX9_findRing 90 = .ok (.getfield 73, 3) := by decide +kernel
theorem dX9_findRing_93 : decode cX9_findRing 93 = .ok (.iload 5, 2) := by decide +kernel
theorem dX9_findRing_95 : decode cX9_findRing 95 = .ok (.iaload, 1) := by decide +kernel
theorem dX9_findRing_96 : decode cX9_findRing 96 = .ok (.sipush 5000, 3) := by decide +kernel
theorem dX9_findRing_99 : decode cX9_findRing 99 = .ok (.isub, 1) := by decide +kernel
theorem dX9_findRing_100 : decode cX9_findRing 100 = .ok (.goto 4, 3) := by decide +kernel
theorem dX9_findRing_103 : decode cX9_findRing 103 = .ok (.iconst (-1), 1) := by decide +kernel
theorem dX9_findRing_104 : decode cX9_findRing 104 = .ok (.istore 6, 2) := by decide +kernel
theorem dX9_findRing_106 : decode cX9_findRing 106 = .ok (.iload 6, 2) := by decide +kernel
theorem dX9_findRing_108 : decode cX9_findRing 108 = .ok (.iconst (-1), 1) := by decide +kernel
theorem dX9_findRing_109 : decode cX9_findRing 109 = .ok (.if_icmp .eq 30, 3) := by decide +kernel
theorem dX9_findRing_112 : decode cX9_findRing 112 = .ok (.iload 4, 2) := by decide +kernel
theorem dX9_findRing_114 : decode cX9_findRing 114 = .ok (.iconst (-1), 1) := by decide +kernel
theorem dX9_findRing_115 : decode cX9_findRing 115 = .ok (.if_icmp .eq 20, 3) := by decide +kernel
theorem dX9_findRing_118 : decode cX9_findRing 118 = .ok (.aload_n 0, 1) := by decide +kernel
theorem dX9_findRing_119 : decode cX9_findRing 119 = .ok (.getfield 90, 3) := by decide +kernel
theorem dX9_findRing_122 : decode cX9_findRing 122 = .ok (.iload 6, 2) := by decide +kernel
theorem dX9_findRing_124 : decode cX9_findRing 124 = .ok (.iaload, 1) := by decide +kernel
theorem dX9_findRing_125 : decode cX9_findRing 125 = .ok (.aload_n 0, 1) := by decide +kernel
theorem dX9_findRing_126 : decode cX9_findRing 126 = .ok (.getfield 90, 3) := by decide +kernel
theorem dX9_findRing_129 : decode cX9_findRing 129 = .ok (.iload 4, 2) := by decide +kernel
theorem dX9_findRing_131 : decode cX9_findRing 131 = .ok (.iaload, 1) := by decide +kernel
theorem dX9_findRing_132 : decode cX9_findRing 132 = .ok (.if_icmp .ge 7, 3) := by decide +kernel
theorem dX9_findRing_135 : decode cX9_findRing 135 = .ok (.iload 6, 2) := by decide +kernel
theorem dX9_findRing_137 : decode cX9_findRing 137 = .ok (.istore 4, 2) := by decide +kernel
theorem dX9_findRing_139 : decode cX9_findRing 139 = .ok (.iinc 5 1, 3) := by decide +kernel
theorem dX9_findRing_142 : decode cX9_findRing 142 = .ok (.goto (-77), 3) := by decide +kernel
theorem dX9_findRing_145 : decode cX9_findRing 145 = .ok (.iload 4, 2) := by decide +kernel
theorem dX9_findRing_147 : decode cX9_findRing 147 = .ok (.istore_n 3, 1) := by decide +kernel
theorem dX9_findRing_148 : decode cX9_findRing 148 = .ok (.iload_n 3, 1) := by decide +kernel
theorem dX9_findRing_149 : decode cX9_findRing 149 = .ok (.iload_n 2, 1) := by decide +kernel
theorem dX9_findRing_150 : decode cX9_findRing 150 = .ok (.if_icmp .ne (-117), 3) := by decide +kernel
theorem dX9_findRing_153 : decode cX9_findRing 153 = .ok (.return_, 1) := by decide +kernel
theorem dX9_bounded_0 : decode cX9_bounded 0 = .ok (.lload_n 1, 1) := by decide +kernel
theorem dX9_bounded_1 : decode cX9_bounded 1 = .ok (.ldc2_w 184, 3) := by decide +kernel
theorem dX9_bounded_4 : decode cX9_bounded 4 = .ok (.lcmp, 1) := by decide +kernel
theorem dX9_bounded_5 : decode cX9_bounded 5 = .ok (.ifCond .lt 11, 3) := by decide +kernel
theorem dX9_bounded_8 : decode cX9_bounded 8 = .ok (.lload_n 1, 1) := by decide +kernel
theorem dX9_bounded_9 : decode cX9_bounded 9 = .ok (.ldc2_w 186, 3) := by decide +kernel
theorem dX9_bounded_12 : decode cX9_bounded 12 = .ok (.lcmp, 1) := by decide +kernel
theorem dX9_bounded_13 : decode cX9_bounded 13 = .ok (.ifCond .le 8, 3) := by decide +kernel
theorem dX9_bounded_16 : decode cX9_bounded 16 = .ok (.aload_n 0, 1) := by decide +kernel
theorem dX9_bounded_17 : decode cX9_bounded 17 = .ok (.iconst 3, 1) := by decide +kernel
theorem dX9_bounded_18 : decode cX9_bounded 18 = .ok (.putfield 67, 3) := by decide +kernel
theorem dX9_bounded_21 : decode cX9_bounded 21 = .ok (.lload_n 1, 1) := by decide +kernel
theorem dX9_bounded_22 : decode cX9_bounded 22 = .ok (.lreturn, 1) := by decide +kernel
theorem dX9_times_0 : decode cX9_times 0 = .ok (.lload_n 1, 1) := by decide +kernel
theorem dX9_times_1 : decode cX9_times 1 = .ok (.lconst 0, 1) := by decide +kernel
theorem dX9_times_2 : decode cX9_times 2 = .ok (.lcmp, 1) := by decide +kernel
theorem dX9_times_3 : decode cX9_times 3 = .ok (.ifCond .ge 8, 3) := by decide +kernel
theorem dX9_times_6 : decode cX9_times 6 = .ok (.lload_n 1, 1) := by decide +kernel
theorem dX9_times_7 : decode cX9_times 7 = .ok (.lneg, 1) := by decide +kernel
theorem dX9_times_8 : decode cX9_times 8 = .ok (.goto 4, 3) := by decide +kernel
theorem dX9_times_11 : decode cX9_times 11 = .ok (.lload_n 1, 1) := by decide +kernel
theorem dX9_times_12 : decode cX9_times 12 = .ok (.lstore 5, 2) := by decide +kernel
theorem dX9_times_14 : decode cX9_times 14 = .ok (.lload_n 3, 1) := by decide +kernel
theorem dX9_times_15 : decode cX9_times 15 = .ok (.lconst 0, 1) := by decide +kernel
theorem dX9_times_16 : decode cX9_times 16 = .ok (.lcmp, 1) := by decide +kernel
theorem dX9_times_17 : decode cX9_times 17 = .ok (.ifCond .ge 8, 3) := by decide +kernel
theorem dX9_times_20 : decode cX9_times 20 = .ok (.lload_n 3, 1) := by decide +kernel
theorem dX9_times_21 : decode cX9_times 21 = .ok (.lneg, 1) := by decide +kernel
theorem dX9_times_22 : decode cX9_times 22 = .ok (.goto 4, 3) := by decide +kernel
theorem dX9_times_25 : decode cX9_times 25 = .ok (.lload_n 3, 1) := by decide +kernel
theorem dX9_times_26 : decode cX9_times 26 = .ok (.lstore 7, 2) := by decide +kernel
theorem dX9_times_28 : decode cX9_times 28 = .ok (.lload 5, 2) := by decide +kernel
theorem dX9_times_30 : decode cX9_times 30 = .ok (.lconst 0, 1) := by decide +kernel
theorem dX9_times_31 : decode cX9_times 31 = .ok (.lcmp, 1) := by decide +kernel
theorem dX9_times_32 : decode cX9_times 32 = .ok (.ifCond .eq 20, 3) := by decide +kernel
theorem dX9_times_35 : decode cX9_times 35 = .ok (.lload 7, 2) := by decide +kernel
theorem dX9_times_37 : decode cX9_times 37 = .ok (.ldc2_w 186, 3) := by decide +kernel
theorem dX9_times_40 : decode cX9_times 40 = .ok (.lload 5, 2) := by decide +kernel
theorem dX9_times_42 : decode cX9_times 42 = .ok (.ldiv, 1) := by decide +kernel
theorem dX9_times_43 : decode cX9_times 43 = .ok (.lcmp, 1) := by decide +kernel
theorem dX9_times_44 : decode cX9_times 44 = .ok (.ifCond .le 8, 3) := by decide +kernel
theorem dX9_times_47 : decode cX9_times 47 = .ok (.aload_n 0, 1) := by decide +kernel
theorem dX9_times_48 : decode cX9_times 48 = .ok (.iconst 3, 1) := by decide +kernel
theorem dX9_times_49 : decode cX9_times 49 = .ok (.putfield 67, 3) := by decide +kernel
theorem dX9_times_52 : decode cX9_times 52 = .ok (.lload_n 1, 1) := by decide +kernel
theorem dX9_times_53 : decode cX9_times 53 = .ok (.lload_n 3, 1) := by decide +kernel
theorem dX9_times_54 : decode cX9_times 54 = .ok (.lmul, 1) := by decide +kernel
theorem dX9_times_55 : decode cX9_times 55 = .ok (.lreturn, 1) := by decide +kernel
theorem dX9_work_0 : decode cX9_work 0 = .ok (.iload_n 2, 1) := by decide +kernel
theorem dX9_work_1 : decode cX9_work 1 = .ok (.invokestatic 127, 3) := by decide +kernel
theorem dX9_work_4 : decode cX9_work 4 = .ok (.istore_n 3, 1) := by decide +kernel
theorem dX9_work_5 : decode cX9_work 5 = .ok (.iload_n 2, 1) := by decide +kernel
theorem dX9_work_6 : decode cX9_work 6 = .ok (.invokestatic 130, 3) := by decide +kernel
theorem dX9_work_9 : decode cX9_work 9 = .ok (.istore 4, 2) := by decide +kernel
theorem dX9_work_11 : decode cX9_work 11 = .ok (.aload_n 0, 1) := by decide +kernel
theorem dX9_work_12 : decode cX9_work 12 = .ok (.aload_n 1, 1) := by decide +kernel
theorem dX9_work_13 : decode cX9_work 13 = .ok (.iload_n 2, 1) := by decide +kernel
theorem dX9_work_14 : decode cX9_work 14 = .ok (.invokevirtual 165, 3) := by decide +kernel
theorem dX9_work_17 : decode cX9_work 17 = .ok (.iconst 0, 1) := by decide +kernel
theorem dX9_work_18 : decode cX9_work 18 = .ok (.istore 5, 2) := by decide +kernel
theorem dX9_work_20 : decode cX9_work 20 = .ok (.iconst 0, 1) := by decide +kernel
theorem dX9_work_21 : decode cX9_work 21 = .ok (.istore 6, 2) := by decide +kernel
theorem dX9_work_23 : decode cX9_work 23 = .ok (.iconst 0, 1) := by decide +kernel
theorem dX9_work_24 : decode cX9_work 24 = .ok (.istore 7, 2) := by decide +kernel
theorem dX9_work_26 : decode cX9_work 26 = .ok (.iload 7, 2) := by decide +kernel
theorem dX9_work_28 : decode cX9_work 28 = .ok (.aload_n 0, 1) := by decide +kernel
theorem dX9_work_29 : decode cX9_work 29 = .ok (.getfield 24, 3) := by decide +kernel
theorem dX9_work_32 : decode cX9_work 32 = .ok (.iload_n 3, 1) := by decide +kernel
theorem dX9_work_33 : decode cX9_work 33 = .ok (.iaload, 1) := by decide +kernel
theorem dX9_work_34 : decode cX9_work 34 = .ok (.if_icmp .ge 738, 3) := by decide +kernel
theorem dX9_work_37 : decode cX9_work 37 = .ok (.aload_n 0, 1) := by decide +kernel
theorem dX9_work_38 : decode cX9_work 38 = .ok (.getfield 67, 3) := by decide +kernel
theorem dX9_work_41 : decode cX9_work 41 = .ok (.iconst (-1), 1) := by decide +kernel
theorem dX9_work_42 : decode cX9_work 42 = .ok (.if_icmp .ne 730, 3) := by decide +kernel
theorem dX9_work_45 : decode cX9_work 45 = .ok (.aload_n 0, 1) := by decide +kernel
theorem dX9_work_46 : decode cX9_work 46 = .ok (.iload 7, 2) := by decide +kernel
theorem dX9_work_48 : decode cX9_work 48 = .ok (.putfield 70, 3) := by decide +kernel
theorem dX9_work_51 : decode cX9_work 51 = .ok (.aload_n 0, 1) := by decide +kernel
theorem dX9_work_52 : decode cX9_work 52 = .ok (.getfield 27, 3) := by decide +kernel
theorem dX9_work_55 : decode cX9_work 55 = .ok (.iload_n 3, 1) := by decide +kernel
theorem dX9_work_56 : decode cX9_work 56 = .ok (.bipush 24, 2) := by decide +kernel
theorem dX9_work_58 : decode cX9_work 58 = .ok (.imul, 1) := by decide +kernel
theorem dX9_work_59 : decode cX9_work 59 = .ok (.iload 7, 2) := by decide +kernel
theorem dX9_work_61 : decode cX9_work 61 = .ok (.iadd, 1) := by decide +kernel
theorem dX9_work_62 : decode cX9_work 62 = .ok (.iaload, 1) := by decide +kernel
theorem dX9_work_63 : decode cX9_work 63 = .ok (.istore 8, 2) := by decide +kernel
theorem dX9_work_65 : decode cX9_work 65 = .ok (.aload_n 0, 1) := by decide +kernel
theorem dX9_work_66 : decode cX9_work 66 = .ok (.getfield 30, 3) := by decide +kernel
theorem dX9_work_69 : decode cX9_work 69 = .ok (.iload_n 3, 1) := by decide +kernel
theorem dX9_work_70 : decode cX9_work 70 = .ok (.bipush 24, 2) := by decide +kernel
theorem dX9_work_72 : decode cX9_work 72 = .ok (.imul, 1) := by decide +kernel
theorem dX9_work_73 : decode cX9_work 73 = .ok (.iload 7, 2) := by decide +kernel
theorem dX9_work_75 : decode cX9_work 75 = .ok (.iadd, 1) := by decide +kernel
theorem dX9_work_76 : decode cX9_work 76 = .ok (.iaload, 1) := by decide +kernel
theorem dX9_work_77 : decode cX9_work 77 = .ok (.istore 9, 2) := by decide +kernel
theorem dX9_work_79 : decode cX9_work 79 = .ok (.iload 5, 2) := by decide +kernel
theorem dX9_work_81 : decode cX9_work 81 = .ok (.ifCond .le 15, 3) := by decide +kernel
theorem dX9_work_84 : decode cX9_work 84 = .ok (.aload_n 0, 1) := by decide +kernel
theorem dX9_work_85 : decode cX9_work 85 = .ok (.getfield 93, 3) := by decide +kernel
theorem dX9_work_88 : decode cX9_work 88 = .ok (.iload 5, 2) := by decide +kernel
theorem dX9_work_90 : decode cX9_work 90 = .ok (.iconst 1, 1) := by decide +kernel
theorem dX9_work_91 : decode cX9_work 91 = .ok (.isub, 1) := by decide +kernel
theorem dX9_work_92 : decode cX9_work 92 = .ok (.laload, 1) := by decide +kernel
theorem dX9_work_93 : decode cX9_work 93 = .ok (.goto 4, 3) := by decide +kernel
theorem dX9_work_96 : decode cX9_work 96 = .ok (.lconst 0, 1) := by decide +kernel
theorem dX9_work_97 : decode cX9_work 97 = .ok (.lstore 10, 2) := by decide +kernel
theorem dX9_work_99 : decode cX9_work 99 = .ok (.iload 5, 2) := by decide +kernel
theorem dX9_work_101 : decode cX9_work 101 = .ok (.iconst 1, 1) := by decide +kernel
theorem dX9_work_102 : decode cX9_work 102 = .ok (.if_icmp .le 15, 3) := by decide +kernel
theorem dX9_work_105 : decode cX9_work 105 = .ok (.aload_n 0, 1) := by decide +kernel
theorem dX9_work_106 : decode cX9_work 106 = .ok (.getfield 93, 3) := by decide +kernel
theorem dX9_work_109 : decode cX9_work 109 = .ok (.iload 5, 2) := by decide +kernel
theorem dX9_work_111 : decode cX9_work 111 = .ok (.iconst 2, 1) := by decide +kernel
theorem dX9_work_112 : decode cX9_work 112 = .ok (.isub, 1) := by decide +kernel
theorem dX9_work_113 : decode cX9_work 113 = .ok (.laload, 1) := by decide +kernel
theorem dX9_work_114 : decode cX9_work 114 = .ok (.goto 4, 3) := by decide +kernel
theorem dX9_work_117 : decode cX9_work 117 = .ok (.lconst 0, 1) := by decide +kernel
theorem dX9_work_118 : decode cX9_work 118 = .ok (.lstore 12, 2) := by decide +kernel
theorem dX9_work_120 : decode cX9_work 120 = .ok (.iload_n 2, 1) := by decide +kernel
theorem dX9_work_121 : decode cX9_work 121 = .ok (.sipush 240, 3) := by decide +kernel
theorem dX9_work_124 : decode cX9_work 124 = .ok (.if_icmp .ge 14, 3) := by decide +kernel
theorem dX9_work_127 : decode cX9_work 127 = .ok (.aload_n 1, 1) := by decide +kernel
theorem dX9_work_128 : decode cX9_work 128 = .ok (.sipush 212, 3) := by decide +kernel
theorem dX9_work_131 : decode cX9_work 131 = .ok (.iload 4, 2) := by decide +kernel
theorem dX9_work_133 : decode cX9_work 133 = .ok (.iadd, 1) := by decide +kernel
theorem dX9_work_134 : decode cX9_work 134 = .ok (.iaload, 1) := by decide +kernel
theorem dX9_work_135 : decode cX9_work 135 = .ok (.goto 5, 3) := by decide +kernel
theorem dX9_work_138 : decode cX9_work 138 = .ok (.iload 4, 2) := by decide +kernel
theorem dX9_work_140 : decode cX9_work 140 = .ok (.istore 14, 2) := by decide +kernel
theorem dX9_work_142 : decode cX9_work 142 = .ok (.iload 8, 2) := by decide +kernel
theorem dX9_work_144 : decode cX9_work 144 = .ok (.bipush 9, 2) := by decide +kernel
theorem dX9_work_146 : decode cX9_work 146 = .ok (.if_icmp .lt 21, 3) := by decide +kernel
theorem dX9_work_149 : decode cX9_work 149 = .ok (.iload 8, 2) := by decide +kernel
theorem dX9_work_151 : decode cX9_work 151 = .ok (.bipush 11, 2) := by decide +kernel
theorem dX9_work_153 : decode cX9_work 153 = .ok (.if_icmp .gt 14, 3) := by decide +kernel
theorem dX9_work_156 : decode cX9_work 156 = .ok (.aload_n 1, 1) := by decide +kernel
theorem dX9_work_157 : decode cX9_work 157 = .ok (.sipush 492, 3) := by decide +kernel
theorem dX9_work_160 : decode cX9_work 160 = .ok (.iload 14, 2) := by decide +kernel
theorem dX9_work_162 : decode cX9_work 162 = .ok (.iadd, 1) := by decide +kernel
theorem dX9_work_163 : decode cX9_work 163 = .ok (.iaload, 1) := by decide +kernel
theorem dX9_work_164 : decode cX9_work 164 = .ok (.goto 21, 3) := by decide +kernel
theorem dX9_work_167 : decode cX9_work 167 = .ok (.iload 8, 2) := by decide +kernel
theorem dX9_work_169 : decode cX9_work 169 = .ok (.iconst 1, 1) := by decide +kernel
theorem dX9_work_170 : decode cX9_work 170 = .ok (.if_icmp .lt 14, 3) := by decide +kernel
theorem dX9_work_173 : decode cX9_work 173 = .ok (.iload 8, 2) := by decide +kernel
theorem dX9_work_175 : decode cX9_work 175 = .ok (.bipush 13, 2) := by decide +kernel
theorem dX9_work_177 : decode cX9_work 177 = .ok (.if_icmp .gt 7, 3) := by decide +kernel
theorem dX9_work_180 : decode cX9_work 180 = .ok (.iconst 1, 1) := by decide +kernel
theorem dX9_work_181 : decode cX9_work 181 = .ok (.goto 4, 3) := by decide +kernel
theorem dX9_work_184 : decode cX9_work 184 = .ok (.iconst 0, 1) := by decide +kernel
theorem dX9_work_185 : decode cX9_work 185 = .ok (.istore 15, 2) := by decide +kernel
theorem dX9_work_187 : decode cX9_work 187 = .ok (.lconst 0, 1) := by decide +kernel
theorem dX9_work_188 : decode cX9_work 188 = .ok (.lstore 16, 2) := by decide +kernel
theorem dX9_work_190 : decode cX9_work 190 = .ok (.lload 10, 2) := by decide +kernel
theorem dX9_work_192 : decode cX9_work 192 = .ok (.lstore 18, 2) := by decide +kernel
theorem dX9_work_194 : decode cX9_work 194 = .ok (.iconst 0, 1) := by decide +kernel
theorem dX9_work_195 : decode cX9_work 195 = .ok (.istore 20, 2) := by decide +kernel
theorem dX9_work_197 : decode cX9_work 197 = .ok (.iload 20, 2) := by decide +kernel
theorem dX9_work_199 : decode cX9_work 199 = .ok (.iload 15, 2) := by decide +kernel
theorem dX9_work_201 : decode cX9_work 201 = .ok (.if_icmp .ge 79, 3) := by decide +kernel
theorem dX9_work_204 : decode cX9_work 204 = .ok (.aload_n 0, 1) := by decide +kernel
theorem dX9_work_205 : decode cX9_work 205 = .ok (.aload_n 1, 1) := by decide +kernel
theorem dX9_work_206 : decode cX9_work 206 = .ok (.aload_n 0, 1) := by decide +kernel
theorem dX9_work_207 : decode cX9_work 207 = .ok (.getfield 46, 3) := by decide +kernel
theorem dX9_work_210 : decode cX9_work 210 = .ok (.aload_n 0, 1) := by decide +kernel
theorem dX9_work_211 : decode cX9_work 211 = .ok (.getfield 73, 3) := by decide +kernel
theorem dX9_work_214 : decode cX9_work 214 = .ok (.iload 6, 2) := by decide +kernel
theorem dX9_work_216 : decode cX9_work 216 = .ok (.iload 20, 2) := by decide +kernel
theorem dX9_work_218 : decode cX9_work 218 = .ok (.iadd, 1) := by decide +kernel
theorem dX9_work_219 : decode cX9_work 219 = .ok (.iaload, 1) := by decide +kernel
theorem dX9_work_220 : decode cX9_work 220 = .ok (.iload 4, 2) := by decide +kernel
theorem dX9_work_222 : decode cX9_work 222 = .ok (.invokevirtual 188, 3) := by decide +kernel
theorem dX9_work_225 : decode cX9_work 225 = .ok (.lstore 21, 2) := by decide +kernel
theorem dX9_work_227 : decode cX9_work 227 = .ok (.lload 16, 2) := by decide +kernel
theorem dX9_work_229 : decode cX9_work 229 = .ok (.lload 21, 2) := by decide +kernel
theorem dX9_work_231 : decode cX9_work 231 = .ok (.ladd, 1) := by decide +kernel
theorem dX9_work_232 : decode cX9_work 232 = .ok (.lstore 16, 2) := by decide +kernel
theorem dX9_work_234 : decode cX9_work 234 = .ok (.iload 20, 2) := by decide +kernel
theorem dX9_work_236 : decode cX9_work 236 = .ok (.ifCond .eq 29, 3) := by decide +kernel
theorem dX9_work_239 : decode cX9_work 239 = .ok (.iload 8, 2) := by decide +kernel
theorem dX9_work_241 : decode cX9_work 241 = .ok (.bipush 10, 2) := by decide +kernel
theorem dX9_work_243 : decode cX9_work 243 = .ok (.if_icmp .ne 14, 3) := by decide +kernel
theorem dX9_work_246 : decode cX9_work 246 = .ok (.lload 21, 2) := by decide +kernel
theorem dX9_work_248 : decode cX9_work 248 = .ok (.lload 18, 2) := by decide +kernel
theorem dX9_work_250 : decode cX9_work 250 = .ok (.lcmp, 1) := by decide +kernel
theorem dX9_work_251 : decode cX9_work 251 = .ok (.ifCond .le 19, 3) := by decide +kernel
theorem dX9_work_254 : decode cX9_work 254 = .ok (.goto 11, 3) := by decide +kernel
theorem dX9_work_257 : decode cX9_work 257 = .ok (.lload 21, 2) := by decide +kernel
theorem dX9_work_259 : decode cX9_work 259 = .ok (.lload 18, 2) := by decide +kernel
theorem dX9_work_261 : decode cX9_work 261 = .ok (.lcmp, 1) := by decide +kernel
theorem dX9_work_262 : decode cX9_work 262 = .ok (.ifCond .ge 8, 3) := by decide +kernel
theorem dX9_work_265 : decode cX9_work 265 = .ok (.lload 21, 2) := by decide +kernel
theorem dX9_work_267 : decode cX9_work 267 = .ok (.goto 5, 3) := by decide +kernel
theorem dX9_work_270 : decode cX9_work 270 = .ok (.lload 18, 2) := by decide +kernel
theorem dX9_work_272 : decode cX9_work 272 = .ok (.lstore 18, 2) := by decide +kernel
theorem dX9_work_274 : decode cX9_work 274 = .ok (.iinc 20 1, 3) := by decide +kernel
theorem dX9_work_277 : decode cX9_work 277 = .ok (.goto (-80), 3) := by decide +kernel
theorem dX9_work_280 : decode cX9_work 280 = .ok (.iload 15, 2) := by decide +kernel
theorem dX9_work_282 : decode cX9_work 282 = .ok (.ifCond .le 17, 3) := by decide +kernel
theorem dX9_work_285 : decode cX9_work 285 = .ok (.aload_n 0, 1) := by decide +kernel
theorem dX9_work_286 : decode cX9_work 286 = .ok (.getfield 73, 3) := by decide +kernel
theorem dX9_work_289 : decode cX9_work 289 = .ok (.iload 6, 2) := by decide +kernel
theorem dX9_work_291 : decode cX9_work 291 = .ok (.iaload, 1) := by decide +kernel
theorem dX9_work_292 : decode cX9_work 292 = .ok (.ifCond .ne 7, 3) := by decide +kernel
theorem dX9_work_295 : decode cX9_work 295 = .ok (.iconst 1, 1) := by decide +kernel
theorem dX9_work_296 : decode cX9_work 296 = .ok (.goto 4, 3) := by decide +kernel
theorem dX9_work_299 : decode cX9_work 299 = .ok (.iconst 0, 1) := by decide +kernel
theorem dX9_work_300 : decode cX9_work 300 = .ok (.istore 20, 2) := by decide +kernel
theorem dX9_work_302 : decode cX9_work 302 = .ok (.iload 6, 2) := by decide +kernel
theorem dX9_work_304 : decode cX9_work 304 = .ok (.iload 15, 2) := by decide +kernel
theorem dX9_work_306 : decode cX9_work 306 = .ok (.iadd, 1) := by decide +kernel
theorem dX9_work_307 : decode cX9_work 307 = .ok (.istore 6, 2) := by decide +kernel
theorem dX9_work_309 : decode cX9_work 309 = .ok (.iload 8, 2) := by decide +kernel
theorem dX9_work_311 : decode cX9_work 311 = .ok (.tableswitch 452 0 23 #[109, 125, 125, 125, 125, 144, 144, 144, 125, 125, 168, 168, 144, 144, 192, 216, 240, 263, 298, 328, 358, 394, 412, 427], 109) := by decide +kernel
theorem dX9_work_420 : decode cX9_work 420 = .ok (.aload_n 0, 1) := by decide +kernel
theorem dX9_work_421 : decode cX9_work 421 = .ok (.getfield 93, 3) := by decide +kernel
theorem dX9_work_424 : decode cX9_work 424 = .ok (.iload 5, 2) := by decide +kernel
theorem dX9_work_426 : decode cX9_work 426 = .ok (.iinc 5 1, 3) := by decide +kernel
theorem dX9_work_429 : decode cX9_work 429 = .ok (.iload 9, 2) := by decide +kernel
theorem dX9_work_431 : decode cX9_work 431 = .ok (.i2l, 1) := by decide +kernel
theorem dX9_work_432 : decode cX9_work 432 = .ok (.lastore, 1) := by decide +kernel
theorem dX9_work_433 : decode cX9_work 433 = .ok (.goto 333, 3) := by decide +kernel
theorem dX9_work_436 : decode cX9_work 436 = .ok (.aload_n 0, 1) := by decide +kernel
theorem dX9_work_437 : decode cX9_work 437 = .ok (.getfield 93, 3) := by decide +kernel
theorem dX9_work_440 : decode cX9_work 440 = .ok (.iload 5, 2) := by decide +kernel
theorem dX9_work_442 : decode cX9_work 442 = .ok (.iinc 5 1, 3) := by decide +kernel
theorem dX9_work_445 : decode cX9_work 445 = .ok (.aload_n 0, 1) := by decide +kernel
theorem dX9_work_446 : decode cX9_work 446 = .ok (.lload 16, 2) := by decide +kernel
theorem dX9_work_448 : decode cX9_work 448 = .ok (.invokevirtual 192, 3) := by decide +kernel
theorem dX9_work_451 : decode cX9_work 451 = .ok (.lastore, 1) := by decide +kernel
theorem dX9_work_452 : decode cX9_work 452 = .ok (.goto 314, 3) := by decide +kernel
theorem dX9_work_455 : decode cX9_work 455 = .ok (.aload_n 0, 1) := by decide +kernel
theorem dX9_work_456 : decode cX9_work 456 = .ok (.getfield 93, 3) := by decide +kernel
theorem dX9_work_459 : decode cX9_work 459 = .ok (.iload 5, 2) := by decide +kernel
theorem dX9_work_461 : decode cX9_work 461 = .ok (.iconst 1, 1) := by decide +kernel
theorem dX9_work_462 : decode cX9_work 462 = .ok (.isub, 1) := by decide +kernel
theorem dX9_work_463 : decode cX9_work 463 = .ok (.iload 20, 2) := by decide +kernel
theorem dX9_work_465 : decode cX9_work 465 = .ok (.ifCond .eq 8, 3) := by decide +kernel
theorem dX9_work_468 : decode cX9_work 468 = .ok (.lload 10, 2) := by decide +kernel
theorem dX9_work_470 : decode cX9_work 470 = .ok (.goto 5, 3) := by decide +kernel
theorem dX9_work_473 : decode cX9_work 473 = .ok (.lload 16, 2) := by decide +kernel
theorem dX9_work_475 : decode cX9_work 475 = .ok (.lastore, 1) := by decide +kernel
theorem dX9_work_476 : decode cX9_work 476 = .ok (.goto 290, 3) := by decide +kernel
theorem dX9_work_479 : decode cX9_work 479 = .ok (.aload_n 0, 1) := by decide +kernel
theorem dX9_work_480 : decode cX9_work 480 = .ok (.getfield 93, 3) := by decide +kernel
theorem dX9_work_483 : decode cX9_work 483 = .ok (.iload 5, 2) := by decide +kernel
theorem dX9_work_485 : decode cX9_work 485 = .ok (.iconst 1, 1) := by decide +kernel
theorem dX9_work_486 : decode cX9_work 486 = .ok (.isub, 1) := by decide +kernel
theorem dX9_work_487 : decode cX9_work 487 = .ok (.iload 15, 2) := by decide +kernel
theorem dX9_work_489 : decode cX9_work 489 = .ok (.ifCond .ne 8, 3) := by decide +kernel
theorem dX9_work_492 : decode cX9_work 492 = .ok (.lload 10, 2) := by decide +kernel
theorem dX9_work_494 : decode cX9_work 494 = .ok (.goto 5, 3) := by decide +kernel
theorem dX9_work_497 : decode cX9_work 497 = .ok (.lload 18, 2) := by decide +kernel
theorem dX9_work_499 : decode cX9_work 499 = .ok (.lastore, 1) := by decide +kernel
theorem dX9_work_500 : decode cX9_work 500 = .ok (.goto 266, 3) := by decide +kernel
theorem dX9_work_503 : decode cX9_work 503 = .ok (.iinc 5 (-1), 3) := by decide +kernel
theorem dX9_work_506 : decode cX9_work 506 = .ok (.aload_n 0, 1) := by decide +kernel
theorem dX9_work_507 : decode cX9_work 507 = .ok (.getfield 93, 3) := by decide +kernel
theorem dX9_work_510 : decode cX9_work 510 = .ok (.iload 5, 2) := by decide +kernel
theorem dX9_work_512 : decode cX9_work 512 = .ok (.iconst 1, 1) := by decide +kernel
theorem dX9_work_513 : decode cX9_work 513 = .ok (.isub, 1) := by decide +kernel
theorem dX9_work_514 : decode cX9_work 514 = .ok (.aload_n 0, 1) := by decide +kernel
theorem dX9_work_515 : decode cX9_work 515 = .ok (.lload 12, 2) := by decide +kernel
theorem dX9_work_517 : decode cX9_work 517 = .ok (.lload 10, 2) := by decide +kernel
theorem dX9_work_519 : decode cX9_work 519 = .ok (.ladd, 1) := by decide +kernel
theorem dX9_work_520 : decode cX9_work 520 = .ok (.invokevirtual 192, 3) := by decide +kernel
theorem dX9_work_523 : decode cX9_work 523 = .ok (.lastore, 1) := by decide +kernel
theorem dX9_work_524 : decode cX9_work 524 = .ok (.goto 242, 3) := by decide +kernel
theorem dX9_work_527 : decode cX9_work 527 = .ok (.iinc 5 (-1), 3) := by decide +kernel
theorem dX9_work_530 : decode cX9_work 530 = .ok (.aload_n 0, 1) := by decide +kernel
theorem dX9_work_531 : decode cX9_work 531 = .ok (.getfield 93, 3) := by decide +kernel
theorem dX9_work_534 : decode cX9_work 534 = .ok (.iload 5, 2) := by decide +kernel
theorem dX9_work_536 : decode cX9_work 536 = .ok (.iconst 1, 1) := by decide +kernel
theorem dX9_work_537 : decode cX9_work 537 = .ok (.isub, 1) := by decide +kernel
theorem dX9_work_538 : decode cX9_work 538 = .ok (.aload_n 0, 1) := by decide +kernel
theorem dX9_work_539 : decode cX9_work 539 = .ok (.lload 12, 2) := by decide +kernel
theorem dX9_work_541 : decode cX9_work 541 = .ok (.lload 10, 2) := by decide +kernel
theorem dX9_work_543 : decode cX9_work 543 = .ok (.lsub, 1) := by decide +kernel
theorem dX9_work_544 : decode cX9_work 544 = .ok (.invokevirtual 192, 3) := by decide +kernel
theorem dX9_work_547 : decode cX9_work 547 = .ok (.lastore, 1) := by decide +kernel
theorem dX9_work_548 : decode cX9_work 548 = .ok (.goto 218, 3) := by decide +kernel
theorem dX9_work_551 : decode cX9_work 551 = .ok (.iinc 5 (-1), 3) := by decide +kernel
theorem dX9_work_554 : decode cX9_work 554 = .ok (.aload_n 0, 1) := by decide +kernel
theorem dX9_work_555 : decode cX9_work 555 = .ok (.getfield 93, 3) := by decide +kernel
theorem dX9_work_558 : decode cX9_work 558 = .ok (.iload 5, 2) := by decide +kernel
theorem dX9_work_560 : decode cX9_work 560 = .ok (.iconst 1, 1) := by decide +kernel
theorem dX9_work_561 : decode cX9_work 561 = .ok (.isub, 1) := by decide +kernel
theorem dX9_work_562 : decode cX9_work 562 = .ok (.aload_n 0, 1) := by decide +kernel
theorem dX9_work_563 : decode cX9_work 563 = .ok (.lload 12, 2) := by decide +kernel
theorem dX9_work_565 : decode cX9_work 565 = .ok (.lload 10, 2) := by decide +kernel
theorem dX9_work_567 : decode cX9_work 567 = .ok (.invokevirtual 196, 3) := by decide +kernel
theorem dX9_work_570 : decode cX9_work 570 = .ok (.lastore, 1) := by decide +kernel
theorem dX9_work_571 : decode cX9_work 571 = .ok (.goto 195, 3) := by decide +kernel
theorem dX9_work_574 : decode cX9_work 574 = .ok (.iinc 5 (-1), 3) := by decide +kernel
theorem dX9_work_577 : decode cX9_work 577 = .ok (.lload 10, 2) := by decide +kernel
theorem dX9_work_579 : decode cX9_work 579 = .ok (.lconst 0, 1) := by decide +kernel
theorem dX9_work_580 : decode cX9_work 580 = .ok (.lcmp, 1) := by decide +kernel
theorem dX9_work_581 : decode cX9_work 581 = .ok (.ifCond .ne 11, 3) := by decide +kernel
theorem dX9_work_584 : decode cX9_work 584 = .ok (.aload_n 0, 1) := by decide +kernel
theorem dX9_work_585 : decode cX9_work 585 = .ok (.iconst 1, 1) := by decide +kernel
theorem dX9_work_586 : decode cX9_work 586 = .ok (.putfield 67, 3) := by decide +kernel
theorem dX9_work_589 : decode cX9_work 589 = .ok (.goto 177, 3) := by decide +kernel
theorem dX9_work_592 : decode cX9_work 592 = .ok (.aload_n 0, 1) := by decide +kernel
theorem dX9_work_593 : decode cX9_work 593 = .ok (.getfield 93, 3) := by decide +kernel
theorem dX9_work_596 : decode cX9_work 596 = .ok (.iload 5, 2) := by decide +kernel
theorem dX9_work_598 : decode cX9_work 598 = .ok (.iconst 1, 1) := by decide +kernel
theorem dX9_work_599 : decode cX9_work 599 = .ok (.isub, 1) := by decide +kernel
theorem dX9_work_600 : decode cX9_work 600 = .ok (.lload 12, 2) := by decide +kernel
theorem dX9_work_602 : decode cX9_work 602 = .ok (.lload 10, 2) := by decide +kernel
theorem dX9_work_604 : decode cX9_work 604 = .ok (.ldiv, 1) := by decide +kernel
theorem dX9_work_605 : decode cX9_work 605 = .ok (.lastore, 1) := by decide +kernel
theorem dX9_work_606 : decode cX9_work 606 = .ok (.goto 160, 3) := by decide +kernel
theorem dX9_work_609 : decode cX9_work 609 = .ok (.iinc 5 (-1), 3) := by decide +kernel
theorem dX9_work_612 : decode cX9_work 612 = .ok (.aload_n 0, 1) := by decide +kernel
theorem dX9_work_613 : decode cX9_work 613 = .ok (.getfield 93, 3) := by decide +kernel
theorem dX9_work_616 : decode cX9_work 616 = .ok (.iload 5, 2) := by decide +kernel
theorem dX9_work_618 : decode cX9_work 618 = .ok (.iconst 1, 1) := by decide +kernel
theorem dX9_work_619 : decode cX9_work 619 = .ok (.isub, 1) := by decide +kernel
theorem dX9_work_620 : decode cX9_work 620 = .ok (.lload 10, 2) := by decide +kernel
theorem dX9_work_622 : decode cX9_work 622 = .ok (.lload 12, 2) := by decide +kernel
theorem dX9_work_624 : decode cX9_work 624 = .ok (.lcmp, 1) := by decide +kernel
theorem dX9_work_625 : decode cX9_work 625 = .ok (.ifCond .ge 8, 3) := by decide +kernel
theorem dX9_work_628 : decode cX9_work 628 = .ok (.lload 10, 2) := by decide +kernel
theorem dX9_work_630 : decode cX9_work 630 = .ok (.goto 5, 3) := by decide +kernel
theorem dX9_work_633 : decode cX9_work 633 = .ok (.lload 12, 2) := by decide +kernel
theorem dX9_work_635 : decode cX9_work 635 = .ok (.lastore, 1) := by decide +kernel
theorem dX9_work_636 : decode cX9_work 636 = .ok (.goto 130, 3) := by decide +kernel
theorem dX9_work_639 : decode cX9_work 639 = .ok (.iinc 5 (-1), 3) := by decide +kernel
theorem dX9_work_642 : decode cX9_work 642 = .ok (.aload_n 0, 1) := by decide +kernel
theorem dX9_work_643 : decode cX9_work 643 = .ok (.getfield 93, 3) := by decide +kernel
theorem dX9_work_646 : decode cX9_work 646 = .ok (.iload 5, 2) := by decide +kernel
theorem dX9_work_648 : decode cX9_work 648 = .ok (.iconst 1, 1) := by decide +kernel
theorem dX9_work_649 : decode cX9_work 649 = .ok (.isub, 1) := by decide +kernel
theorem dX9_work_650 : decode cX9_work 650 = .ok (.lload 10, 2) := by decide +kernel
theorem dX9_work_652 : decode cX9_work 652 = .ok (.lload 12, 2) := by decide +kernel
theorem dX9_work_654 : decode cX9_work 654 = .ok (.lcmp, 1) := by decide +kernel
theorem dX9_work_655 : decode cX9_work 655 = .ok (.ifCond .le 8, 3) := by decide +kernel
theorem dX9_work_658 : decode cX9_work 658 = .ok (.lload 10, 2) := by decide +kernel
theorem dX9_work_660 : decode cX9_work 660 = .ok (.goto 5, 3) := by decide +kernel
theorem dX9_work_663 : decode cX9_work 663 = .ok (.lload 12, 2) := by decide +kernel
theorem dX9_work_665 : decode cX9_work 665 = .ok (.lastore, 1) := by decide +kernel
theorem dX9_work_666 : decode cX9_work 666 = .ok (.goto 100, 3) := by decide +kernel
theorem dX9_work_669 : decode cX9_work 669 = .ok (.iinc 5 (-2), 3) := by decide +kernel
theorem dX9_work_672 : decode cX9_work 672 = .ok (.aload_n 0, 1) := by decide +kernel
theorem dX9_work_673 : decode cX9_work 673 = .ok (.getfield 93, 3) := by decide +kernel
theorem dX9_work_676 : decode cX9_work 676 = .ok (.iload 5, 2) := by decide +kernel
theorem dX9_work_678 : decode cX9_work 678 = .ok (.iconst 1, 1) := by decide +kernel
theorem dX9_work_679 : decode cX9_work 679 = .ok (.isub, 1) := by decide +kernel
theorem dX9_work_680 : decode cX9_work 680 = .ok (.aload_n 0, 1) := by decide +kernel
theorem dX9_work_681 : decode cX9_work 681 = .ok (.getfield 93, 3) := by decide +kernel
theorem dX9_work_684 : decode cX9_work 684 = .ok (.iload 5, 2) := by decide +kernel
theorem dX9_work_686 : decode cX9_work 686 = .ok (.iconst 1, 1) := by decide +kernel
theorem dX9_work_687 : decode cX9_work 687 = .ok (.isub, 1) := by decide +kernel
theorem dX9_work_688 : decode cX9_work 688 = .ok (.laload, 1) := by decide +kernel
theorem dX9_work_689 : decode cX9_work 689 = .ok (.lconst 0, 1) := by decide +kernel
theorem dX9_work_690 : decode cX9_work 690 = .ok (.lcmp, 1) := by decide +kernel
theorem dX9_work_691 : decode cX9_work 691 = .ok (.ifCond .le 8, 3) := by decide +kernel
theorem dX9_work_694 : decode cX9_work 694 = .ok (.lload 12, 2) := by decide +kernel
theorem dX9_work_696 : decode cX9_work 696 = .ok (.goto 5, 3) := by decide +kernel
theorem dX9_work_699 : decode cX9_work 699 = .ok (.lload 10, 2) := by decide +kernel
theorem dX9_work_701 : decode cX9_work 701 = .ok (.lastore, 1) := by decide +kernel
theorem dX9_work_702 : decode cX9_work 702 = .ok (.goto 64, 3) := by decide +kernel
theorem dX9_work_705 : decode cX9_work 705 = .ok (.iinc 5 (-1), 3) := by decide +kernel
theorem dX9_work_708 : decode cX9_work 708 = .ok (.lload 10, 2) := by decide +kernel
theorem dX9_work_710 : decode cX9_work 710 = .ok (.lconst 0, 1) := by decide +kernel
theorem dX9_work_711 : decode cX9_work 711 = .ok (.lcmp, 1) := by decide +kernel
theorem dX9_work_712 : decode cX9_work 712 = .ok (.ifCond .eq 54, 3) := by decide +kernel
theorem dX9_work_715 : decode cX9_work 715 = .ok (.aload_n 0, 1) := by decide +kernel
theorem dX9_work_716 : decode cX9_work 716 = .ok (.iconst 2, 1) := by decide +kernel
theorem dX9_work_717 : decode cX9_work 717 = .ok (.putfield 67, 3) := by decide +kernel
theorem dX9_work_720 : decode cX9_work 720 = .ok (.goto 46, 3) := by decide +kernel
theorem dX9_work_723 : decode cX9_work 723 = .ok (.aload_n 0, 1) := by decide +kernel
theorem dX9_work_724 : decode cX9_work 724 = .ok (.getfield 93, 3) := by decide +kernel
theorem dX9_work_727 : decode cX9_work 727 = .ok (.iload 5, 2) := by decide +kernel
theorem dX9_work_729 : decode cX9_work 729 = .ok (.iinc 5 1, 3) := by decide +kernel
theorem dX9_work_732 : decode cX9_work 732 = .ok (.lload 10, 2) := by decide +kernel
theorem dX9_work_734 : decode cX9_work 734 = .ok (.lastore, 1) := by decide +kernel
theorem dX9_work_735 : decode cX9_work 735 = .ok (.goto 31, 3) := by decide +kernel
theorem dX9_work_738 : decode cX9_work 738 = .ok (.aload_n 0, 1) := by decide +kernel
theorem dX9_work_739 : decode cX9_work 739 = .ok (.getfield 93, 3) := by decide +kernel
theorem dX9_work_742 : decode cX9_work 742 = .ok (.iload 5, 2) := by decide +kernel
theorem dX9_work_744 : decode cX9_work 744 = .ok (.iconst 1, 1) := by decide +kernel
theorem dX9_work_745 : decode cX9_work 745 = .ok (.isub, 1) := by decide +kernel
theorem dX9_work_746 : decode cX9_work 746 = .ok (.lload 12, 2) := by decide +kernel
theorem dX9_work_748 : decode cX9_work 748 = .ok (.lastore, 1) := by decide +kernel
theorem dX9_work_749 : decode cX9_work 749 = .ok (.aload_n 0, 1) := by decide +kernel
theorem dX9_work_750 : decode cX9_work 750 = .ok (.getfield 93, 3) := by decide +kernel
theorem dX9_work_753 : decode cX9_work 753 = .ok (.iload 5, 2) := by decide +kernel
theorem dX9_work_755 : decode cX9_work 755 = .ok (.iconst 2, 1) := by decide +kernel
theorem dX9_work_756 : decode cX9_work 756 = .ok (.isub, 1) := by decide +kernel
theorem dX9_work_757 : decode cX9_work 757 = .ok (.lload 10, 2) := by decide +kernel
theorem dX9_work_759 : decode cX9_work 759 = .ok (.lastore, 1) := by decide +kernel
theorem dX9_work_760 : decode cX9_work 760 = .ok (.goto 6, 3) := by decide +kernel
theorem dX9_work_763 : decode cX9_work 763 = .ok (.iinc 5 (-1), 3) := by decide +kernel
theorem dX9_work_766 : decode cX9_work 766 = .ok (.iinc 7 1, 3) := by decide +kernel
theorem dX9_work_769 : decode cX9_work 769 = .ok (.goto (-743), 3) := by decide +kernel
theorem dX9_work_772 : decode cX9_work 772 = .ok (.aload_n 0, 1) := by decide +kernel
theorem dX9_work_773 : decode cX9_work 773 = .ok (.getfield 93, 3) := by decide +kernel
theorem dX9_work_776 : decode cX9_work 776 = .ok (.iconst 0, 1) := by decide +kernel
theorem dX9_work_777 : decode cX9_work 777 = .ok (.laload, 1) := by decide +kernel
theorem dX9_work_778 : decode cX9_work 778 = .ok (.lreturn, 1) := by decide +kernel
theorem dX9_isTouched_0 : decode cX9_isTouched 0 = .ok (.iload_n 2, 1) := by decide +kernel
theorem dX9_isTouched_1 : decode cX9_isTouched 1 = .ok (.ifCond .ne 26, 3) := by decide +kernel
theorem dX9_isTouched_4 : decode cX9_isTouched 4 = .ok (.aload_n 0, 1) := by decide +kernel
theorem dX9_isTouched_5 : decode cX9_isTouched 5 = .ok (.aload_n 0, 1) := by decide +kernel
theorem dX9_isTouched_6 : decode cX9_isTouched 6 = .ok (.getfield 36, 3) := by decide +kernel
theorem dX9_isTouched_9 : decode cX9_isTouched 9 = .ok (.iload_n 1, 1) := by decide +kernel
theorem dX9_isTouched_10 : decode cX9_isTouched 10 = .ok (.invokevirtual 162, 3) := by decide +kernel
theorem dX9_isTouched_13 : decode cX9_isTouched 13 = .ok (.ifCond .eq 14, 3) := by decide +kernel
theorem dX9_isTouched_16 : decode cX9_isTouched 16 = .ok (.aload_n 0, 1) := by decide +kernel
theorem dX9_isTouched_17 : decode cX9_isTouched 17 = .ok (.getfield 36, 3) := by decide +kernel
theorem dX9_isTouched_20 : decode cX9_isTouched 20 = .ok (.iload_n 1, 1) := by decide +kernel
theorem dX9_isTouched_21 : decode cX9_isTouched 21 = .ok (.invokestatic 148, 3) := by decide +kernel
theorem dX9_isTouched_24 : decode cX9_isTouched 24 = .ok (.ifCond .eq 5, 3) := by decide +kernel
theorem dX9_isTouched_27 : decode cX9_isTouched 27 = .ok (.iconst 1, 1) := by decide +kernel
theorem dX9_isTouched_28 : decode cX9_isTouched 28 = .ok (.ireturn, 1) := by decide +kernel
theorem dX9_isTouched_29 : decode cX9_isTouched 29 = .ok (.aload_n 0, 1) := by decide +kernel
theorem dX9_isTouched_30 : decode cX9_isTouched 30 = .ok (.aload_n 0, 1) := by decide +kernel
theorem dX9_isTouched_31 : decode cX9_isTouched 31 = .ok (.getfield 36, 3) := by decide +kernel
theorem dX9_isTouched_34 : decode cX9_isTouched 34 = .ok (.iload_n 1, 1) := by decide +kernel
theorem dX9_isTouched_35 : decode cX9_isTouched 35 = .ok (.invokevirtual 165, 3) := by decide +kernel
theorem dX9_isTouched_38 : decode cX9_isTouched 38 = .ok (.aload_n 0, 1) := by decide +kernel
theorem dX9_isTouched_39 : decode cX9_isTouched 39 = .ok (.aload_n 0, 1) := by decide +kernel
theorem dX9_isTouched_40 : decode cX9_isTouched 40 = .ok (.getfield 141, 3) := by decide +kernel
theorem dX9_isTouched_43 : decode cX9_isTouched 43 = .ok (.putfield 200, 3) := by decide +kernel
theorem dX9_isTouched_46 : decode cX9_isTouched 46 = .ok (.aload_n 0, 1) := by decide +kernel
theorem dX9_isTouched_47 : decode cX9_isTouched 47 = .ok (.getfield 73, 3) := by decide +kernel
theorem dX9_isTouched_50 : decode cX9_isTouched 50 = .ok (.iconst 0, 1) := by decide +kernel
theorem dX9_isTouched_51 : decode cX9_isTouched 51 = .ok (.aload_n 0, 1) := by decide +kernel
theorem dX9_isTouched_52 : decode cX9_isTouched 52 = .ok (.getfield 76, 3) := by decide +kernel
theorem dX9_isTouched_55 : decode cX9_isTouched 55 = .ok (.iconst 0, 1) := by decide +kernel
theorem dX9_isTouched_56 : decode cX9_isTouched 56 = .ok (.aload_n 0, 1) := by decide +kernel
theorem dX9_isTouched_57 : decode cX9_isTouched 57 = .ok (.getfield 141, 3) := by decide +kernel
theorem dX9_isTouched_60 : decode cX9_isTouched 60 = .ok (.invokestatic 96, 3) := by decide +kernel
theorem dX9_isTouched_63 : decode cX9_isTouched 63 = .ok (.aload_n 0, 1) := by decide +kernel
theorem dX9_isTouched_64 : decode cX9_isTouched 64 = .ok (.aload_n 0, 1) := by decide +kernel
theorem dX9_isTouched_65 : decode cX9_isTouched 65 = .ok (.getfield 33, 3) := by decide +kernel
theorem dX9_isTouched_68 : decode cX9_isTouched 68 = .ok (.iload_n 1, 1) := by decide +kernel
theorem dX9_isTouched_69 : decode cX9_isTouched 69 = .ok (.invokevirtual 165, 3) := by decide +kernel
theorem dX9_isTouched_72 : decode cX9_isTouched 72 = .ok (.aload_n 0, 1) := by decide +kernel
theorem dX9_isTouched_73 : decode cX9_isTouched 73 = .ok (.getfield 141, 3) := by decide +kernel
theorem dX9_isTouched_76 : decode cX9_isTouched 76 = .ok (.aload_n 0, 1) := by decide +kernel
theorem dX9_isTouched_77 : decode cX9_isTouched 77 = .ok (.getfield 200, 3) := by decide +kernel
theorem dX9_isTouched_80 : decode cX9_isTouched 80 = .ok (.if_icmp .eq 5, 3) := by decide +kernel
theorem dX9_isTouched_83 : decode cX9_isTouched 83 = .ok (.iconst 1, 1) := by decide +kernel
theorem dX9_isTouched_84 : decode cX9_isTouched 84 = .ok (.ireturn, 1) := by decide +kernel
theorem dX9_isTouched_85 : decode cX9_isTouched 85 = .ok (.iload_n 1, 1) := by decide +kernel
theorem dX9_isTouched_86 : decode cX9_isTouched 86 = .ok (.invokestatic 130, 3) := by decide +kernel
theorem dX9_isTouched_89 : decode cX9_isTouched 89 = .ok (.istore_n 3, 1) := by decide +kernel
theorem dX9_isTouched_90 : decode cX9_isTouched 90 = .ok (.iconst 0, 1) := by decide +kernel
theorem dX9_isTouched_91 : decode cX9_isTouched 91 = .ok (.istore 4, 2) := by decide +kernel
theorem dX9_isTouched_93 : decode cX9_isTouched 93 = .ok (.iload 4, 2) := by decide +kernel
theorem dX9_isTouched_95 : decode cX9_isTouched 95 = .ok (.aload_n 0, 1) := by decide +kernel
theorem dX9_isTouched_96 : decode cX9_isTouched 96 = .ok (.getfield 141, 3) := by decide +kernel
theorem dX9_isTouched_99 : decode cX9_isTouched 99 = .ok (.if_icmp .ge 72, 3) := by decide +kernel
theorem dX9_isTouched_102 : decode cX9_isTouched 102 = .ok (.aload_n 0, 1) := by decide +kernel
theorem dX9_isTouched_103 : decode cX9_isTouched 103 = .ok (.getfield 73, 3) := by decide +kernel
theorem dX9_isTouched_106 : decode cX9_isTouched 106 = .ok (.iload 4, 2) := by decide +kernel
theorem dX9_isTouched_108 : decode cX9_isTouched 108 = .ok (.iaload, 1) := by decide +kernel
theorem dX9_isTouched_109 : decode cX9_isTouched 109 = .ok (.aload_n 0, 1) := by decide +kernel
theorem dX9_isTouched_110 : decode cX9_isTouched 110 = .ok (.getfield 76, 3) := by decide +kernel
theorem dX9_isTouched_113 : decode cX9_isTouched 113 = .ok (.iload 4, 2) := by decide +kernel
theorem dX9_isTouched_115 : decode cX9_isTouched 115 = .ok (.iaload, 1) := by decide +kernel
theorem dX9_isTouched_116 : decode cX9_isTouched 116 = .ok (.if_icmp .ne 47, 3) := by decide +kernel
theorem dX9_isTouched_119 : decode cX9_isTouched 119 = .ok (.aload_n 0, 1) := by decide +kernel
theorem dX9_isTouched_120 : decode cX9_isTouched 120 = .ok (.aload_n 0, 1) := by decide +kernel
theorem dX9_isTouched_121 : decode cX9_isTouched 121 = .ok (.getfield 33, 3) := by decide +kernel
theorem dX9_isTouched_124 : decode cX9_isTouched 124 = .ok (.aload_n 0, 1) := by decide +kernel
theorem dX9_isTouched_125 : decode cX9_isTouched 125 = .ok (.getfield 46, 3) := by decide +kernel
theorem dX9_isTouched_128 : decode cX9_isTouched 128 = .ok (.aload_n 0, 1) := by decide +kernel
theorem dX9_isTouched_129 : decode cX9_isTouched 129 = .ok (.getfield 73, 3) := by decide +kernel
theorem dX9_isTouched_132 : decode cX9_isTouched 132 = .ok (.iload 4, 2) := by decide +kernel
theorem dX9_isTouched_134 : decode cX9_isTouched 134 = .ok (.iaload, 1) := by decide +kernel
theorem dX9_isTouched_135 : decode cX9_isTouched 135 = .ok (.iload_n 3, 1) := by decide +kernel
theorem dX9_isTouched_136 : decode cX9_isTouched 136 = .ok (.invokevirtual 188, 3) := by decide +kernel
theorem dX9_isTouched_139 : decode cX9_isTouched 139 = .ok (.aload_n 0, 1) := by decide +kernel
theorem dX9_isTouched_140 : decode cX9_isTouched 140 = .ok (.aload_n 0, 1) := by decide +kernel
theorem dX9_isTouched_141 : decode cX9_isTouched 141 = .ok (.getfield 36, 3) := by decide +kernel
theorem dX9_isTouched_144 : decode cX9_isTouched 144 = .ok (.aload_n 0, 1) := by decide +kernel
theorem dX9_isTouched_145 : decode cX9_isTouched 145 = .ok (.getfield 42, 3) := by decide +kernel
theorem dX9_isTouched_148 : decode cX9_isTouched 148 = .ok (.aload_n 0, 1) := by decide +kernel
theorem dX9_isTouched_149 : decode cX9_isTouched 149 = .ok (.getfield 73, 3) := by decide +kernel
theorem dX9_isTouched_152 : decode cX9_isTouched 152 = .ok (.iload 4, 2) := by decide +kernel
theorem dX9_isTouched_154 : decode cX9_isTouched 154 = .ok (.iaload, 1) := by decide +kernel
theorem dX9_isTouched_155 : decode cX9_isTouched 155 = .ok (.iload_n 3, 1) := by decide +kernel
theorem dX9_isTouched_156 : decode cX9_isTouched 156 = .ok (.invokevirtual 188, 3) := by decide +kernel
theorem dX9_isTouched_159 : decode cX9_isTouched 159 = .ok (.lcmp, 1) := by decide +kernel
theorem dX9_isTouched_160 : decode cX9_isTouched 160 = .ok (.ifCond .eq 5, 3) := by decide +kernel
theorem dX9_isTouched_163 : decode cX9_isTouched 163 = .ok (.iconst 1, 1) := by decide +kernel
theorem dX9_isTouched_164 : decode cX9_isTouched 164 = .ok (.ireturn, 1) := by decide +kernel
theorem dX9_isTouched_165 : decode cX9_isTouched 165 = .ok (.iinc 4 1, 3) := by decide +kernel
theorem dX9_isTouched_168 : decode cX9_isTouched 168 = .ok (.goto (-75), 3) := by decide +kernel
theorem dX9_isTouched_171 : decode cX9_isTouched 171 = .ok (.iconst 0, 1) := by decide +kernel
theorem dX9_isTouched_172 : decode cX9_isTouched 172 = .ok (.ireturn, 1) := by decide +kernel
theorem dX9_judge_0 : decode cX9_judge 0 = .ok (.aload_n 0, 1) := by decide +kernel
theorem dX9_judge_1 : decode cX9_judge 1 = .ok (.iconst 0, 1) := by decide +kernel
theorem dX9_judge_2 : decode cX9_judge 2 = .ok (.putfield 181, 3) := by decide +kernel
theorem dX9_judge_5 : decode cX9_judge 5 = .ok (.aload_n 0, 1) := by decide +kernel
theorem dX9_judge_6 : decode cX9_judge 6 = .ok (.iconst 0, 1) := by decide +kernel
theorem dX9_judge_7 : decode cX9_judge 7 = .ok (.putfield 203, 3) := by decide +kernel
theorem dX9_judge_10 : decode cX9_judge 10 = .ok (.aload_n 0, 1) := by decide +kernel
theorem dX9_judge_11 : decode cX9_judge 11 = .ok (.iconst (-1), 1) := by decide +kernel
theorem dX9_judge_12 : decode cX9_judge 12 = .ok (.putfield 64, 3) := by decide +kernel
theorem dX9_judge_15 : decode cX9_judge 15 = .ok (.aload_n 0, 1) := by decide +kernel
theorem dX9_judge_16 : decode cX9_judge 16 = .ok (.iconst (-1), 1) := by decide +kernel
theorem dX9_judge_17 : decode cX9_judge 17 = .ok (.putfield 67, 3) := by decide +kernel
theorem dX9_judge_20 : decode cX9_judge 20 = .ok (.aload_n 0, 1) := by decide +kernel
theorem dX9_judge_21 : decode cX9_judge 21 = .ok (.iconst (-1), 1) := by decide +kernel
theorem dX9_judge_22 : decode cX9_judge 22 = .ok (.putfield 70, 3) := by decide +kernel
theorem dX9_judge_25 : decode cX9_judge 25 = .ok (.aload_n 0, 1) := by decide +kernel
theorem dX9_judge_26 : decode cX9_judge 26 = .ok (.iconst 0, 1) := by decide +kernel
theorem dX9_judge_27 : decode cX9_judge 27 = .ok (.putfield 206, 3) := by decide +kernel
theorem dX9_judge_30 : decode cX9_judge 30 = .ok (.aload_n 0, 1) := by decide +kernel
theorem dX9_judge_31 : decode cX9_judge 31 = .ok (.aload_n 0, 1) := by decide +kernel
theorem dX9_judge_32 : decode cX9_judge 32 = .ok (.getfield 33, 3) := by decide +kernel
theorem dX9_judge_35 : decode cX9_judge 35 = .ok (.invokevirtual 209, 3) := by decide +kernel
theorem dX9_judge_38 : decode cX9_judge 38 = .ok (.ifCond .ne 22, 3) := by decide +kernel
theorem dX9_judge_41 : decode cX9_judge 41 = .ok (.aload_n 0, 1) := by decide +kernel
theorem dX9_judge_42 : decode cX9_judge 42 = .ok (.aload_n 0, 1) := by decide +kernel
theorem dX9_judge_43 : decode cX9_judge 43 = .ok (.getfield 33, 3) := by decide +kernel
theorem dX9_judge_46 : decode cX9_judge 46 = .ok (.invokevirtual 213, 3) := by decide +kernel
theorem dX9_judge_49 : decode cX9_judge 49 = .ok (.aload_n 0, 1) := by decide +kernel
theorem dX9_judge_50 : decode cX9_judge 50 = .ok (.iconst 1, 1) := by decide +kernel
theorem dX9_judge_51 : decode cX9_judge 51 = .ok (.putfield 203, 3) := by decide +kernel
theorem dX9_judge_54 : decode cX9_judge 54 = .ok (.aload_n 0, 1) := by decide +kernel
theorem dX9_judge_55 : decode cX9_judge 55 = .ok (.iconst (-1), 1) := by decide +kernel
theorem dX9_judge_56 : decode cX9_judge 56 = .ok (.invokevirtual 217, 3) := by decide +kernel
theorem dX9_judge_59 : decode cX9_judge 59 = .ok (.ireturn, 1) := by decide +kernel
theorem dX9_judge_60 : decode cX9_judge 60 = .ok (.iconst 0, 1) := by decide +kernel
theorem dX9_judge_61 : decode cX9_judge 61 = .ok (.istore_n 2, 1) := by decide +kernel
theorem dX9_judge_62 : decode cX9_judge 62 = .ok (.iload_n 2, 1) := by decide +kernel
theorem dX9_judge_63 : decode cX9_judge 63 = .ok (.sipush 258, 3) := by decide +kernel
theorem dX9_judge_66 : decode cX9_judge 66 = .ok (.if_icmp .ge 53, 3) := by decide +kernel
theorem dX9_judge_69 : decode cX9_judge 69 = .ok (.aload_n 0, 1) := by decide +kernel
theorem dX9_judge_70 : decode cX9_judge 70 = .ok (.getfield 46, 3) := by decide +kernel
theorem dX9_judge_73 : decode cX9_judge 73 = .ok (.iload_n 2, 1) := by decide +kernel
theorem dX9_judge_74 : decode cX9_judge 74 = .ok (.aload_n 0, 1) := by decide +kernel
theorem dX9_judge_75 : decode cX9_judge 75 = .ok (.aload_n 0, 1) := by decide +kernel
theorem dX9_judge_76 : decode cX9_judge 76 = .ok (.getfield 33, 3) := by decide +kernel
theorem dX9_judge_79 : decode cX9_judge 79 = .ok (.iload_n 2, 1) := by decide +kernel
theorem dX9_judge_80 : decode cX9_judge 80 = .ok (.invokevirtual 162, 3) := by decide +kernel
theorem dX9_judge_83 : decode cX9_judge 83 = .ok (.ifCond .eq 28, 3) := by decide +kernel
theorem dX9_judge_86 : decode cX9_judge 86 = .ok (.iload_n 1, 1) := by decide +kernel
theorem dX9_judge_87 : decode cX9_judge 87 = .ok (.ifCond .ne 24, 3) := by decide +kernel
theorem dX9_judge_90 : decode cX9_judge 90 = .ok (.aload_n 0, 1) := by decide +kernel
theorem dX9_judge_91 : decode cX9_judge 91 = .ok (.aload_n 0, 1) := by decide +kernel
theorem dX9_judge_92 : decode cX9_judge 92 = .ok (.getfield 36, 3) := by decide +kernel
theorem dX9_judge_95 : decode cX9_judge 95 = .ok (.iload_n 2, 1) := by decide +kernel
theorem dX9_judge_96 : decode cX9_judge 96 = .ok (.invokevirtual 162, 3) := by decide +kernel
theorem dX9_judge_99 : decode cX9_judge 99 = .ok (.ifCond .eq 12, 3) := by decide +kernel
theorem dX9_judge_102 : decode cX9_judge 102 = .ok (.aload_n 0, 1) := by decide +kernel
theorem dX9_judge_103 : decode cX9_judge 103 = .ok (.getfield 42, 3) := by decide +kernel
theorem dX9_judge_106 : decode cX9_judge 106 = .ok (.iload_n 2, 1) := by decide +kernel
theorem dX9_judge_107 : decode cX9_judge 107 = .ok (.laload, 1) := by decide +kernel
theorem dX9_judge_108 : decode cX9_judge 108 = .ok (.goto 4, 3) := by decide +kernel
theorem dX9_judge_111 : decode cX9_judge 111 = .ok (.lconst 0, 1) := by decide +kernel
theorem dX9_judge_112 : decode cX9_judge 112 = .ok (.lastore, 1) := by decide +kernel
theorem dX9_judge_113 : decode cX9_judge 113 = .ok (.iinc 2 1, 3) := by decide +kernel
theorem dX9_judge_116 : decode cX9_judge 116 = .ok (.goto (-54), 3) := by decide +kernel
theorem dX9_judge_119 : decode cX9_judge 119 = .ok (.iconst 0, 1) := by decide +kernel
theorem dX9_judge_120 : decode cX9_judge 120 = .ok (.istore_n 2, 1) := by decide +kernel
theorem dX9_judge_121 : decode cX9_judge 121 = .ok (.iload_n 2, 1) := by decide +kernel
theorem dX9_judge_122 : decode cX9_judge 122 = .ok (.aload_n 0, 1) := by decide +kernel
theorem dX9_judge_123 : decode cX9_judge 123 = .ok (.getfield 172, 3) := by decide +kernel
theorem dX9_judge_126 : decode cX9_judge 126 = .ok (.if_icmp .ge 103, 3) := by decide +kernel
theorem dX9_judge_129 : decode cX9_judge 129 = .ok (.aload_n 0, 1) := by decide +kernel
theorem dX9_judge_130 : decode cX9_judge 130 = .ok (.getfield 79, 3) := by decide +kernel
theorem dX9_judge_133 : decode cX9_judge 133 = .ok (.iload_n 2, 1) := by decide +kernel
theorem dX9_judge_134 : decode cX9_judge 134 = .ok (.iaload, 1) := by decide +kernel
theorem dX9_judge_135 : decode cX9_judge 135 = .ok (.istore_n 3, 1) := by decide +kernel
theorem dX9_judge_136 : decode cX9_judge 136 = .ok (.aload_n 0, 1) := by decide +kernel
theorem dX9_judge_137 : decode cX9_judge 137 = .ok (.getfield 33, 3) := by decide +kernel
theorem dX9_judge_140 : decode cX9_judge 140 = .ok (.iload_n 3, 1) := by decide +kernel
theorem dX9_judge_141 : decode cX9_judge 141 = .ok (.invokestatic 148, 3) := by decide +kernel
theorem dX9_judge_144 : decode cX9_judge 144 = .ok (.ifCond .ne 79, 3) := by decide +kernel
theorem dX9_judge_147 : decode cX9_judge 147 = .ok (.aload_n 0, 1) := by decide +kernel
theorem dX9_judge_148 : decode cX9_judge 148 = .ok (.iload_n 3, 1) := by decide +kernel
theorem dX9_judge_149 : decode cX9_judge 149 = .ok (.iload_n 1, 1) := by decide +kernel
theorem dX9_judge_150 : decode cX9_judge 150 = .ok (.invokevirtual 220, 3) := by decide +kernel
theorem dX9_judge_153 : decode cX9_judge 153 = .ok (.ifCond .ne 6, 3) := by decide +kernel
theorem dX9_judge_156 : decode cX9_judge 156 = .ok (.goto 67, 3) := by decide +kernel
theorem dX9_judge_159 : decode cX9_judge 159 = .ok (.aload_n 0, 1) := by decide +kernel
theorem dX9_judge_160 : decode cX9_judge 160 = .ok (.aload_n 0, 1) := by decide +kernel
theorem dX9_judge_161 : decode cX9_judge 161 = .ok (.getfield 33, 3) := by decide +kernel
theorem dX9_judge_164 : decode cX9_judge 164 = .ok (.iload_n 3, 1) := by decide +kernel
theorem dX9_judge_165 : decode cX9_judge 165 = .ok (.invokevirtual 224, 3) := by decide +kernel
theorem dX9_judge_168 : decode cX9_judge 168 = .ok (.lstore 4, 2) := by decide +kernel
theorem dX9_judge_170 : decode cX9_judge 170 = .ok (.aload_n 0, 1) := by decide +kernel
theorem dX9_judge_171 : decode cX9_judge 171 = .ok (.getfield 67, 3) := by decide +kernel
theorem dX9_judge_174 : decode cX9_judge 174 = .ok (.iconst (-1), 1) := by decide +kernel
theorem dX9_judge_175 : decode cX9_judge 175 = .ok (.if_icmp .eq 20, 3) := by decide +kernel
theorem dX9_judge_178 : decode cX9_judge 178 = .ok (.aload_n 0, 1) := by decide +kernel
theorem dX9_judge_179 : decode cX9_judge 179 = .ok (.iload_n 3, 1) := by decide +kernel
theorem dX9_judge_180 : decode cX9_judge 180 = .ok (.putfield 64, 3) := by decide +kernel
theorem dX9_judge_183 : decode cX9_judge 183 = .ok (.aload_n 0, 1) := by decide +kernel
theorem dX9_judge_184 : decode cX9_judge 184 = .ok (.iconst 2, 1) := by decide +kernel
theorem dX9_judge_185 : decode cX9_judge 185 = .ok (.putfield 203, 3) := by decide +kernel
theorem dX9_judge_188 : decode cX9_judge 188 = .ok (.aload_n 0, 1) := by decide +kernel
theorem dX9_judge_189 : decode cX9_judge 189 = .ok (.bipush (-2), 2) := by decide +kernel
theorem dX9_judge_191 : decode cX9_judge 191 = .ok (.invokevirtual 217, 3) := by decide +kernel
theorem dX9_judge_194 : decode cX9_judge 194 = .ok (.ireturn, 1) := by decide +kernel
theorem dX9_judge_195 : decode cX9_judge 195 = .ok (.aload_n 0, 1) := by decide +kernel
theorem dX9_judge_196 : decode cX9_judge 196 = .ok (.getfield 46, 3) := by decide +kernel
theorem dX9_judge_199 : decode cX9_judge 199 = .ok (.iload_n 3, 1) := by decide +kernel
theorem dX9_judge_200 : decode cX9_judge 200 = .ok (.lload 4, 2) := by decide +kernel
theorem dX9_judge_202 : decode cX9_judge 202 = .ok (.lastore, 1) := by decide +kernel
theorem dX9_judge_203 : decode cX9_judge 203 = .ok (.aload_n 0, 1) := by decide +kernel
theorem dX9_judge_204 : decode cX9_judge 204 = .ok (.getfield 58, 3) := by decide +kernel
theorem dX9_judge_207 : decode cX9_judge 207 = .ok (.aload_n 0, 1) := by decide +kernel
theorem dX9_judge_208 : decode cX9_judge 208 = .ok (.getfield 206, 3) := by decide +kernel
theorem dX9_judge_211 : decode cX9_judge 211 = .ok (.iload_n 3, 1) := by decide +kernel
theorem dX9_judge_212 : decode cX9_judge 212 = .ok (.iastore, 1) := by decide +kernel
theorem dX9_judge_213 : decode cX9_judge 213 = .ok (.aload_n 0, 1) := by decide +kernel
theorem dX9_judge_214 : decode cX9_judge 214 = .ok (.dup, 1) := by decide +kernel
theorem dX9_judge_215 : decode cX9_judge 215 = .ok (.getfield 206, 3) := by decide +kernel
theorem dX9_judge_218 : decode cX9_judge 218 = .ok (.iconst 1, 1) := by decide +kernel
theorem dX9_judge_219 : decode cX9_judge 219 = .ok (.iadd, 1) := by decide +kernel
theorem dX9_judge_220 : decode cX9_judge 220 = .ok (.putfield 206, 3) := by decide +kernel
theorem dX9_judge_223 : decode cX9_judge 223 = .ok (.iinc 2 1, 3) := by decide +kernel
theorem dX9_judge_226 : decode cX9_judge 226 = .ok (.goto (-105), 3) := by decide +kernel
theorem dX9_judge_229 : decode cX9_judge 229 = .ok (.aload_n 0, 1) := by decide +kernel
theorem dX9_judge_230 : decode cX9_judge 230 = .ok (.iconst (-1), 1) := by decide +kernel
theorem dX9_judge_231 : decode cX9_judge 231 = .ok (.putfield 70, 3) := by decide +kernel
theorem dX9_judge_234 : decode cX9_judge 234 = .ok (.iload_n 1, 1) := by decide +kernel
theorem dX9_judge_235 : decode cX9_judge 235 = .ok (.ifCond .ne 7, 3) := by decide +kernel
theorem dX9_judge_238 : decode cX9_judge 238 = .ok (.aload_n 0, 1) := by decide +kernel
theorem dX9_judge_239 : decode cX9_judge 239 = .ok (.invokevirtual 228, 3) := by decide +kernel
theorem dX9_judge_242 : decode cX9_judge 242 = .ok (.aload_n 0, 1) := by decide +kernel
theorem dX9_judge_243 : decode cX9_judge 243 = .ok (.getfield 33, 3) := by decide +kernel
theorem dX9_judge_246 : decode cX9_judge 246 = .ok (.iconst 0, 1) := by decide +kernel
theorem dX9_judge_247 : decode cX9_judge 247 = .ok (.aload_n 0, 1) := by decide +kernel
theorem dX9_judge_248 : decode cX9_judge 248 = .ok (.getfield 36, 3) := by decide +kernel
theorem dX9_judge_251 : decode cX9_judge 251 = .ok (.iconst 0, 1) := by decide +kernel
theorem dX9_judge_252 : decode cX9_judge 252 = .ok (.sipush 504, 3) := by decide +kernel
theorem dX9_judge_255 : decode cX9_judge 255 = .ok (.invokestatic 96, 3) := by decide +kernel
theorem dX9_judge_258 : decode cX9_judge 258 = .ok (.aload_n 0, 1) := by decide +kernel
theorem dX9_judge_259 : decode cX9_judge 259 = .ok (.getfield 46, 3) := by decide +kernel
theorem dX9_judge_262 : decode cX9_judge 262 = .ok (.iconst 0, 1) := by decide +kernel
theorem dX9_judge_263 : decode cX9_judge 263 = .ok (.aload_n 0, 1) := by decide +kernel
theorem dX9_judge_264 : decode cX9_judge 264 = .ok (.getfield 42, 3) := by decide +kernel
theorem dX9_judge_267 : decode cX9_judge 267 = .ok (.iconst 0, 1) := by decide +kernel
theorem dX9_judge_268 : decode cX9_judge 268 = .ok (.sipush 258, 3) := by decide +kernel
theorem dX9_judge_271 : decode cX9_judge 271 = .ok (.invokestatic 231, 3) := by decide +kernel
theorem dX9_judge_274 : decode cX9_judge 274 = .ok (.aload_n 0, 1) := by decide +kernel
theorem dX9_judge_275 : decode cX9_judge 275 = .ok (.aload_n 0, 1) := by decide +kernel
theorem dX9_judge_276 : decode cX9_judge 276 = .ok (.getfield 206, 3) := by decide +kernel
theorem dX9_judge_279 : decode cX9_judge 279 = .ok (.putfield 235, 3) := by decide +kernel
theorem dX9_judge_282 : decode cX9_judge 282 = .ok (.aload_n 0, 1) := by decide +kernel
theorem dX9_judge_283 : decode cX9_judge 283 = .ok (.getfield 58, 3) := by decide +kernel
theorem dX9_judge_286 : decode cX9_judge 286 = .ok (.iconst 0, 1) := by decide +kernel
theorem dX9_judge_287 : decode cX9_judge 287 = .ok (.aload_n 0, 1) := by decide +kernel
theorem dX9_judge_288 : decode cX9_judge 288 = .ok (.getfield 55, 3) := by decide +kernel
theorem dX9_judge_291 : decode cX9_judge 291 = .ok (.iconst 0, 1) := by decide +kernel
theorem dX9_judge_292 : decode cX9_judge 292 = .ok (.aload_n 0, 1) := by decide +kernel
theorem dX9_judge_293 : decode cX9_judge 293 = .ok (.getfield 206, 3) := by decide +kernel
theorem dX9_judge_296 : decode cX9_judge 296 = .ok (.invokestatic 96, 3) := by decide +kernel
theorem dX9_judge_299 : decode cX9_judge 299 = .ok (.aload_n 0, 1) := by decide +kernel
theorem dX9_judge_300 : decode cX9_judge 300 = .ok (.dup, 1) := by decide +kernel
theorem dX9_judge_301 : decode cX9_judge 301 = .ok (.getfield 238, 3) := by decide +kernel
theorem dX9_judge_304 : decode cX9_judge 304 = .ok (.aload_n 0, 1) := by decide +kernel
theorem dX9_judge_305 : decode cX9_judge 305 = .ok (.getfield 206, 3) := by decide +kernel
theorem dX9_judge_308 : decode cX9_judge 308 = .ok (.iadd, 1) := by decide +kernel
theorem dX9_judge_309 : decode cX9_judge 309 = .ok (.putfield 238, 3) := by decide +kernel
theorem dX9_judge_312 : decode cX9_judge 312 = .ok (.aload_n 0, 1) := by decide +kernel
theorem dX9_judge_313 : decode cX9_judge 313 = .ok (.getfield 206, 3) := by decide +kernel
theorem dX9_judge_316 : decode cX9_judge 316 = .ok (.ireturn, 1) := by decide +kernel
theorem dX9_refuse_0 : decode cX9_refuse 0 = .ok (.aload_n 0, 1) := by decide +kernel
theorem dX9_refuse_1 : decode cX9_refuse 1 = .ok (.getfield 36, 3) := by decide +kernel
theorem dX9_refuse_4 : decode cX9_refuse 4 = .ok (.iconst 0, 1) := by decide +kernel
theorem dX9_refuse_5 : decode cX9_refuse 5 = .ok (.aload_n 0, 1) := by decide +kernel
theorem dX9_refuse_6 : decode cX9_refuse 6 = .ok (.getfield 33, 3) := by decide +kernel
theorem dX9_refuse_9 : decode cX9_refuse 9 = .ok (.iconst 0, 1) := by decide +kernel
theorem dX9_refuse_10 : decode cX9_refuse 10 = .ok (.sipush 504, 3) := by decide +kernel
theorem dX9_refuse_13 : decode cX9_refuse 13 = .ok (.invokestatic 96, 3) := by decide +kernel
theorem dX9_refuse_16 : decode cX9_refuse 16 = .ok (.aload_n 0, 1) := by decide +kernel
theorem dX9_refuse_17 : decode cX9_refuse 17 = .ok (.dup, 1) := by decide +kernel
theorem dX9_refuse_18 : decode cX9_refuse 18 = .ok (.getfield 241, 3) := by decide +kernel
theorem dX9_refuse_21 : decode cX9_refuse 21 = .ok (.iconst 1, 1) := by decide +kernel
theorem dX9_refuse_22 : decode cX9_refuse 22 = .ok (.iadd, 1) := by decide +kernel
theorem dX9_refuse_23 : decode cX9_refuse 23 = .ok (.putfield 241, 3) := by decide +kernel
theorem dX9_refuse_26 : decode cX9_refuse 26 = .ok (.iload_n 1, 1) := by decide +kernel
theorem dX9_refuse_27 : decode cX9_refuse 27 = .ok (.ireturn, 1) := by decide +kernel
theorem dX9_keep_0 : decode cX9_keep 0 = .ok (.aload_n 0, 1) := by decide +kernel
theorem dX9_keep_1 : decode cX9_keep 1 = .ok (.getfield 244, 3) := by decide +kernel
theorem dX9_keep_4 : decode cX9_keep 4 = .ok (.bipush 60, 2) := by decide +kernel
theorem dX9_keep_6 : decode cX9_keep 6 = .ok (.if_icmp .ne 49, 3) := by decide +kernel
theorem dX9_keep_9 : decode cX9_keep 9 = .ok (.aload_n 0, 1) := by decide +kernel
theorem dX9_keep_10 : decode cX9_keep 10 = .ok (.getfield 49, 3) := by decide +kernel
theorem dX9_keep_13 : decode cX9_keep 13 = .ok (.sipush 504, 3) := by decide +kernel
theorem dX9_keep_16 : decode cX9_keep 16 = .ok (.aload_n 0, 1) := by decide +kernel
theorem dX9_keep_17 : decode cX9_keep 17 = .ok (.getfield 49, 3) := by decide +kernel
theorem dX9_keep_20 : decode cX9_keep 20 = .ok (.iconst 0, 1) := by decide +kernel
theorem dX9_keep_21 : decode cX9_keep 21 = .ok (.sipush 29736, 3) := by decide +kernel
theorem dX9_keep_24 : decode cX9_keep 24 = .ok (.invokestatic 96, 3) := by decide +kernel
theorem dX9_keep_27 : decode cX9_keep 27 = .ok (.aload_n 0, 1) := by decide +kernel
theorem dX9_keep_28 : decode cX9_keep 28 = .ok (.getfield 52, 3) := by decide +kernel
theorem dX9_keep_31 : decode cX9_keep 31 = .ok (.sipush 258, 3) := by decide +kernel
theorem dX9_keep_34 : decode cX9_keep 34 = .ok (.aload_n 0, 1) := by decide +kernel
theorem dX9_keep_35 : decode cX9_keep 35 = .ok (.getfield 52, 3) := by decide +kernel
theorem dX9_keep_38 : decode cX9_keep 38 = .ok (.iconst 0, 1) := by decide +kernel
theorem dX9_keep_39 : decode cX9_keep 39 = .ok (.sipush 15222, 3) := by decide +kernel
theorem dX9_keep_42 : decode cX9_keep 42 = .ok (.invokestatic 231, 3) := by decide +kernel
theorem dX9_keep_45 : decode cX9_keep 45 = .ok (.aload_n 0, 1) := by decide +kernel
theorem dX9_keep_46 : decode cX9_keep 46 = .ok (.dup, 1) := by decide +kernel
theorem dX9_keep_47 : decode cX9_keep 47 = .ok (.getfield 244, 3) := by decide +kernel
theorem dX9_keep_50 : decode cX9_keep 50 = .ok (.iconst 1, 1) := by decide +kernel
theorem dX9_keep_51 : decode cX9_keep 51 = .ok (.isub, 1) := by decide +kernel
theorem dX9_keep_52 : decode cX9_keep 52 = .ok (.putfield 244, 3) := by decide +kernel
theorem dX9_keep_55 : decode cX9_keep 55 = .ok (.aload_n 0, 1) := by decide +kernel
theorem dX9_keep_56 : decode cX9_keep 56 = .ok (.getfield 36, 3) := by decide +kernel
theorem dX9_keep_59 : decode cX9_keep 59 = .ok (.iconst 0, 1) := by decide +kernel
theorem dX9_keep_60 : decode cX9_keep 60 = .ok (.aload_n 0, 1) := by decide +kernel
theorem dX9_keep_61 : decode cX9_keep 61 = .ok (.getfield 49, 3) := by decide +kernel
theorem dX9_keep_64 : decode cX9_keep 64 = .ok (.aload_n 0, 1) := by decide +kernel
theorem dX9_keep_65 : decode cX9_keep 65 = .ok (.getfield 244, 3) := by decide +kernel
theorem dX9_keep_68 : decode cX9_keep 68 = .ok (.sipush 504, 3) := by decide +kernel
theorem dX9_keep_71 : decode cX9_keep 71 = .ok (.imul, 1) := by decide +kernel
theorem dX9_keep_72 : decode cX9_keep 72 = .ok (.sipush 504, 3) := by decide +kernel
theorem dX9_keep_75 : decode cX9_keep 75 = .ok (.invokestatic 96, 3) := by decide +kernel
theorem dX9_keep_78 : decode cX9_keep 78 = .ok (.aload_n 0, 1) := by decide +kernel
theorem dX9_keep_79 : decode cX9_keep 79 = .ok (.getfield 42, 3) := by decide +kernel
theorem dX9_keep_82 : decode cX9_keep 82 = .ok (.iconst 0, 1) := by decide +kernel
theorem dX9_keep_83 : decode cX9_keep 83 = .ok (.aload_n 0, 1) := by decide +kernel
theorem dX9_keep_84 : decode cX9_keep 84 = .ok (.getfield 52, 3) := by decide +kernel
theorem dX9_keep_87 : decode cX9_keep 87 = .ok (.aload_n 0, 1) := by decide +kernel
theorem dX9_keep_88 : decode cX9_keep 88 = .ok (.getfield 244, 3) := by decide +kernel
theorem dX9_keep_91 : decode cX9_keep 91 = .ok (.sipush 258, 3) := by decide +kernel
theorem dX9_keep_94 : decode cX9_keep 94 = .ok (.imul, 1) := by decide +kernel
theorem dX9_keep_95 : decode cX9_keep 95 = .ok (.sipush 258, 3) := by decide +kernel
theorem dX9_keep_98 : decode cX9_keep 98 = .ok (.invokestatic 231, 3) := by decide +kernel
theorem dX9_keep_101 : decode cX9_keep 101 = .ok (.aload_n 0, 1) := by decide +kernel
theorem dX9_keep_102 : decode cX9_keep 102 = .ok (.dup, 1) := by decide +kernel
theorem dX9_keep_103 : decode cX9_keep 103 = .ok (.getfield 244, 3) := by decide +kernel
theorem dX9_keep_106 : decode cX9_keep 106 = .ok (.iconst 1, 1) := by decide +kernel
theorem dX9_keep_107 : decode cX9_keep 107 = .ok (.iadd, 1) := by decide +kernel
theorem dX9_keep_108 : decode cX9_keep 108 = .ok (.putfield 244, 3) := by decide +kernel
theorem dX9_keep_111 : decode cX9_keep 111 = .ok (.return_, 1) := by decide +kernel
theorem dX9_done_0 : decode cX9_done 0 = .ok (.iconst 0, 1) := by decide +kernel
theorem dX9_done_1 : decode cX9_done 1 = .ok (.istore_n 1, 1) := by decide +kernel
theorem dX9_done_2 : decode cX9_done 2 = .ok (.iload_n 1, 1) := by decide +kernel
theorem dX9_done_3 : decode cX9_done 3 = .ok (.aload_n 0, 1) := by decide +kernel
theorem dX9_done_4 : decode cX9_done 4 = .ok (.getfield 100, 3) := by decide +kernel
theorem dX9_done_7 : decode cX9_done 7 = .ok (.if_icmp .ge 149, 3) := by decide +kernel
theorem dX9_done_10 : decode cX9_done 10 = .ok (.aload_n 0, 1) := by decide +kernel
theorem dX9_done_11 : decode cX9_done 11 = .ok (.getfield 33, 3) := by decide +kernel
theorem dX9_done_14 : decode cX9_done 14 = .ok (.iload_n 1, 1) := by decide +kernel
theorem dX9_done_15 : decode cX9_done 15 = .ok (.invokestatic 137, 3) := by decide +kernel
theorem dX9_done_18 : decode cX9_done 18 = .ok (.ifCond .ne 6, 3) := by decide +kernel
theorem dX9_done_21 : decode cX9_done 21 = .ok (.goto 129, 3) := by decide +kernel
theorem dX9_done_24 : decode cX9_done 24 = .ok (.aload_n 0, 1) := by decide +kernel
theorem dX9_done_25 : decode cX9_done 25 = .ok (.getfield 39, 3) := by decide +kernel
theorem dX9_done_28 : decode cX9_done 28 = .ok (.sipush 212, 3) := by decide +kernel
theorem dX9_done_31 : decode cX9_done 31 = .ok (.iload_n 1, 1) := by decide +kernel
theorem dX9_done_32 : decode cX9_done 32 = .ok (.iadd, 1) := by decide +kernel
theorem dX9_done_33 : decode cX9_done 33 = .ok (.iaload, 1) := by decide +kernel
theorem dX9_done_34 : decode cX9_done 34 = .ok (.aload_n 0, 1) := by decide +kernel
theorem dX9_done_35 : decode cX9_done 35 = .ok (.getfield 33, 3) := by decide +kernel
theorem dX9_done_38 : decode cX9_done 38 = .ok (.sipush 212, 3) := by decide +kernel
theorem dX9_done_41 : decode cX9_done 41 = .ok (.iload_n 1, 1) := by decide +kernel
theorem dX9_done_42 : decode cX9_done 42 = .ok (.iadd, 1) := by decide +kernel
theorem dX9_done_43 : decode cX9_done 43 = .ok (.iaload, 1) := by decide +kernel
theorem dX9_done_44 : decode cX9_done 44 = .ok (.if_icmp .ne 49, 3) := by decide +kernel
theorem dX9_done_47 : decode cX9_done 47 = .ok (.aload_n 0, 1) := by decide +kernel
theorem dX9_done_48 : decode cX9_done 48 = .ok (.getfield 39, 3) := by decide +kernel
theorem dX9_done_51 : decode cX9_done 51 = .ok (.sipush 172, 3) := by decide +kernel
theorem dX9_done_54 : decode cX9_done 54 = .ok (.iload_n 1, 1) := by decide +kernel
theorem dX9_done_55 : decode cX9_done 55 = .ok (.iadd, 1) := by decide +kernel
theorem dX9_done_56 : decode cX9_done 56 = .ok (.iaload, 1) := by decide +kernel
theorem dX9_done_57 : decode cX9_done 57 = .ok (.aload_n 0, 1) := by decide +kernel
theorem dX9_done_58 : decode cX9_done 58 = .ok (.getfield 33, 3) := by decide +kernel
theorem dX9_done_61 : decode cX9_done 61 = .ok (.sipush 172, 3) := by decide +kernel
theorem dX9_done_64 : decode cX9_done 64 = .ok (.iload_n 1, 1) := by decide +kernel
theorem dX9_done_65 : decode cX9_done 65 = .ok (.iadd, 1) := by decide +kernel
theorem dX9_done_66 : decode cX9_done 66 = .ok (.iaload, 1) := by decide +kernel
theorem dX9_done_67 : decode cX9_done 67 = .ok (.if_icmp .ne 26, 3) := by decide +kernel
theorem dX9_done_70 : decode cX9_done 70 = .ok (.aload_n 0, 1) := by decide +kernel
theorem dX9_done_71 : decode cX9_done 71 = .ok (.getfield 39, 3) := by decide +kernel
theorem dX9_done_74 : decode cX9_done 74 = .ok (.iload_n 1, 1) := by decide +kernel
theorem dX9_done_75 : decode cX9_done 75 = .ok (.invokestatic 133, 3) := by decide +kernel
theorem dX9_done_78 : decode cX9_done 78 = .ok (.aload_n 0, 1) := by decide +kernel
theorem dX9_done_79 : decode cX9_done 79 = .ok (.getfield 33, 3) := by decide +kernel
theorem dX9_done_82 : decode cX9_done 82 = .ok (.iload_n 1, 1) := by decide +kernel
theorem dX9_done_83 : decode cX9_done 83 = .ok (.invokestatic 133, 3) := by decide +kernel
theorem dX9_done_86 : decode cX9_done 86 = .ok (.if_icmp .ne 7, 3) := by decide +kernel
theorem dX9_done_89 : decode cX9_done 89 = .ok (.iconst 1, 1) := by decide +kernel
theorem dX9_done_90 : decode cX9_done 90 = .ok (.goto 4, 3) := by decide +kernel
theorem dX9_done_93 : decode cX9_done 93 = .ok (.iconst 0, 1) := by decide +kernel
theorem dX9_done_94 : decode cX9_done 94 = .ok (.istore_n 2, 1) := by decide +kernel
theorem dX9_done_95 : decode cX9_done 95 = .ok (.iconst 0, 1) := by decide +kernel
theorem dX9_done_96 : decode cX9_done 96 = .ok (.istore_n 3, 1) := by decide +kernel
theorem dX9_done_97 : decode cX9_done 97 = .ok (.iload_n 3, 1) := by decide +kernel
theorem dX9_done_98 : decode cX9_done 98 = .ok (.iconst 4, 1) := by decide +kernel
