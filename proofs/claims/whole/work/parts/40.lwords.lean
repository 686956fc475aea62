theorem kl_L_13 : Cond.classLink RL 13 "java/lang/IllegalStateException" ∈ gtbl := gm_at 548 (by decide +kernel)
theorem kl_L_26 : Cond.classLink RL 26 "java/lang/IllegalArgumentException" ∈ gtbl := gm_at 657 (by decide +kernel)
theorem kl_L_36 : Cond.classLink RL 36 "java/lang/IndexOutOfBoundsException" ∈ gtbl := gm_at 890 (by decide +kernel)
theorem ml_L_15 : Cond.methodLink RL 15 yX8_list ∈ gtbl := gm_at 633 (by decide +kernel)
theorem ml_L_19 : Cond.methodLink RL 19 yX8_step ∈ gtbl := gm_at 645 (by decide +kernel)
theorem ml_L_22 : Cond.methodLink RL 22 yX8_maker ∈ gtbl := gm_at 658 (by decide +kernel)
theorem ml_L_28 : Cond.methodLink RL 28 yX8_open ∈ gtbl := gm_at 705 (by decide +kernel)
theorem ml_L_32 : Cond.methodLink RL 32 yX8_place ∈ gtbl := gm_at 891 (by decide +kernel)
theorem ml_L_38 : Cond.methodLink RL 38 yX8_take ∈ gtbl := gm_at 969 (by decide +kernel)
theorem ml_L_41 : Cond.methodLink RL 41 yX8_move ∈ gtbl := gm_at 981 (by decide +kernel)
theorem ml_L_44 : Cond.methodLink RL 44 yX8_swap ∈ gtbl := gm_at 988 (by decide +kernel)
theorem ml_L_47 : Cond.methodLink RL 47 yX8_turn ∈ gtbl := gm_at 1003 (by decide +kernel)
theorem ml_L_50 : Cond.methodLink RL 50 yX8_tails ∈ gtbl := gm_at 1014 (by decide +kernel)
theorem ml_L_53 : Cond.methodLink RL 53 yX8_fact ∈ gtbl := gm_at 1025 (by decide +kernel)
theorem ml_L_56 : Cond.methodLink RL 56 yX8_listFact ∈ gtbl := gm_at 1032 (by decide +kernel)
theorem ml_L_59 : Cond.methodLink RL 59 yX8_link ∈ gtbl := gm_at 1039 (by decide +kernel)
theorem ml_L_62 : Cond.methodLink RL 62 yX8_freeze ∈ gtbl := gm_at 1046 (by decide +kernel)
theorem ml_L_65 : Cond.methodLink RL 65 yX8_begin ∈ gtbl := gm_at 1053 (by decide +kernel)
theorem ml_L_68 : Cond.methodLink RL 68 yX8_end ∈ gtbl := gm_at 1061 (by decide +kernel)
theorem ml_L_7 : Cond.methodLink RL 7 yX8_thing ∈ gtbl := gm_at 549 (by decide +kernel)
theorem ml_L_71 : Cond.methodLink RL 71 yX8_drop ∈ gtbl := gm_at 1073 (by decide +kernel)
theorem ml_L_74 : Cond.methodLink RL 74 yX8_undo ∈ gtbl := gm_at 1080 (by decide +kernel)
theorem ml_L_77 : Cond.methodLink RL 77 yX8_shadow ∈ gtbl := gm_at 1098 (by decide +kernel)
theorem ml_L_81 : Cond.methodLink RL 81 yX8_listShadow ∈ gtbl := gm_at 1107 (by decide +kernel)
theorem ml_L_84 : Cond.methodLink RL 84 yX8_where ∈ gtbl := gm_at 1116 (by decide +kernel)
theorem ml_L_87 : Cond.methodLink RL 87 yX8_at ∈ gtbl := gm_at 1127 (by decide +kernel)
theorem ml_L_90 : Cond.methodLink RL 90 yX8_cause ∈ gtbl := gm_at 1135 (by decide +kernel)
theorem ml_L_93 : Cond.methodLink RL 93 yX8_count ∈ gtbl := gm_at 1142 (by decide +kernel)
set_option maxRecDepth 100000 in
theorem mf_L_thing : MFW yL_thing cL_thing 7 (some .int) [(0, 14, 17, 13)] 6 := ⟨gm_at 70 (by decide +kernel), gm_r 547 rfl rfl, by decide +kernel⟩
theorem ms_L_thing : Cond.static yL_thing ∈ gtbl := gm_at 546 (by decide +kernel)
set_option maxRecDepth 100000 in
theorem mf_L_list : MFW yL_list cL_list 5 (some .int) [(0, 10, 13, 13)] 4 := ⟨gm_at 70 (by decide +kernel), gm_r 632 rfl rfl, by decide +kernel⟩
theorem ms_L_list : Cond.static yL_list ∈ gtbl := gm_at 631 (by decide +kernel)
set_option maxRecDepth 100000 in
theorem mf_L_step : MFW yL_step cL_step 5 (some .int) [(0, 10, 13, 13)] 4 := ⟨gm_at 70 (by decide +kernel), gm_r 644 rfl rfl, by decide +kernel⟩
theorem ms_L_step : Cond.static yL_step ∈ gtbl := gm_at 643 (by decide +kernel)
set_option maxRecDepth 100000 in
theorem mf_L_maker : MFW yL_maker cL_maker 4 (some .int) [(0, 9, 12, 13), (0, 9, 15, 26)] 3 := ⟨gm_at 70 (by decide +kernel), gm_r 656 rfl rfl, by decide +kernel⟩
theorem ms_L_maker : Cond.static yL_maker ∈ gtbl := gm_at 655 (by decide +kernel)
set_option maxRecDepth 100000 in
theorem mf_L_open : MFW yL_open cL_open 3 (some .int) [(0, 8, 11, 13)] 2 := ⟨gm_at 70 (by decide +kernel), gm_r 704 rfl rfl, by decide +kernel⟩
theorem ms_L_open : Cond.static yL_open ∈ gtbl := gm_at 703 (by decide +kernel)
set_option maxRecDepth 100000 in
theorem mf_L_place : MFW yL_place cL_place 6 (some .int) [(0, 12, 15, 36), (0, 12, 19, 13), (0, 12, 23, 26)] 5 := ⟨gm_at 70 (by decide +kernel), gm_r 889 rfl rfl, by decide +kernel⟩
theorem ms_L_place : Cond.static yL_place ∈ gtbl := gm_at 888 (by decide +kernel)
set_option maxRecDepth 100000 in
theorem mf_L_take : MFW yL_take cL_take 4 (some .int) [(0, 9, 12, 36), (0, 9, 15, 13)] 3 := ⟨gm_at 70 (by decide +kernel), gm_r 968 rfl rfl, by decide +kernel⟩
theorem ms_L_take : Cond.static yL_take ∈ gtbl := gm_at 967 (by decide +kernel)
set_option maxRecDepth 100000 in
theorem mf_L_move : MFW yL_move cL_move 6 (some .int) [(0, 12, 15, 36), (0, 12, 19, 13), (0, 12, 23, 26)] 5 := ⟨gm_at 70 (by decide +kernel), gm_r 980 rfl rfl, by decide +kernel⟩
theorem ms_L_move : Cond.static yL_move ∈ gtbl := gm_at 979 (by decide +kernel)
set_option maxRecDepth 100000 in
theorem mf_L_swap : MFW yL_swap cL_swap 5 (some .int) [(0, 10, 13, 36), (0, 10, 17, 13), (0, 10, 21, 26)] 4 := ⟨gm_at 70 (by decide +kernel), gm_r 987 rfl rfl, by decide +kernel⟩
theorem ms_L_swap : Cond.static yL_swap ∈ gtbl := gm_at 986 (by decide +kernel)
set_option maxRecDepth 100000 in
theorem mf_L_turn : MFW yL_turn cL_turn 6 (some .int) [(0, 12, 15, 36), (0, 12, 19, 13), (0, 12, 23, 26)] 5 := ⟨gm_at 70 (by decide +kernel), gm_r 1002 rfl rfl, by decide +kernel⟩
theorem ms_L_turn : Cond.static yL_turn ∈ gtbl := gm_at 1001 (by decide +kernel)
set_option maxRecDepth 100000 in
theorem mf_L_tails : MFW yL_tails cL_tails 7 (some .int) [(0, 14, 17, 36), (0, 14, 21, 13), (0, 14, 25, 26)] 6 := ⟨gm_at 70 (by decide +kernel), gm_r 1013 rfl rfl, by decide +kernel⟩
theorem ms_L_tails : Cond.static yL_tails ∈ gtbl := gm_at 1012 (by decide +kernel)
set_option maxRecDepth 100000 in
theorem mf_L_fact : MFW yL_fact cL_fact 6 (some .int) [(0, 12, 15, 36), (0, 12, 19, 13), (0, 12, 23, 26)] 5 := ⟨gm_at 70 (by decide +kernel), gm_r 1024 rfl rfl, by decide +kernel⟩
theorem ms_L_fact : Cond.static yL_fact ∈ gtbl := gm_at 1023 (by decide +kernel)
set_option maxRecDepth 100000 in
theorem mf_L_listFact : MFW yL_listFact cL_listFact 6 (some .int) [(0, 12, 15, 36), (0, 12, 19, 13), (0, 12, 23, 26)] 5 := ⟨gm_at 70 (by decide +kernel), gm_r 1031 rfl rfl, by decide +kernel⟩
theorem ms_L_listFact : Cond.static yL_listFact ∈ gtbl := gm_at 1030 (by decide +kernel)
set_option maxRecDepth 100000 in
theorem mf_L_link : MFW yL_link cL_link 5 (some .int) [(0, 10, 13, 36), (0, 10, 17, 13), (0, 10, 21, 26)] 4 := ⟨gm_at 70 (by decide +kernel), gm_r 1038 rfl rfl, by decide +kernel⟩
theorem ms_L_link : Cond.static yL_link ∈ gtbl := gm_at 1037 (by decide +kernel)
set_option maxRecDepth 100000 in
theorem mf_L_freeze : MFW yL_freeze cL_freeze 5 (some .int) [(0, 10, 13, 36), (0, 10, 17, 13), (0, 10, 21, 26)] 4 := ⟨gm_at 70 (by decide +kernel), gm_r 1045 rfl rfl, by decide +kernel⟩
theorem ms_L_freeze : Cond.static yL_freeze ∈ gtbl := gm_at 1044 (by decide +kernel)
set_option maxRecDepth 100000 in
theorem mf_L_begin : MFW yL_begin cL_begin 2 (some .int) [(0, 4, 7, 13)] 1 := ⟨gm_at 70 (by decide +kernel), gm_r 1052 rfl rfl, by decide +kernel⟩
theorem ms_L_begin : Cond.static yL_begin ∈ gtbl := gm_at 1051 (by decide +kernel)
set_option maxRecDepth 100000 in
theorem mf_L_end : MFW yL_end cL_end 3 (some .int) [(0, 8, 11, 13)] 2 := ⟨gm_at 70 (by decide +kernel), gm_r 1060 rfl rfl, by decide +kernel⟩
theorem ms_L_end : Cond.static yL_end ∈ gtbl := gm_at 1059 (by decide +kernel)
set_option maxRecDepth 100000 in
theorem mf_L_drop : MFW yL_drop cL_drop 3 (some .int) [(0, 8, 11, 13)] 2 := ⟨gm_at 70 (by decide +kernel), gm_r 1072 rfl rfl, by decide +kernel⟩
theorem ms_L_drop : Cond.static yL_drop ∈ gtbl := gm_at 1071 (by decide +kernel)
set_option maxRecDepth 100000 in
theorem mf_L_undo : MFW yL_undo cL_undo 3 (some .int) [(0, 8, 11, 13)] 2 := ⟨gm_at 70 (by decide +kernel), gm_r 1079 rfl rfl, by decide +kernel⟩
theorem ms_L_undo : Cond.static yL_undo ∈ gtbl := gm_at 1078 (by decide +kernel)
set_option maxRecDepth 100000 in
theorem mf_L_shadow : MFW yL_shadow cL_shadow 5 (some .int) [(0, 9, 12, 36), (0, 9, 16, 26)] 4 := ⟨gm_at 70 (by decide +kernel), gm_r 1097 rfl rfl, by decide +kernel⟩
theorem ms_L_shadow : Cond.static yL_shadow ∈ gtbl := gm_at 1096 (by decide +kernel)
set_option maxRecDepth 100000 in
theorem mf_L_listShadow : MFW yL_listShadow cL_listShadow 5 (some .int) [(0, 9, 12, 36), (0, 9, 16, 26)] 4 := ⟨gm_at 70 (by decide +kernel), gm_r 1106 rfl rfl, by decide +kernel⟩
theorem ms_L_listShadow : Cond.static yL_listShadow ∈ gtbl := gm_at 1105 (by decide +kernel)
set_option maxRecDepth 100000 in
theorem mf_L_where : MFW yL_where cL_where 5 (some .int) [(0, 10, 13, 36), (0, 10, 17, 26)] 4 := ⟨gm_at 70 (by decide +kernel), gm_r 1115 rfl rfl, by decide +kernel⟩
theorem ms_L_where : Cond.static yL_where ∈ gtbl := gm_at 1114 (by decide +kernel)
set_option maxRecDepth 100000 in
theorem mf_L_at : MFW yL_at cL_at 5 (some .int) [(0, 10, 13, 36)] 4 := ⟨gm_at 70 (by decide +kernel), gm_r 1126 rfl rfl, by decide +kernel⟩
theorem ms_L_at : Cond.static yL_at ∈ gtbl := gm_at 1125 (by decide +kernel)
set_option maxRecDepth 100000 in
theorem mf_L_cause : MFW yL_cause cL_cause 4 (some .int) [(0, 9, 12, 26)] 3 := ⟨gm_at 70 (by decide +kernel), gm_r 1134 rfl rfl, by decide +kernel⟩
theorem ms_L_cause : Cond.static yL_cause ∈ gtbl := gm_at 1133 (by decide +kernel)
set_option maxRecDepth 100000 in
theorem mf_L_count : MFW yL_count cL_count 4 (some .int) [(0, 9, 12, 26)] 3 := ⟨gm_at 70 (by decide +kernel), gm_r 1141 rfl rfl, by decide +kernel⟩
theorem ms_L_count : Cond.static yL_count ∈ gtbl := gm_at 1140 (by decide +kernel)
