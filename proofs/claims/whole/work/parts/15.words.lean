theorem gm_at {w : Cond} (i : Nat) (h : (decide (lw_tbl[i]? = some w) && goodWord w) = true) : w ∈ gtbl := by
  simp only [Bool.and_eq_true, decide_eq_true_eq] at h
  exact gt_in (List.mem_of_getElem? h.1) h.2
theorem nm_at {w : Cond} (i : Nat) (h : (decide (lw_tbl[i]? = some w) && isNest w) = true) : w ∈ ntbl := by
  simp only [Bool.and_eq_true, decide_eq_true_eq] at h
  exact nt_in (List.mem_of_getElem? h.1) h.2
theorem gm_r {w : Cond} (i : Nat) (h : lw_tbl[i]? = some w) (hg : goodWord w = true) : w ∈ gtbl := gt_in (List.mem_of_getElem? h) hg
theorem lm_at {w : Cond} (i : Nat) (h : lw_tbl[i]? = some w) : w ∈ lw_tbl := List.mem_of_getElem? h
theorem ci_X9_86 : Cond.constant RX9 86 66564 ∈ gtbl := gm_at 1156 (by decide +kernel)
theorem cl_J13_314 : Cond.constantLong RJ13 314 6148914691236517205 ∈ gtbl := gm_at 769 (by decide +kernel)
theorem cl_J13_316 : Cond.constantLong RJ13 316 3689348814741910323 ∈ gtbl := gm_at 770 (by decide +kernel)
theorem cl_J13_318 : Cond.constantLong RJ13 318 1085102592571150095 ∈ gtbl := gm_at 771 (by decide +kernel)
theorem cl_X5_149 : Cond.constantLong RX5 149 (-1) ∈ gtbl := gm_at 765 (by decide +kernel)
theorem cl_X7_88 : Cond.constantLong RX7 88 (-1000000000000000) ∈ gtbl := gm_at 484 (by decide +kernel)
theorem cl_X7_90 : Cond.constantLong RX7 90 1000000000000000 ∈ gtbl := gm_at 485 (by decide +kernel)
theorem cl_X9_184 : Cond.constantLong RX9 184 (-1000000000000000) ∈ gtbl := gm_at 1402 (by decide +kernel)
theorem cl_X9_186 : Cond.constantLong RX9 186 1000000000000000 ∈ gtbl := gm_at 1403 (by decide +kernel)
theorem fl_X0_15 : Cond.fieldLink RX0 15 (TX0 1).1 (TX0 1).2.1 (TX0 1).2.2.1 ∈ gtbl := gm_at 106 (by decide +kernel)
theorem fl_X0_18 : Cond.fieldLink RX0 18 (TX0 2).1 (TX0 2).2.1 (TX0 2).2.2.1 ∈ gtbl := gm_at 107 (by decide +kernel)
theorem fl_X0_21 : Cond.fieldLink RX0 21 (TX0 3).1 (TX0 3).2.1 (TX0 3).2.2.1 ∈ gtbl := gm_at 108 (by decide +kernel)
theorem fl_X0_24 : Cond.fieldLink RX0 24 (TX0 4).1 (TX0 4).2.1 (TX0 4).2.2.1 ∈ gtbl := gm_at 109 (by decide +kernel)
theorem fl_X0_27 : Cond.fieldLink RX0 27 (TX0 5).1 (TX0 5).2.1 (TX0 5).2.2.1 ∈ gtbl := gm_at 110 (by decide +kernel)
theorem fl_X0_64 : Cond.fieldLink RX0 64 (TX4 3).1 (TX4 3).2.1 (TX4 3).2.2.1 ∈ gtbl := gm_at 154 (by decide +kernel)
theorem fl_X0_72 : Cond.fieldLink RX0 72 (TX0 7).1 (TX0 7).2.1 (TX0 7).2.2.1 ∈ gtbl := gm_at 114 (by decide +kernel)
theorem fl_X0_9 : Cond.fieldLink RX0 9 (TX0 0).1 (TX0 0).2.1 (TX0 0).2.2.1 ∈ gtbl := gm_at 105 (by decide +kernel)
theorem fl_X1_107 : Cond.fieldLink RX1 107 (TX7 5).1 (TX7 5).2.1 (TX7 5).2.2.1 ∈ gtbl := gm_at 277 (by decide +kernel)
theorem fl_X1_117 : Cond.fieldLink RX1 117 (TX5 10).1 (TX5 10).2.1 (TX5 10).2.2.1 ∈ gtbl := gm_at 230 (by decide +kernel)
theorem fl_X1_12 : Cond.fieldLink RX1 12 (TX1 3).1 (TX1 3).2.1 (TX1 3).2.2.1 ∈ gtbl := gm_at 302 (by decide +kernel)
theorem fl_X1_120 : Cond.fieldLink RX1 120 (TX7 3).1 (TX7 3).2.1 (TX7 3).2.2.1 ∈ gtbl := gm_at 274 (by decide +kernel)
theorem fl_X1_123 : Cond.fieldLink RX1 123 (TX7 4).1 (TX7 4).2.1 (TX7 4).2.2.1 ∈ gtbl := gm_at 276 (by decide +kernel)
theorem fl_X1_162 : Cond.fieldLink RX1 162 (TX4 6).1 (TX4 6).2.1 (TX4 6).2.2.1 ∈ gtbl := gm_at 163 (by decide +kernel)
theorem fl_X1_18 : Cond.fieldLink RX1 18 (TX1 4).1 (TX1 4).2.1 (TX1 4).2.2.1 ∈ gtbl := gm_at 304 (by decide +kernel)
theorem fl_X1_191 : Cond.fieldLink RX1 191 (TX4 4).1 (TX4 4).2.1 (TX4 4).2.2.1 ∈ gtbl := gm_at 158 (by decide +kernel)
theorem fl_X1_194 : Cond.fieldLink RX1 194 (TX4 0).1 (TX4 0).2.1 (TX4 0).2.2.1 ∈ gtbl := gm_at 144 (by decide +kernel)
theorem fl_X1_197 : Cond.fieldLink RX1 197 (TX4 1).1 (TX4 1).2.1 (TX4 1).2.2.1 ∈ gtbl := gm_at 148 (by decide +kernel)
theorem fl_X1_22 : Cond.fieldLink RX1 22 (TX1 6).1 (TX1 6).2.1 (TX1 6).2.2.1 ∈ gtbl := gm_at 308 (by decide +kernel)
theorem fl_X1_26 : Cond.fieldLink RX1 26 (TX1 7).1 (TX1 7).2.1 (TX1 7).2.2.1 ∈ gtbl := gm_at 310 (by decide +kernel)
theorem fl_X1_29 : Cond.fieldLink RX1 29 (TX1 8).1 (TX1 8).2.1 (TX1 8).2.2.1 ∈ gtbl := gm_at 312 (by decide +kernel)
theorem fl_X1_32 : Cond.fieldLink RX1 32 (TX1 0).1 (TX1 0).2.1 (TX1 0).2.2.1 ∈ gtbl := gm_at 298 (by decide +kernel)
theorem fl_X1_36 : Cond.fieldLink RX1 36 (TX1 9).1 (TX1 9).2.1 (TX1 9).2.2.1 ∈ gtbl := gm_at 314 (by decide +kernel)
theorem fl_X1_40 : Cond.fieldLink RX1 40 (TX1 10).1 (TX1 10).2.1 (TX1 10).2.2.1 ∈ gtbl := gm_at 315 (by decide +kernel)
theorem fl_X1_43 : Cond.fieldLink RX1 43 (TX1 11).1 (TX1 11).2.1 (TX1 11).2.2.1 ∈ gtbl := gm_at 316 (by decide +kernel)
theorem fl_X1_51 : Cond.fieldLink RX1 51 (TX1 1).1 (TX1 1).2.1 (TX1 1).2.2.1 ∈ gtbl := gm_at 299 (by decide +kernel)
theorem fl_X1_60 : Cond.fieldLink RX1 60 (TX1 2).1 (TX1 2).2.1 (TX1 2).2.2.1 ∈ gtbl := gm_at 301 (by decide +kernel)
theorem fl_X1_74 : Cond.fieldLink RX1 74 (TX1 5).1 (TX1 5).2.1 (TX1 5).2.2.1 ∈ gtbl := gm_at 306 (by decide +kernel)
theorem fl_X1_80 : Cond.fieldLink RX1 80 (TX5 9).1 (TX5 9).2.1 (TX5 9).2.2.1 ∈ gtbl := gm_at 227 (by decide +kernel)
theorem fl_X1_83 : Cond.fieldLink RX1 83 (TX6 1).1 (TX6 1).2.1 (TX6 1).2.2.1 ∈ gtbl := gm_at 192 (by decide +kernel)
theorem fl_X2_12 : Cond.fieldLink RX2 12 (TX2 0).1 (TX2 0).2.1 (TX2 0).2.2.1 ∈ gtbl := gm_at 953 (by decide +kernel)
theorem fl_X2_18 : Cond.fieldLink RX2 18 (TX2 1).1 (TX2 1).2.1 (TX2 1).2.2.1 ∈ gtbl := gm_at 956 (by decide +kernel)
theorem fl_X3_11 : Cond.fieldLink RX3 11 (TX3 0).1 (TX3 0).2.1 (TX3 0).2.2.1 ∈ gtbl := gm_at 350 (by decide +kernel)
theorem fl_X3_17 : Cond.fieldLink RX3 17 (TX3 2).1 (TX3 2).2.1 (TX3 2).2.2.1 ∈ gtbl := gm_at 352 (by decide +kernel)
theorem fl_X3_21 : Cond.fieldLink RX3 21 (TX3 1).1 (TX3 1).2.1 (TX3 1).2.2.1 ∈ gtbl := gm_at 351 (by decide +kernel)
theorem fl_X3_25 : Cond.fieldLink RX3 25 (TX2 0).1 (TX2 0).2.1 (TX2 0).2.2.1 ∈ gtbl := gm_at 954 (by decide +kernel)
theorem fl_X3_35 : Cond.fieldLink RX3 35 (TX2 1).1 (TX2 1).2.1 (TX2 1).2.2.1 ∈ gtbl := gm_at 957 (by decide +kernel)
theorem fl_X4_15 : Cond.fieldLink RX4 15 (TX4 1).1 (TX4 1).2.1 (TX4 1).2.2.1 ∈ gtbl := gm_at 146 (by decide +kernel)
theorem fl_X4_18 : Cond.fieldLink RX4 18 (TX4 2).1 (TX4 2).2.1 (TX4 2).2.2.1 ∈ gtbl := gm_at 150 (by decide +kernel)
theorem fl_X4_21 : Cond.fieldLink RX4 21 (TX4 3).1 (TX4 3).2.1 (TX4 3).2.2.1 ∈ gtbl := gm_at 152 (by decide +kernel)
theorem fl_X4_24 : Cond.fieldLink RX4 24 (TX4 4).1 (TX4 4).2.1 (TX4 4).2.2.1 ∈ gtbl := gm_at 155 (by decide +kernel)
theorem fl_X4_27 : Cond.fieldLink RX4 27 (TX4 5).1 (TX4 5).2.1 (TX4 5).2.2.1 ∈ gtbl := gm_at 159 (by decide +kernel)
theorem fl_X4_30 : Cond.fieldLink RX4 30 (TX4 6).1 (TX4 6).2.1 (TX4 6).2.2.1 ∈ gtbl := gm_at 160 (by decide +kernel)
theorem fl_X4_33 : Cond.fieldLink RX4 33 (TX4 7).1 (TX4 7).2.1 (TX4 7).2.2.1 ∈ gtbl := gm_at 165 (by decide +kernel)
theorem fl_X4_9 : Cond.fieldLink RX4 9 (TX4 0).1 (TX4 0).2.1 (TX4 0).2.2.1 ∈ gtbl := gm_at 142 (by decide +kernel)
theorem fl_X5_117 : Cond.fieldLink RX5 117 (TX4 6).1 (TX4 6).2.1 (TX4 6).2.2.1 ∈ gtbl := gm_at 161 (by decide +kernel)
theorem fl_X5_15 : Cond.fieldLink RX5 15 (TX5 2).1 (TX5 2).2.1 (TX5 2).2.2.1 ∈ gtbl := gm_at 219 (by decide +kernel)
theorem fl_X5_18 : Cond.fieldLink RX5 18 (TX5 3).1 (TX5 3).2.1 (TX5 3).2.2.1 ∈ gtbl := gm_at 220 (by decide +kernel)
theorem fl_X5_182 : Cond.fieldLink RX5 182 (TX6 1).1 (TX6 1).2.1 (TX6 1).2.2.1 ∈ gtbl := gm_at 193 (by decide +kernel)
theorem fl_X5_21 : Cond.fieldLink RX5 21 (TX5 4).1 (TX5 4).2.1 (TX5 4).2.2.1 ∈ gtbl := gm_at 221 (by decide +kernel)
theorem fl_X5_24 : Cond.fieldLink RX5 24 (TX5 5).1 (TX5 5).2.1 (TX5 5).2.2.1 ∈ gtbl := gm_at 222 (by decide +kernel)
theorem fl_X5_28 : Cond.fieldLink RX5 28 (TX5 6).1 (TX5 6).2.1 (TX5 6).2.2.1 ∈ gtbl := gm_at 223 (by decide +kernel)
theorem fl_X5_31 : Cond.fieldLink RX5 31 (TX5 7).1 (TX5 7).2.1 (TX5 7).2.2.1 ∈ gtbl := gm_at 224 (by decide +kernel)
theorem fl_X5_34 : Cond.fieldLink RX5 34 (TX5 8).1 (TX5 8).2.1 (TX5 8).2.2.1 ∈ gtbl := gm_at 225 (by decide +kernel)
theorem fl_X5_40 : Cond.fieldLink RX5 40 (TX5 9).1 (TX5 9).2.1 (TX5 9).2.2.1 ∈ gtbl := gm_at 226 (by decide +kernel)
theorem fl_X5_44 : Cond.fieldLink RX5 44 (TX5 10).1 (TX5 10).2.1 (TX5 10).2.2.1 ∈ gtbl := gm_at 229 (by decide +kernel)
theorem fl_X5_47 : Cond.fieldLink RX5 47 (TX5 11).1 (TX5 11).2.1 (TX5 11).2.2.1 ∈ gtbl := gm_at 232 (by decide +kernel)
theorem fl_X5_50 : Cond.fieldLink RX5 50 (TX5 0).1 (TX5 0).2.1 (TX5 0).2.2.1 ∈ gtbl := gm_at 217 (by decide +kernel)
theorem fl_X5_54 : Cond.fieldLink RX5 54 (TX5 12).1 (TX5 12).2.1 (TX5 12).2.2.1 ∈ gtbl := gm_at 233 (by decide +kernel)
theorem fl_X5_70 : Cond.fieldLink RX5 70 (TX5 13).1 (TX5 13).2.1 (TX5 13).2.2.1 ∈ gtbl := gm_at 234 (by decide +kernel)
theorem fl_X5_9 : Cond.fieldLink RX5 9 (TX5 1).1 (TX5 1).2.1 (TX5 1).2.2.1 ∈ gtbl := gm_at 218 (by decide +kernel)
theorem fl_X6_15 : Cond.fieldLink RX6 15 (TX6 1).1 (TX6 1).2.1 (TX6 1).2.2.1 ∈ gtbl := gm_at 191 (by decide +kernel)
theorem fl_X6_9 : Cond.fieldLink RX6 9 (TX6 0).1 (TX6 0).2.1 (TX6 0).2.2.1 ∈ gtbl := gm_at 190 (by decide +kernel)
theorem fl_X7_102 : Cond.fieldLink RX7 102 (TX4 1).1 (TX4 1).2.1 (TX4 1).2.2.1 ∈ gtbl := gm_at 147 (by decide +kernel)
theorem fl_X7_105 : Cond.fieldLink RX7 105 (TX4 4).1 (TX4 4).2.1 (TX4 4).2.2.1 ∈ gtbl := gm_at 156 (by decide +kernel)
theorem fl_X7_108 : Cond.fieldLink RX7 108 (TX4 6).1 (TX4 6).2.1 (TX4 6).2.2.1 ∈ gtbl := gm_at 162 (by decide +kernel)
theorem fl_X7_15 : Cond.fieldLink RX7 15 (TX7 0).1 (TX7 0).2.1 (TX7 0).2.2.1 ∈ gtbl := gm_at 270 (by decide +kernel)
theorem fl_X7_19 : Cond.fieldLink RX7 19 (TX7 6).1 (TX7 6).2.1 (TX7 6).2.2.1 ∈ gtbl := gm_at 279 (by decide +kernel)
theorem fl_X7_23 : Cond.fieldLink RX7 23 (TX7 7).1 (TX7 7).2.1 (TX7 7).2.2.1 ∈ gtbl := gm_at 280 (by decide +kernel)
theorem fl_X7_26 : Cond.fieldLink RX7 26 (TX7 2).1 (TX7 2).2.1 (TX7 2).2.2.1 ∈ gtbl := gm_at 272 (by decide +kernel)
theorem fl_X7_30 : Cond.fieldLink RX7 30 (TX7 3).1 (TX7 3).2.1 (TX7 3).2.2.1 ∈ gtbl := gm_at 273 (by decide +kernel)
theorem fl_X7_39 : Cond.fieldLink RX7 39 (TX7 4).1 (TX7 4).2.1 (TX7 4).2.2.1 ∈ gtbl := gm_at 275 (by decide +kernel)
theorem fl_X7_84 : Cond.fieldLink RX7 84 (TX7 5).1 (TX7 5).2.1 (TX7 5).2.2.1 ∈ gtbl := gm_at 278 (by decide +kernel)
theorem fl_X7_9 : Cond.fieldLink RX7 9 (TX7 1).1 (TX7 1).2.1 (TX7 1).2.2.1 ∈ gtbl := gm_at 271 (by decide +kernel)
theorem fl_X7_98 : Cond.fieldLink RX7 98 (TX4 0).1 (TX4 0).2.1 (TX4 0).2.2.1 ∈ gtbl := gm_at 143 (by decide +kernel)
theorem fl_X8_10 : Cond.fieldLink RX8 10 (TX8 0).1 (TX8 0).2.1 (TX8 0).2.2.1 ∈ gtbl := gm_at 361 (by decide +kernel)
theorem fl_X8_104 : Cond.fieldLink RX8 104 (TX8 12).1 (TX8 12).2.1 (TX8 12).2.2.1 ∈ gtbl := gm_at 373 (by decide +kernel)
theorem fl_X8_107 : Cond.fieldLink RX8 107 (TX8 8).1 (TX8 8).2.1 (TX8 8).2.2.1 ∈ gtbl := gm_at 369 (by decide +kernel)
theorem fl_X8_124 : Cond.fieldLink RX8 124 (TX4 6).1 (TX4 6).2.1 (TX4 6).2.2.1 ∈ gtbl := gm_at 164 (by decide +kernel)
theorem fl_X8_128 : Cond.fieldLink RX8 128 (TX4 3).1 (TX4 3).2.1 (TX4 3).2.2.1 ∈ gtbl := gm_at 153 (by decide +kernel)
theorem fl_X8_131 : Cond.fieldLink RX8 131 (TX4 7).1 (TX4 7).2.1 (TX4 7).2.2.1 ∈ gtbl := gm_at 166 (by decide +kernel)
theorem fl_X8_148 : Cond.fieldLink RX8 148 (TX4 4).1 (TX4 4).2.1 (TX4 4).2.2.1 ∈ gtbl := gm_at 157 (by decide +kernel)
theorem fl_X8_162 : Cond.fieldLink RX8 162 (TX4 0).1 (TX4 0).2.1 (TX4 0).2.2.1 ∈ gtbl := gm_at 145 (by decide +kernel)
theorem fl_X8_165 : Cond.fieldLink RX8 165 (TX4 1).1 (TX4 1).2.1 (TX4 1).2.2.1 ∈ gtbl := gm_at 149 (by decide +kernel)
theorem fl_X8_168 : Cond.fieldLink RX8 168 (TX4 2).1 (TX4 2).2.1 (TX4 2).2.2.1 ∈ gtbl := gm_at 151 (by decide +kernel)
theorem fl_X8_171 : Cond.fieldLink RX8 171 (TX8 9).1 (TX8 9).2.1 (TX8 9).2.2.1 ∈ gtbl := gm_at 370 (by decide +kernel)
theorem fl_X8_179 : Cond.fieldLink RX8 179 (TX8 10).1 (TX8 10).2.1 (TX8 10).2.2.1 ∈ gtbl := gm_at 371 (by decide +kernel)
theorem fl_X8_19 : Cond.fieldLink RX8 19 (TX8 1).1 (TX8 1).2.1 (TX8 1).2.2.1 ∈ gtbl := gm_at 362 (by decide +kernel)
theorem fl_X8_194 : Cond.fieldLink RX8 194 (TX2 0).1 (TX2 0).2.1 (TX2 0).2.2.1 ∈ gtbl := gm_at 955 (by decide +kernel)
theorem fl_X8_197 : Cond.fieldLink RX8 197 (TX2 1).1 (TX2 1).2.1 (TX2 1).2.2.1 ∈ gtbl := gm_at 958 (by decide +kernel)
theorem fl_X8_204 : Cond.fieldLink RX8 204 (TX1 1).1 (TX1 1).2.1 (TX1 1).2.2.1 ∈ gtbl := gm_at 300 (by decide +kernel)
theorem fl_X8_214 : Cond.fieldLink RX8 214 (TX5 9).1 (TX5 9).2.1 (TX5 9).2.2.1 ∈ gtbl := gm_at 228 (by decide +kernel)
theorem fl_X8_23 : Cond.fieldLink RX8 23 (TX8 2).1 (TX8 2).2.1 (TX8 2).2.2.1 ∈ gtbl := gm_at 363 (by decide +kernel)
theorem fl_X8_242 : Cond.fieldLink RX8 242 (TX5 10).1 (TX5 10).2.1 (TX5 10).2.2.1 ∈ gtbl := gm_at 231 (by decide +kernel)
theorem fl_X8_245 : Cond.fieldLink RX8 245 (TX1 5).1 (TX1 5).2.1 (TX1 5).2.2.1 ∈ gtbl := gm_at 307 (by decide +kernel)
theorem fl_X8_248 : Cond.fieldLink RX8 248 (TX1 6).1 (TX1 6).2.1 (TX1 6).2.2.1 ∈ gtbl := gm_at 309 (by decide +kernel)
theorem fl_X8_251 : Cond.fieldLink RX8 251 (TX1 7).1 (TX1 7).2.1 (TX1 7).2.2.1 ∈ gtbl := gm_at 311 (by decide +kernel)
theorem fl_X8_254 : Cond.fieldLink RX8 254 (TX1 8).1 (TX1 8).2.1 (TX1 8).2.2.1 ∈ gtbl := gm_at 313 (by decide +kernel)
theorem fl_X8_257 : Cond.fieldLink RX8 257 (TX6 1).1 (TX6 1).2.1 (TX6 1).2.2.1 ∈ gtbl := gm_at 194 (by decide +kernel)
theorem fl_X8_26 : Cond.fieldLink RX8 26 (TX8 3).1 (TX8 3).2.1 (TX8 3).2.2.1 ∈ gtbl := gm_at 364 (by decide +kernel)
theorem fl_X8_260 : Cond.fieldLink RX8 260 (TX3 2).1 (TX3 2).2.1 (TX3 2).2.2.1 ∈ gtbl := gm_at 353 (by decide +kernel)
theorem fl_X8_261 : Cond.fieldLink RX8 261 (TX8 11).1 (TX8 11).2.1 (TX8 11).2.2.1 ∈ gtbl := gm_at 372 (by decide +kernel)
theorem fl_X8_290 : Cond.fieldLink RX8 290 (TX1 4).1 (TX1 4).2.1 (TX1 4).2.2.1 ∈ gtbl := gm_at 305 (by decide +kernel)
theorem fl_X8_293 : Cond.fieldLink RX8 293 (TX1 3).1 (TX1 3).2.1 (TX1 3).2.2.1 ∈ gtbl := gm_at 303 (by decide +kernel)
theorem fl_X8_33 : Cond.fieldLink RX8 33 (TX8 4).1 (TX8 4).2.1 (TX8 4).2.2.1 ∈ gtbl := gm_at 365 (by decide +kernel)
theorem fl_X8_37 : Cond.fieldLink RX8 37 (TX8 5).1 (TX8 5).2.1 (TX8 5).2.2.1 ∈ gtbl := gm_at 366 (by decide +kernel)
theorem fl_X8_45 : Cond.fieldLink RX8 45 (TX8 6).1 (TX8 6).2.1 (TX8 6).2.2.1 ∈ gtbl := gm_at 367 (by decide +kernel)
theorem fl_X8_52 : Cond.fieldLink RX8 52 (TX8 7).1 (TX8 7).2.1 (TX8 7).2.2.1 ∈ gtbl := gm_at 368 (by decide +kernel)
theorem fl_X8_59 : Cond.fieldLink RX8 59 (TX0 6).1 (TX0 6).2.1 (TX0 6).2.2.1 ∈ gtbl := gm_at 112 (by decide +kernel)
theorem fl_X8_74 : Cond.fieldLink RX8 74 (TX0 7).1 (TX0 7).2.1 (TX0 7).2.2.1 ∈ gtbl := gm_at 113 (by decide +kernel)
theorem fl_X8_83 : Cond.fieldLink RX8 83 (TX0 5).1 (TX0 5).2.1 (TX0 5).2.2.1 ∈ gtbl := gm_at 111 (by decide +kernel)
theorem fl_X9_1 : Cond.fieldLink RX9 1 (TX9 0).1 (TX9 0).2.1 (TX9 0).2.2.1 ∈ gtbl := gm_at 1160 (by decide +kernel)
theorem fl_X9_100 : Cond.fieldLink RX9 100 (TX9 2).1 (TX9 2).2.1 (TX9 2).2.2.1 ∈ gtbl := gm_at 1162 (by decide +kernel)
theorem fl_X9_103 : Cond.fieldLink RX9 103 (TX9 3).1 (TX9 3).2.1 (TX9 3).2.2.1 ∈ gtbl := gm_at 1163 (by decide +kernel)
theorem fl_X9_110 : Cond.fieldLink RX9 110 (TX9 4).1 (TX9 4).2.1 (TX9 4).2.2.1 ∈ gtbl := gm_at 1164 (by decide +kernel)
theorem fl_X9_13 : Cond.fieldLink RX9 13 (TX9 1).1 (TX9 1).2.1 (TX9 1).2.2.1 ∈ gtbl := gm_at 1161 (by decide +kernel)
theorem fl_X9_141 : Cond.fieldLink RX9 141 (TX9 32).1 (TX9 32).2.1 (TX9 32).2.2.1 ∈ gtbl := gm_at 1192 (by decide +kernel)
theorem fl_X9_17 : Cond.fieldLink RX9 17 (TX9 5).1 (TX9 5).2.1 (TX9 5).2.2.1 ∈ gtbl := gm_at 1165 (by decide +kernel)
theorem fl_X9_172 : Cond.fieldLink RX9 172 (TX9 36).1 (TX9 36).2.1 (TX9 36).2.2.1 ∈ gtbl := gm_at 1196 (by decide +kernel)
theorem fl_X9_181 : Cond.fieldLink RX9 181 (TX9 24).1 (TX9 24).2.1 (TX9 24).2.2.1 ∈ gtbl := gm_at 1184 (by decide +kernel)
theorem fl_X9_200 : Cond.fieldLink RX9 200 (TX9 34).1 (TX9 34).2.1 (TX9 34).2.2.1 ∈ gtbl := gm_at 1194 (by decide +kernel)
theorem fl_X9_203 : Cond.fieldLink RX9 203 (TX9 26).1 (TX9 26).2.1 (TX9 26).2.2.1 ∈ gtbl := gm_at 1186 (by decide +kernel)
theorem fl_X9_206 : Cond.fieldLink RX9 206 (TX9 22).1 (TX9 22).2.1 (TX9 22).2.2.1 ∈ gtbl := gm_at 1182 (by decide +kernel)
theorem fl_X9_21 : Cond.fieldLink RX9 21 (TX9 6).1 (TX9 6).2.1 (TX9 6).2.2.1 ∈ gtbl := gm_at 1166 (by decide +kernel)
theorem fl_X9_235 : Cond.fieldLink RX9 235 (TX9 20).1 (TX9 20).2.1 (TX9 20).2.2.1 ∈ gtbl := gm_at 1180 (by decide +kernel)
theorem fl_X9_238 : Cond.fieldLink RX9 238 (TX9 30).1 (TX9 30).2.1 (TX9 30).2.2.1 ∈ gtbl := gm_at 1190 (by decide +kernel)
theorem fl_X9_24 : Cond.fieldLink RX9 24 (TX9 7).1 (TX9 7).2.1 (TX9 7).2.2.1 ∈ gtbl := gm_at 1167 (by decide +kernel)
theorem fl_X9_241 : Cond.fieldLink RX9 241 (TX9 31).1 (TX9 31).2.1 (TX9 31).2.2.1 ∈ gtbl := gm_at 1191 (by decide +kernel)
theorem fl_X9_244 : Cond.fieldLink RX9 244 (TX9 17).1 (TX9 17).2.1 (TX9 17).2.2.1 ∈ gtbl := gm_at 1177 (by decide +kernel)
theorem fl_X9_247 : Cond.fieldLink RX9 247 (TX9 15).1 (TX9 15).2.1 (TX9 15).2.2.1 ∈ gtbl := gm_at 1175 (by decide +kernel)
theorem fl_X9_250 : Cond.fieldLink RX9 250 (TX9 16).1 (TX9 16).2.1 (TX9 16).2.2.1 ∈ gtbl := gm_at 1176 (by decide +kernel)
theorem fl_X9_27 : Cond.fieldLink RX9 27 (TX9 8).1 (TX9 8).2.1 (TX9 8).2.2.1 ∈ gtbl := gm_at 1168 (by decide +kernel)
theorem fl_X9_30 : Cond.fieldLink RX9 30 (TX9 9).1 (TX9 9).2.1 (TX9 9).2.2.1 ∈ gtbl := gm_at 1169 (by decide +kernel)
theorem fl_X9_33 : Cond.fieldLink RX9 33 (TX9 10).1 (TX9 10).2.1 (TX9 10).2.2.1 ∈ gtbl := gm_at 1170 (by decide +kernel)
theorem fl_X9_36 : Cond.fieldLink RX9 36 (TX9 11).1 (TX9 11).2.1 (TX9 11).2.2.1 ∈ gtbl := gm_at 1171 (by decide +kernel)
theorem fl_X9_39 : Cond.fieldLink RX9 39 (TX9 12).1 (TX9 12).2.1 (TX9 12).2.2.1 ∈ gtbl := gm_at 1172 (by decide +kernel)
theorem fl_X9_42 : Cond.fieldLink RX9 42 (TX9 13).1 (TX9 13).2.1 (TX9 13).2.2.1 ∈ gtbl := gm_at 1173 (by decide +kernel)
theorem fl_X9_46 : Cond.fieldLink RX9 46 (TX9 14).1 (TX9 14).2.1 (TX9 14).2.2.1 ∈ gtbl := gm_at 1174 (by decide +kernel)
theorem fl_X9_49 : Cond.fieldLink RX9 49 (TX9 18).1 (TX9 18).2.1 (TX9 18).2.2.1 ∈ gtbl := gm_at 1178 (by decide +kernel)
theorem fl_X9_52 : Cond.fieldLink RX9 52 (TX9 19).1 (TX9 19).2.1 (TX9 19).2.2.1 ∈ gtbl := gm_at 1179 (by decide +kernel)
theorem fl_X9_55 : Cond.fieldLink RX9 55 (TX9 21).1 (TX9 21).2.1 (TX9 21).2.2.1 ∈ gtbl := gm_at 1181 (by decide +kernel)
theorem fl_X9_58 : Cond.fieldLink RX9 58 (TX9 23).1 (TX9 23).2.1 (TX9 23).2.2.1 ∈ gtbl := gm_at 1183 (by decide +kernel)
theorem fl_X9_61 : Cond.fieldLink RX9 61 (TX9 25).1 (TX9 25).2.1 (TX9 25).2.2.1 ∈ gtbl := gm_at 1185 (by decide +kernel)
theorem fl_X9_64 : Cond.fieldLink RX9 64 (TX9 27).1 (TX9 27).2.1 (TX9 27).2.2.1 ∈ gtbl := gm_at 1187 (by decide +kernel)
theorem fl_X9_67 : Cond.fieldLink RX9 67 (TX9 28).1 (TX9 28).2.1 (TX9 28).2.2.1 ∈ gtbl := gm_at 1188 (by decide +kernel)
theorem fl_X9_70 : Cond.fieldLink RX9 70 (TX9 29).1 (TX9 29).2.1 (TX9 29).2.2.1 ∈ gtbl := gm_at 1189 (by decide +kernel)
theorem fl_X9_73 : Cond.fieldLink RX9 73 (TX9 33).1 (TX9 33).2.1 (TX9 33).2.2.1 ∈ gtbl := gm_at 1193 (by decide +kernel)
theorem fl_X9_76 : Cond.fieldLink RX9 76 (TX9 35).1 (TX9 35).2.1 (TX9 35).2.2.1 ∈ gtbl := gm_at 1195 (by decide +kernel)
theorem fl_X9_79 : Cond.fieldLink RX9 79 (TX9 37).1 (TX9 37).2.1 (TX9 37).2.2.1 ∈ gtbl := gm_at 1197 (by decide +kernel)
theorem fl_X9_82 : Cond.fieldLink RX9 82 (TX9 38).1 (TX9 38).2.1 (TX9 38).2.2.1 ∈ gtbl := gm_at 1198 (by decide +kernel)
theorem fl_X9_87 : Cond.fieldLink RX9 87 (TX9 39).1 (TX9 39).2.1 (TX9 39).2.2.1 ∈ gtbl := gm_at 1199 (by decide +kernel)
theorem fl_X9_90 : Cond.fieldLink RX9 90 (TX9 40).1 (TX9 40).2.1 (TX9 40).2.2.1 ∈ gtbl := gm_at 1200 (by decide +kernel)
theorem fl_X9_93 : Cond.fieldLink RX9 93 (TX9 41).1 (TX9 41).2.1 (TX9 41).2.2.1 ∈ gtbl := gm_at 1201 (by decide +kernel)
theorem fn_X0_49 : Cond.fieldLinkNest RX0 49 RX8 "TAKES" "[I" RX8 ∈ ntbl := nm_at 698 (by decide +kernel)
theorem fn_X0_52 : Cond.fieldLinkNest RX0 52 RX8 "GIVES" "[I" RX8 ∈ ntbl := nm_at 699 (by decide +kernel)
theorem fn_X7_115 : Cond.fieldLinkNest RX7 115 RX8 "TAKES" "[I" RX8 ∈ ntbl := nm_at 514 (by decide +kernel)
theorem kl_X1_46 : Cond.classLink RX1 46 RX5 ∈ gtbl := gm_at 209 (by decide +kernel)
theorem kl_X1_55 : Cond.classLink RX1 55 RX7 ∈ gtbl := gm_at 264 (by decide +kernel)
theorem kl_X1_9 : Cond.classLink RX1 9 RX6 ∈ gtbl := gm_at 207 (by decide +kernel)
theorem kl_X2_9 : Cond.classLink RX2 9 RX4 ∈ gtbl := gm_at 951 (by decide +kernel)
theorem kl_X3_9 : Cond.classLink RX3 9 RX2 ∈ gtbl := gm_at 348 (by decide +kernel)
theorem kl_X5_37 : Cond.classLink RX5 37 RX6 ∈ gtbl := gm_at 215 (by decide +kernel)
theorem kl_X8_16 : Cond.classLink RX8 16 RX4 ∈ gtbl := gm_at 133 (by decide +kernel)
theorem kl_X8_274 : Cond.classLink RX8 274 "java/lang/IndexOutOfBoundsException" ∈ gtbl := gm_at 899 (by decide +kernel)
theorem kl_X8_281 : Cond.classLink RX8 281 "java/lang/IllegalArgumentException" ∈ gtbl := gm_at 665 (by decide +kernel)
theorem kl_X8_30 : Cond.classLink RX8 30 RX6 ∈ gtbl := gm_at 184 (by decide +kernel)
theorem kl_X8_40 : Cond.classLink RX8 40 RX1 ∈ gtbl := gm_at 201 (by decide +kernel)
theorem kl_X8_49 : Cond.classLink RX8 49 RX3 ∈ gtbl := gm_at 342 (by decide +kernel)
theorem kl_X8_63 : Cond.classLink RX8 63 "java/lang/IllegalStateException" ∈ gtbl := gm_at 557 (by decide +kernel)
theorem kl_X8_7 : Cond.classLink RX8 7 RX0 ∈ gtbl := gm_at 99 (by decide +kernel)
theorem ml_X0_3 : Cond.methodLink RX0 3 objectInit ∈ gtbl := gm_at 104 (by decide +kernel)
theorem ml_X0_31 : Cond.methodLink RX0 31 yX0_faultFor ∈ gtbl := gm_at 685 (by decide +kernel)
theorem ml_X0_35 : Cond.methodLink RX0 35 arraycopyName ∈ gtbl := gm_at 701 (by decide +kernel)
theorem ml_X0_45 : Cond.methodLink RX0 45 yX0_isStep ∈ gtbl := gm_at 692 (by decide +kernel)
theorem ml_X1_103 : Cond.methodLink RX1 103 yX1_fails ∈ gtbl := gm_at 872 (by decide +kernel)
theorem ml_X1_111 : Cond.methodLink RX1 111 yX6_add ∈ gtbl := gm_at 876 (by decide +kernel)
theorem ml_X1_114 : Cond.methodLink RX1 114 yX6_clear ∈ gtbl := gm_at 717 (by decide +kernel)
theorem ml_X1_126 : Cond.methodLink RX1 126 yX0_isCell ∈ gtbl := gm_at 832 (by decide +kernel)
theorem ml_X1_132 : Cond.methodLink RX1 132 yX0_stepsOf ∈ gtbl := gm_at 837 (by decide +kernel)
theorem ml_X1_135 : Cond.methodLink RX1 135 yX0_codeOf ∈ gtbl := gm_at 838 (by decide +kernel)
theorem ml_X1_139 : Cond.methodLink RX1 139 yX0_valueOf ∈ gtbl := gm_at 839 (by decide +kernel)
theorem ml_X1_145 : Cond.methodLink RX1 145 yX1_allDiffer ∈ gtbl := gm_at 841 (by decide +kernel)
theorem ml_X1_152 : Cond.methodLink RX1 152 yX1_oneDiffers ∈ gtbl := gm_at 853 (by decide +kernel)
theorem ml_X1_156 : Cond.methodLink RX1 156 yX1_givenDiffers ∈ gtbl := gm_at 858 (by decide +kernel)
theorem ml_X1_166 : Cond.methodLink RX1 166 yX4_standsAt ∈ gtbl := gm_at 846 (by decide +kernel)
theorem ml_X1_172 : Cond.methodLink RX1 172 yX1_hasChanged ∈ gtbl := gm_at 848 (by decide +kernel)
theorem ml_X1_175 : Cond.methodLink RX1 175 yX4_shadowSeen ∈ gtbl := gm_at 857 (by decide +kernel)
theorem ml_X1_179 : Cond.methodLink RX1 179 yX4_listOf ∈ gtbl := gm_at 862 (by decide +kernel)
theorem ml_X1_185 : Cond.methodLink RX1 185 yX1_factDiffers ∈ gtbl := gm_at 864 (by decide +kernel)
theorem ml_X1_188 : Cond.methodLink RX1 188 yX1_listFactDiffers ∈ gtbl := gm_at 868 (by decide +kernel)
theorem ml_X1_200 : Cond.methodLink RX1 200 arraycopyName ∈ gtbl := gm_at 425 (by decide +kernel)
theorem ml_X1_3 : Cond.methodLink RX1 3 objectInit ∈ gtbl := gm_at 206 (by decide +kernel)
theorem ml_X1_48 : Cond.methodLink RX1 48 yX5_init ∈ gtbl := gm_at 211 (by decide +kernel)
theorem ml_X1_57 : Cond.methodLink RX1 57 yX7_init ∈ gtbl := gm_at 266 (by decide +kernel)
theorem ml_X1_64 : Cond.methodLink RX1 64 yX1_forget ∈ gtbl := gm_at 713 (by decide +kernel)
theorem ml_X1_67 : Cond.methodLink RX1 67 yX5_arrange ∈ gtbl := gm_at 721 (by decide +kernel)
theorem ml_X1_71 : Cond.methodLink RX1 71 yX5_findRing ∈ gtbl := gm_at 787 (by decide +kernel)
theorem ml_X1_77 : Cond.methodLink RX1 77 yX1_startFresh ∈ gtbl := gm_at 828 (by decide +kernel)
theorem ml_X1_86 : Cond.methodLink RX1 86 yX6_get ∈ gtbl := gm_at 428 (by decide +kernel)
theorem ml_X1_90 : Cond.methodLink RX1 90 yX4_isFrozenCell ∈ gtbl := gm_at 429 (by decide +kernel)
theorem ml_X1_96 : Cond.methodLink RX1 96 yX1_isTouched ∈ gtbl := gm_at 833 (by decide +kernel)
theorem ml_X1_99 : Cond.methodLink RX1 99 yX7_work ∈ gtbl := gm_at 443 (by decide +kernel)
theorem ml_X2_11 : Cond.methodLink RX2 11 yX4_init ∈ gtbl := gm_at 952 (by decide +kernel)
theorem ml_X2_3 : Cond.methodLink RX2 3 objectInit ∈ gtbl := gm_at 950 (by decide +kernel)
theorem ml_X3_29 : Cond.methodLink RX3 29 yX4_copyFrom ∈ gtbl := gm_at 964 (by decide +kernel)
theorem ml_X3_3 : Cond.methodLink RX3 3 objectInit ∈ gtbl := gm_at 347 (by decide +kernel)
theorem ml_X3_39 : Cond.methodLink RX3 39 arraycopyName ∈ gtbl := gm_at 965 (by decide +kernel)
theorem ml_X4_3 : Cond.methodLink RX4 3 objectInit ∈ gtbl := gm_at 138 (by decide +kernel)
theorem ml_X4_36 : Cond.methodLink RX4 36 yJ7_fill_53178 ∈ gtbl := gm_at 139 (by decide +kernel)
theorem ml_X4_42 : Cond.methodLink RX4 42 arraycopyName ∈ gtbl := gm_at 941 (by decide +kernel)
theorem ml_X4_56 : Cond.methodLink RX4 56 yX4_isFrozen ∈ gtbl := gm_at 439 (by decide +kernel)
theorem ml_X4_59 : Cond.methodLink RX4 59 yX4_standsAt ∈ gtbl := gm_at 513 (by decide +kernel)
theorem ml_X4_63 : Cond.methodLink RX4 63 yX4_listOf ∈ gtbl := gm_at 508 (by decide +kernel)
theorem ml_X4_72 : Cond.methodLink RX4 72 yX4_seat ∈ gtbl := gm_at 929 (by decide +kernel)
theorem ml_X4_76 : Cond.methodLink RX4 76 yX4_putAt ∈ gtbl := gm_at 996 (by decide +kernel)
theorem ml_X5_100 : Cond.methodLink RX5 100 yX0_stepsOf ∈ gtbl := gm_at 741 (by decide +kernel)
theorem ml_X5_104 : Cond.methodLink RX5 104 yX0_codeOf ∈ gtbl := gm_at 742 (by decide +kernel)
theorem ml_X5_108 : Cond.methodLink RX5 108 yX0_valueOf ∈ gtbl := gm_at 743 (by decide +kernel)
theorem ml_X5_114 : Cond.methodLink RX5 114 yX4_listOf ∈ gtbl := gm_at 745 (by decide +kernel)
theorem ml_X5_120 : Cond.methodLink RX5 120 yX4_standsAt ∈ gtbl := gm_at 746 (by decide +kernel)
theorem ml_X5_126 : Cond.methodLink RX5 126 yX5_addRead ∈ gtbl := gm_at 748 (by decide +kernel)
theorem ml_X5_133 : Cond.methodLink RX5 133 yX4_shadowSeen ∈ gtbl := gm_at 756 (by decide +kernel)
theorem ml_X5_137 : Cond.methodLink RX5 137 yX5_bitOf ∈ gtbl := gm_at 752 (by decide +kernel)
theorem ml_X5_141 : Cond.methodLink RX5 141 yX5_firstMissing ∈ gtbl := gm_at 761 (by decide +kernel)
theorem ml_X5_144 : Cond.methodLink RX5 144 Lib.Math.min.name ∈ gtbl := gm_at 772 (by decide +kernel)
theorem ml_X5_151 : Cond.methodLink RX5 151 yJ13_bitCount_95d88 ∈ gtbl := gm_at 766 (by decide +kernel)
theorem ml_X5_157 : Cond.methodLink RX5 157 yX6_add ∈ gtbl := gm_at 783 (by decide +kernel)
theorem ml_X5_160 : Cond.methodLink RX5 160 yX5_firstInRing ∈ gtbl := gm_at 791 (by decide +kernel)
theorem ml_X5_163 : Cond.methodLink RX5 163 yX5_measure ∈ gtbl := gm_at 811 (by decide +kernel)
theorem ml_X5_166 : Cond.methodLink RX5 166 yX5_nearestRead ∈ gtbl := gm_at 820 (by decide +kernel)
theorem ml_X5_169 : Cond.methodLink RX5 169 yX5_has ∈ gtbl := gm_at 799 (by decide +kernel)
theorem ml_X5_173 : Cond.methodLink RX5 173 yX5_isLeft ∈ gtbl := gm_at 795 (by decide +kernel)
theorem ml_X5_176 : Cond.methodLink RX5 176 yX5_leadsBack ∈ gtbl := gm_at 802 (by decide +kernel)
theorem ml_X5_179 : Cond.methodLink RX5 179 yX5_spread ∈ gtbl := gm_at 806 (by decide +kernel)
theorem ml_X5_185 : Cond.methodLink RX5 185 yX6_get ∈ gtbl := gm_at 810 (by decide +kernel)
theorem ml_X5_188 : Cond.methodLink RX5 188 yX5_readsEdge ∈ gtbl := gm_at 815 (by decide +kernel)
theorem ml_X5_191 : Cond.methodLink RX5 191 arraycopyName ∈ gtbl := gm_at 819 (by decide +kernel)
theorem ml_X5_197 : Cond.methodLink RX5 197 yX5_nearer ∈ gtbl := gm_at 824 (by decide +kernel)
theorem ml_X5_3 : Cond.methodLink RX5 3 objectInit ∈ gtbl := gm_at 214 (by decide +kernel)
theorem ml_X5_58 : Cond.methodLink RX5 58 yX6_clear ∈ gtbl := gm_at 725 (by decide +kernel)
theorem ml_X5_61 : Cond.methodLink RX5 61 yJ7_fill_d0a16 ∈ gtbl := gm_at 726 (by decide +kernel)
theorem ml_X5_67 : Cond.methodLink RX5 67 yJ7_fill_53178 ∈ gtbl := gm_at 729 (by decide +kernel)
theorem ml_X5_74 : Cond.methodLink RX5 74 yX0_isCell ∈ gtbl := gm_at 730 (by decide +kernel)
theorem ml_X5_80 : Cond.methodLink RX5 80 yX5_gather ∈ gtbl := gm_at 736 (by decide +kernel)
theorem ml_X5_84 : Cond.methodLink RX5 84 yX5_await ∈ gtbl := gm_at 757 (by decide +kernel)
theorem ml_X5_87 : Cond.methodLink RX5 87 yX5_takeReady ∈ gtbl := gm_at 775 (by decide +kernel)
theorem ml_X5_91 : Cond.methodLink RX5 91 yX5_comes ∈ gtbl := gm_at 779 (by decide +kernel)
theorem ml_X5_94 : Cond.methodLink RX5 94 yX4_isFrozenCell ∈ gtbl := gm_at 740 (by decide +kernel)
theorem ml_X6_19 : Cond.methodLink RX6 19 arraycopyName ∈ gtbl := gm_at 886 (by decide +kernel)
theorem ml_X6_3 : Cond.methodLink RX6 3 objectInit ∈ gtbl := gm_at 189 (by decide +kernel)
theorem ml_X7_111 : Cond.methodLink RX7 111 yX4_shadowSeen ∈ gtbl := gm_at 504 (by decide +kernel)
theorem ml_X7_118 : Cond.methodLink RX7 118 yX4_standsAt ∈ gtbl := gm_at 473 (by decide +kernel)
theorem ml_X7_124 : Cond.methodLink RX7 124 Lib.MathLoose.max_long.x ∈ gtbl := gm_at 490 (by decide +kernel)
theorem ml_X7_130 : Cond.methodLink RX7 130 Lib.MathLoose.min_long.x ∈ gtbl := gm_at 493 (by decide +kernel)
theorem ml_X7_133 : Cond.methodLink RX7 133 yX7_choose ∈ gtbl := gm_at 526 (by decide +kernel)
theorem ml_X7_136 : Cond.methodLink RX7 136 yX7_join ∈ gtbl := gm_at 530 (by decide +kernel)
theorem ml_X7_140 : Cond.methodLink RX7 140 yX7_times ∈ gtbl := gm_at 534 (by decide +kernel)
theorem ml_X7_144 : Cond.methodLink RX7 144 yX7_by ∈ gtbl := gm_at 541 (by decide +kernel)
theorem ml_X7_147 : Cond.methodLink RX7 147 Lib.MathLoose.abs_long.x ∈ gtbl := gm_at 538 (by decide +kernel)
theorem ml_X7_3 : Cond.methodLink RX7 3 objectInit ∈ gtbl := gm_at 269 (by decide +kernel)
theorem ml_X7_33 : Cond.methodLink RX7 33 yX0_stepsOf ∈ gtbl := gm_at 447 (by decide +kernel)
theorem ml_X7_42 : Cond.methodLink RX7 42 yX0_codeOf ∈ gtbl := gm_at 454 (by decide +kernel)
theorem ml_X7_46 : Cond.methodLink RX7 46 yX0_valueOf ∈ gtbl := gm_at 458 (by decide +kernel)
theorem ml_X7_53 : Cond.methodLink RX7 53 yX4_listOf ∈ gtbl := gm_at 465 (by decide +kernel)
theorem ml_X7_58 : Cond.methodLink RX7 58 yX7_lookAtAll ∈ gtbl := gm_at 469 (by decide +kernel)
theorem ml_X7_65 : Cond.methodLink RX7 65 yX7_lookAtOne ∈ gtbl := gm_at 500 (by decide +kernel)
theorem ml_X7_68 : Cond.methodLink RX7 68 yX7_given ∈ gtbl := gm_at 516 (by decide +kernel)
theorem ml_X7_72 : Cond.methodLink RX7 72 yX7_push ∈ gtbl := gm_at 480 (by decide +kernel)
theorem ml_X7_76 : Cond.methodLink RX7 76 yX7_reckon ∈ gtbl := gm_at 522 (by decide +kernel)
theorem ml_X7_80 : Cond.methodLink RX7 80 yX7_pop ∈ gtbl := gm_at 486 (by decide +kernel)
theorem ml_X8_1 : Cond.methodLink RX8 1 objectInit ∈ gtbl := gm_at 96 (by decide +kernel)
theorem ml_X8_100 : Cond.methodLink RX8 100 yX1_weigh ∈ gtbl := gm_at 709 (by decide +kernel)
theorem ml_X8_111 : Cond.methodLink RX8 111 yX8_accept ∈ gtbl := gm_at 877 (by decide +kernel)
theorem ml_X8_114 : Cond.methodLink RX8 114 yX8_needThing ∈ gtbl := gm_at 895 (by decide +kernel)
theorem ml_X8_118 : Cond.methodLink RX8 118 yX8_needList ∈ gtbl := gm_at 915 (by decide +kernel)
theorem ml_X8_121 : Cond.methodLink RX8 121 yX8_needClosedBook ∈ gtbl := gm_at 920 (by decide +kernel)
theorem ml_X8_134 : Cond.methodLink RX8 134 yX4_insert ∈ gtbl := gm_at 925 (by decide +kernel)
theorem ml_X8_137 : Cond.methodLink RX8 137 yX8_settle ∈ gtbl := gm_at 933 (by decide +kernel)
theorem ml_X8_141 : Cond.methodLink RX8 141 yX4_isFrozen ∈ gtbl := gm_at 973 (by decide +kernel)
theorem ml_X8_145 : Cond.methodLink RX8 145 yX4_remove ∈ gtbl := gm_at 974 (by decide +kernel)
theorem ml_X8_151 : Cond.methodLink RX8 151 yX4_exchange ∈ gtbl := gm_at 992 (by decide +kernel)
theorem ml_X8_155 : Cond.methodLink RX8 155 yX4_reverse ∈ gtbl := gm_at 1007 (by decide +kernel)
theorem ml_X8_158 : Cond.methodLink RX8 158 yX4_crossTails ∈ gtbl := gm_at 1018 (by decide +kernel)
theorem ml_X8_176 : Cond.methodLink RX8 176 yX8_needGroup ∈ gtbl := gm_at 1065 (by decide +kernel)
theorem ml_X8_18 : Cond.methodLink RX8 18 yX4_init ∈ gtbl := gm_at 135 (by decide +kernel)
theorem ml_X8_182 : Cond.methodLink RX8 182 yX4_copyFrom ∈ gtbl := gm_at 937 (by decide +kernel)
theorem ml_X8_186 : Cond.methodLink RX8 186 yX3_takeLatest ∈ gtbl := gm_at 1084 (by decide +kernel)
theorem ml_X8_190 : Cond.methodLink RX8 190 yX8_changesTo ∈ gtbl := gm_at 1088 (by decide +kernel)
theorem ml_X8_198 : Cond.methodLink RX8 198 arraycopyName ∈ gtbl := gm_at 881 (by decide +kernel)
theorem ml_X8_208 : Cond.methodLink RX8 208 yX5_arrange ∈ gtbl := gm_at 1093 (by decide +kernel)
theorem ml_X8_215 : Cond.methodLink RX8 215 yX6_copyFrom ∈ gtbl := gm_at 882 (by decide +kernel)
theorem ml_X8_218 : Cond.methodLink RX8 218 yX6_clear ∈ gtbl := gm_at 1094 (by decide +kernel)
theorem ml_X8_221 : Cond.methodLink RX8 221 yX8_isThingKind ∈ gtbl := gm_at 1102 (by decide +kernel)
theorem ml_X8_224 : Cond.methodLink RX8 224 yX8_shadowOf ∈ gtbl := gm_at 1103 (by decide +kernel)
theorem ml_X8_227 : Cond.methodLink RX8 227 yX8_isListKind ∈ gtbl := gm_at 1111 (by decide +kernel)
theorem ml_X8_230 : Cond.methodLink RX8 230 yX8_shadowOfList ∈ gtbl := gm_at 1112 (by decide +kernel)
theorem ml_X8_233 : Cond.methodLink RX8 233 yX4_neighbour ∈ gtbl := gm_at 1120 (by decide +kernel)
theorem ml_X8_236 : Cond.methodLink RX8 236 yX4_standsAt ∈ gtbl := gm_at 1131 (by decide +kernel)
theorem ml_X8_239 : Cond.methodLink RX8 239 yX6_get ∈ gtbl := gm_at 405 (by decide +kernel)
theorem ml_X8_264 : Cond.methodLink RX8 264 yX1_agrees ∈ gtbl := gm_at 421 (by decide +kernel)
theorem ml_X8_286 : Cond.methodLink RX8 286 yX3_keep ∈ gtbl := gm_at 942 (by decide +kernel)
theorem ml_X8_294 : Cond.methodLink RX8 294 yX0_isCell ∈ gtbl := gm_at 1092 (by decide +kernel)
theorem ml_X8_298 : Cond.methodLink RX8 298 yX8_isOverAll ∈ gtbl := gm_at 499 (by decide +kernel)
theorem ml_X8_42 : Cond.methodLink RX8 42 yX1_init ∈ gtbl := gm_at 203 (by decide +kernel)
theorem ml_X8_56 : Cond.methodLink RX8 56 yX8_needOpenBook ∈ gtbl := gm_at 553 (by decide +kernel)
theorem ml_X8_70 : Cond.methodLink RX8 70 yX4_setFacts ∈ gtbl := gm_at 626 (by decide +kernel)
theorem ml_X8_79 : Cond.methodLink RX8 79 yX4_setListFacts ∈ gtbl := gm_at 638 (by decide +kernel)
theorem ml_X8_88 : Cond.methodLink RX8 88 yX0_collect ∈ gtbl := gm_at 650 (by decide +kernel)
theorem ml_X8_92 : Cond.methodLink RX8 92 yX8_need ∈ gtbl := gm_at 662 (by decide +kernel)
theorem ml_X8_96 : Cond.methodLink RX8 96 yX0_makeMaker ∈ gtbl := gm_at 681 (by decide +kernel)
theorem ml_X9_106 : Cond.methodLink RX9 106 yX9_fail ∈ gtbl := gm_at 1292 (by decide +kernel)
theorem ml_X9_113 : Cond.methodLink RX9 113 yX9_isStep ∈ gtbl := gm_at 1308 (by decide +kernel)
theorem ml_X9_117 : Cond.methodLink RX9 117 yX9_takes ∈ gtbl := gm_at 1311 (by decide +kernel)
theorem ml_X9_120 : Cond.methodLink RX9 120 yX9_gives ∈ gtbl := gm_at 1314 (by decide +kernel)
theorem ml_X9_123 : Cond.methodLink RX9 123 yX9_judge ∈ gtbl := gm_at 1321 (by decide +kernel)
theorem ml_X9_127 : Cond.methodLink RX9 127 yX9_kindOf ∈ gtbl := gm_at 1333 (by decide +kernel)
theorem ml_X9_130 : Cond.methodLink RX9 130 yX9_ownerOf ∈ gtbl := gm_at 1336 (by decide +kernel)
theorem ml_X9_133 : Cond.methodLink RX9 133 yX9_placeOf ∈ gtbl := gm_at 1349 (by decide +kernel)
theorem ml_X9_137 : Cond.methodLink RX9 137 yX9_isFrozenThing ∈ gtbl := gm_at 1346 (by decide +kernel)
theorem ml_X9_144 : Cond.methodLink RX9 144 yX9_look ∈ gtbl := gm_at 1352 (by decide +kernel)
theorem ml_X9_148 : Cond.methodLink RX9 148 yX9_isFrozen ∈ gtbl := gm_at 1343 (by decide +kernel)
theorem ml_X9_151 : Cond.methodLink RX9 151 yX9_neighbour ∈ gtbl := gm_at 1356 (by decide +kernel)
theorem ml_X9_155 : Cond.methodLink RX9 155 yX9_lookThing ∈ gtbl := gm_at 1359 (by decide +kernel)
theorem ml_X9_159 : Cond.methodLink RX9 159 yX9_linkOf ∈ gtbl := gm_at 1363 (by decide +kernel)
theorem ml_X9_162 : Cond.methodLink RX9 162 yX9_isCell ∈ gtbl := gm_at 1329 (by decide +kernel)
theorem ml_X9_165 : Cond.methodLink RX9 165 yX9_lookAt ∈ gtbl := gm_at 1339 (by decide +kernel)
theorem ml_X9_169 : Cond.methodLink RX9 169 yX9_readsCell ∈ gtbl := gm_at 1366 (by decide +kernel)
theorem ml_X9_175 : Cond.methodLink RX9 175 yX9_measure ∈ gtbl := gm_at 1378 (by decide +kernel)
theorem ml_X9_178 : Cond.methodLink RX9 178 yX9_isInRing ∈ gtbl := gm_at 1374 (by decide +kernel)
theorem ml_X9_188 : Cond.methodLink RX9 188 yX9_valueOf ∈ gtbl := gm_at 1390 (by decide +kernel)
theorem ml_X9_192 : Cond.methodLink RX9 192 yX9_bounded ∈ gtbl := gm_at 1398 (by decide +kernel)
theorem ml_X9_196 : Cond.methodLink RX9 196 yX9_times ∈ gtbl := gm_at 1404 (by decide +kernel)
theorem ml_X9_209 : Cond.methodLink RX9 209 yX9_arrange ∈ gtbl := gm_at 1325 (by decide +kernel)
theorem ml_X9_213 : Cond.methodLink RX9 213 yX9_findRing ∈ gtbl := gm_at 1370 (by decide +kernel)
theorem ml_X9_217 : Cond.methodLink RX9 217 yX9_refuse ∈ gtbl := gm_at 1382 (by decide +kernel)
theorem ml_X9_220 : Cond.methodLink RX9 220 yX9_isTouched ∈ gtbl := gm_at 1386 (by decide +kernel)
theorem ml_X9_224 : Cond.methodLink RX9 224 yX9_work ∈ gtbl := gm_at 1394 (by decide +kernel)
theorem ml_X9_228 : Cond.methodLink RX9 228 yX9_keep ∈ gtbl := gm_at 1408 (by decide +kernel)
theorem ml_X9_231 : Cond.methodLink RX9 231 yX9_copyLongs ∈ gtbl := gm_at 1412 (by decide +kernel)
theorem ml_X9_253 : Cond.methodLink RX9 253 yX9_isThing ∈ gtbl := gm_at 1419 (by decide +kernel)
theorem ml_X9_257 : Cond.methodLink RX9 257 yX9_isList ∈ gtbl := gm_at 1423 (by decide +kernel)
theorem ml_X9_260 : Cond.methodLink RX9 260 yX9_begun ∈ gtbl := gm_at 1427 (by decide +kernel)
theorem ml_X9_263 : Cond.methodLink RX9 263 yX9_in ∈ gtbl := gm_at 1431 (by decide +kernel)
theorem ml_X9_267 : Cond.methodLink RX9 267 yX9_done ∈ gtbl := gm_at 1435 (by decide +kernel)
theorem ml_X9_271 : Cond.methodLink RX9 271 yX9_out ∈ gtbl := gm_at 1443 (by decide +kernel)
theorem ml_X9_7 : Cond.methodLink RX9 7 objectInit ∈ gtbl := gm_at 1155 (by decide +kernel)
theorem ml_X9_96 : Cond.methodLink RX9 96 yX9_copyInts ∈ gtbl := gm_at 1157 (by decide +kernel)
theorem mn_X0_41 : Cond.methodLinkNest RX0 41 yX8_isThingKind RX8 ∈ ntbl := nm_at 689 (by decide +kernel)
theorem mn_X0_55 : Cond.methodLinkNest RX0 55 yX8_isListKind RX8 ∈ ntbl := nm_at 695 (by decide +kernel)
theorem mn_X0_58 : Cond.methodLinkNest RX0 58 yX8_kindOf RX8 ∈ ntbl := nm_at 451 (by decide +kernel)
theorem mn_X0_61 : Cond.methodLinkNest RX0 61 yX8_isOfThing RX8 ∈ ntbl := nm_at 734 (by decide +kernel)
theorem mn_X0_69 : Cond.methodLinkNest RX0 69 yX8_ownerOf RX8 ∈ ntbl := nm_at 735 (by decide +kernel)
theorem mn_X1_11 : Cond.methodLinkNest RX1 11 yX6_init RX8 ∈ ntbl := nm_at 208 (by decide +kernel)
theorem mn_X1_142 : Cond.methodLinkNest RX1 142 yX8_isOverAll RX8 ∈ ntbl := nm_at 840 (by decide +kernel)
theorem mn_X1_149 : Cond.methodLinkNest RX1 149 yX8_isOverOne RX8 ∈ ntbl := nm_at 852 (by decide +kernel)
theorem mn_X1_159 : Cond.methodLinkNest RX1 159 yX8_ownerOf RX8 ∈ ntbl := nm_at 845 (by decide +kernel)
theorem mn_X1_169 : Cond.methodLinkNest RX1 169 yX8_shadowOf RX8 ∈ ntbl := nm_at 847 (by decide +kernel)
theorem mn_X1_182 : Cond.methodLinkNest RX1 182 yX8_isOfThing RX8 ∈ ntbl := nm_at 863 (by decide +kernel)
theorem mn_X3_24 : Cond.methodLinkNest RX3 24 yX2_init RX8 ∈ ntbl := nm_at 947 (by decide +kernel)
theorem mn_X4_48 : Cond.methodLinkNest RX4 48 yX8_isOfThing RX8 ∈ ntbl := nm_at 433 (by decide +kernel)
theorem mn_X4_52 : Cond.methodLinkNest RX4 52 yX8_ownerOf RX8 ∈ ntbl := nm_at 436 (by decide +kernel)
theorem mn_X4_66 : Cond.methodLinkNest RX4 66 yX8_shadowOf RX8 ∈ ntbl := nm_at 509 (by decide +kernel)
theorem mn_X4_69 : Cond.methodLinkNest RX4 69 yX8_shadowOfList RX8 ∈ ntbl := nm_at 510 (by decide +kernel)
theorem mn_X5_111 : Cond.methodLinkNest RX5 111 yX8_isOverAll RX8 ∈ ntbl := nm_at 744 (by decide +kernel)
theorem mn_X5_123 : Cond.methodLinkNest RX5 123 yX8_shadowOf RX8 ∈ ntbl := nm_at 747 (by decide +kernel)
theorem mn_X5_130 : Cond.methodLinkNest RX5 130 yX8_isOverOne RX8 ∈ ntbl := nm_at 755 (by decide +kernel)
theorem mn_X5_39 : Cond.methodLinkNest RX5 39 yX6_init RX8 ∈ ntbl := nm_at 216 (by decide +kernel)
theorem mn_X7_121 : Cond.methodLinkNest RX7 121 yX8_shadowOf RX8 ∈ ntbl := nm_at 477 (by decide +kernel)
theorem mn_X7_49 : Cond.methodLinkNest RX7 49 yX8_isOverAll RX8 ∈ ntbl := nm_at 462 (by decide +kernel)
theorem mn_X7_62 : Cond.methodLinkNest RX7 62 yX8_isOverOne RX8 ∈ ntbl := nm_at 496 (by decide +kernel)
theorem mn_X7_92 : Cond.methodLinkNest RX7 92 yX8_ownerOf RX8 ∈ ntbl := nm_at 520 (by decide +kernel)
theorem mn_X7_95 : Cond.methodLinkNest RX7 95 yX8_isOfThing RX8 ∈ ntbl := nm_at 521 (by decide +kernel)
theorem mn_X8_32 : Cond.methodLinkNest RX8 32 yX6_init RX8 ∈ ntbl := nm_at 186 (by decide +kernel)
theorem mn_X8_51 : Cond.methodLinkNest RX8 51 yX3_init RX8 ∈ ntbl := nm_at 344 (by decide +kernel)
theorem mn_X8_9 : Cond.methodLinkNest RX8 9 yX0_init RX8 ∈ ntbl := nm_at 101 (by decide +kernel)
theorem st_X8_174 : Cond.stringRef RX8 174 "there is a group" ∈ lw_tbl := lm_at 1057 (by decide +kernel)
theorem st_X8_268 : Cond.stringRef RX8 268 "the book is closed" ∈ lw_tbl := lm_at 598 (by decide +kernel)
theorem st_X8_270 : Cond.stringRef RX8 270 "the book is open" ∈ lw_tbl := lm_at 924 (by decide +kernel)
theorem st_X8_272 : Cond.stringRef RX8 272 "there is no group" ∈ lw_tbl := lm_at 1069 (by decide +kernel)
theorem st_X8_276 : Cond.stringRef RX8 276 "no such thing" ∈ lw_tbl := lm_at 908 (by decide +kernel)
theorem st_X8_279 : Cond.stringRef RX8 279 "no such list" ∈ lw_tbl := lm_at 919 (by decide +kernel)
theorem st_X8_283 : Cond.stringRef RX8 283 "a number is not as told" ∈ lw_tbl := lm_at 674 (by decide +kernel)
theorem st_X8_65 : Cond.stringRef RX8 65 "there are 40 things" ∈ lw_tbl := lm_at 625 (by decide +kernel)
theorem st_X8_77 : Cond.stringRef RX8 77 "there are 6 lists" ∈ lw_tbl := lm_at 637 (by decide +kernel)
theorem st_X8_86 : Cond.stringRef RX8 86 "there are 24 steps" ∈ lw_tbl := lm_at 649 (by decide +kernel)
theorem xa_X8_274_278 : XA RX8 274 278 "java/lang/IndexOutOfBoundsException" := ⟨by decide +kernel, by decide +kernel, by decide +kernel, by decide +kernel, by decide +kernel⟩
theorem xa_X8_281_285 : XA RX8 281 285 "java/lang/IllegalArgumentException" := ⟨by decide +kernel, by decide +kernel, by decide +kernel, by decide +kernel, by decide +kernel⟩
theorem xa_X8_63_67 : XA RX8 63 67 "java/lang/IllegalStateException" := ⟨by decide +kernel, by decide +kernel, by decide +kernel, by decide +kernel, by decide +kernel⟩
set_option maxRecDepth 100000 in
theorem mf_X0_init : MF yX0_init cX0_init 1 none 0 := ⟨gm_at 72 (by decide +kernel), gm_r 103 rfl rfl, by decide +kernel⟩
theorem mi_X0_init : Cond.instanceMethod yX0_init ∈ gtbl := gm_at 102 (by decide +kernel)
set_option maxRecDepth 100000 in
theorem mf_J7_fill_53178 : MF yJ7_fill_53178 cJ7_fill_53178 4 none 2 := ⟨gm_at 74 (by decide +kernel), gm_r 141 rfl rfl, by decide +kernel⟩
theorem ms_J7_fill_53178 : Cond.static yJ7_fill_53178 ∈ gtbl := gm_at 140 (by decide +kernel)
set_option maxRecDepth 100000 in
theorem mf_X4_init : MF yX4_init cX4_init 1 none 0 := ⟨gm_at 73 (by decide +kernel), gm_r 137 rfl rfl, by decide +kernel⟩
theorem mi_X4_init : Cond.instanceMethod yX4_init ∈ gtbl := gm_at 136 (by decide +kernel)
set_option maxRecDepth 100000 in
theorem mf_X6_init : MF yX6_init cX6_init 1 none 0 := ⟨gm_at 75 (by decide +kernel), gm_r 188 rfl rfl, by decide +kernel⟩
theorem mi_X6_init : Cond.instanceMethod yX6_init ∈ gtbl := gm_at 187 (by decide +kernel)
set_option maxRecDepth 100000 in
theorem mf_X5_init : MF yX5_init cX5_init 3 none 2 := ⟨gm_at 77 (by decide +kernel), gm_r 213 rfl rfl, by decide +kernel⟩
theorem mi_X5_init : Cond.instanceMethod yX5_init ∈ gtbl := gm_at 212 (by decide +kernel)
set_option maxRecDepth 100000 in
theorem mf_X7_init : MF yX7_init cX7_init 4 none 3 := ⟨gm_at 78 (by decide +kernel), gm_r 268 rfl rfl, by decide +kernel⟩
theorem mi_X7_init : Cond.instanceMethod yX7_init ∈ gtbl := gm_at 267 (by decide +kernel)
set_option maxRecDepth 100000 in
theorem mf_X1_init : MF yX1_init cX1_init 4 none 3 := ⟨gm_at 76 (by decide +kernel), gm_r 205 rfl rfl, by decide +kernel⟩
theorem mi_X1_init : Cond.instanceMethod yX1_init ∈ gtbl := gm_at 204 (by decide +kernel)
set_option maxRecDepth 100000 in
theorem mf_X3_init : MF yX3_init cX3_init 1 none 0 := ⟨gm_at 79 (by decide +kernel), gm_r 346 rfl rfl, by decide +kernel⟩
theorem mi_X3_init : Cond.instanceMethod yX3_init ∈ gtbl := gm_at 345 (by decide +kernel)
set_option maxRecDepth 100000 in
theorem mf_X8_init : MF yX8_init cX8_init 1 none 0 := ⟨gm_at 71 (by decide +kernel), gm_r 95 rfl rfl, by decide +kernel⟩
theorem mi_X8_init : Cond.instanceMethod yX8_init ∈ gtbl := gm_at 94 (by decide +kernel)
set_option maxRecDepth 100000 in
theorem mf_X8_needOpenBook : MF yX8_needOpenBook cX8_needOpenBook 1 none 0 := ⟨gm_at 71 (by decide +kernel), gm_r 556 rfl rfl, by decide +kernel⟩
theorem mi_X8_needOpenBook : Cond.instanceMethod yX8_needOpenBook ∈ gtbl := gm_at 555 (by decide +kernel)
theorem mv_X8_needOpenBook : Cond.selects RX8 yX8_needOpenBook yX8_needOpenBook ∈ gtbl := gm_at 10 (by decide +kernel)
set_option maxRecDepth 100000 in
theorem mf_X4_setFacts : MF yX4_setFacts cX4_setFacts 7 none 5 := ⟨gm_at 73 (by decide +kernel), gm_r 629 rfl rfl, by decide +kernel⟩
theorem mi_X4_setFacts : Cond.instanceMethod yX4_setFacts ∈ gtbl := gm_at 627 (by decide +kernel)
theorem mv_X4_setFacts : Cond.selects RX4 yX4_setFacts yX4_setFacts ∈ gtbl := gm_at 628 (by decide +kernel)
set_option maxRecDepth 100000 in
theorem mf_X8_thing : MF yX8_thing cX8_thing 6 (some .int) 4 := ⟨gm_at 71 (by decide +kernel), gm_r 552 rfl rfl, by decide +kernel⟩
theorem mi_X8_thing : Cond.instanceMethod yX8_thing ∈ gtbl := gm_at 550 (by decide +kernel)
theorem mv_X8_thing : Cond.selects RX8 yX8_thing yX8_thing ∈ gtbl := gm_at 551 (by decide +kernel)
set_option maxRecDepth 100000 in
theorem mf_X4_setListFacts : MF yX4_setListFacts cX4_setListFacts 5 none 3 := ⟨gm_at 73 (by decide +kernel), gm_r 641 rfl rfl, by decide +kernel⟩
theorem mi_X4_setListFacts : Cond.instanceMethod yX4_setListFacts ∈ gtbl := gm_at 639 (by decide +kernel)
theorem mv_X4_setListFacts : Cond.selects RX4 yX4_setListFacts yX4_setListFacts ∈ gtbl := gm_at 640 (by decide +kernel)
set_option maxRecDepth 100000 in
theorem mf_X8_list : MF yX8_list cX8_list 4 (some .int) 2 := ⟨gm_at 71 (by decide +kernel), gm_r 636 rfl rfl, by decide +kernel⟩
theorem mi_X8_list : Cond.instanceMethod yX8_list ∈ gtbl := gm_at 634 (by decide +kernel)
theorem mv_X8_list : Cond.selects RX8 yX8_list yX8_list ∈ gtbl := gm_at 635 (by decide +kernel)
set_option maxRecDepth 100000 in
theorem mf_X0_collect : MF yX0_collect cX0_collect 3 (some .int) 2 := ⟨gm_at 72 (by decide +kernel), gm_r 653 rfl rfl, by decide +kernel⟩
theorem mi_X0_collect : Cond.instanceMethod yX0_collect ∈ gtbl := gm_at 651 (by decide +kernel)
theorem mv_X0_collect : Cond.selects RX0 yX0_collect yX0_collect ∈ gtbl := gm_at 652 (by decide +kernel)
set_option maxRecDepth 100000 in
theorem mf_X8_step : MF yX8_step cX8_step 3 (some .int) 2 := ⟨gm_at 71 (by decide +kernel), gm_r 648 rfl rfl, by decide +kernel⟩
theorem mi_X8_step : Cond.instanceMethod yX8_step ∈ gtbl := gm_at 646 (by decide +kernel)
theorem mv_X8_step : Cond.selects RX8 yX8_step yX8_step ∈ gtbl := gm_at 647 (by decide +kernel)
set_option maxRecDepth 100000 in
theorem mf_X8_need : MF yX8_need cX8_need 1 none 1 := ⟨gm_at 71 (by decide +kernel), gm_r 664 rfl rfl, by decide +kernel⟩
theorem ms_X8_need : Cond.static yX8_need ∈ gtbl := gm_at 663 (by decide +kernel)
set_option maxRecDepth 100000 in
theorem mf_X8_isThingKind : MF yX8_isThingKind cX8_isThingKind 1 (some .boolean) 1 := ⟨gm_at 71 (by decide +kernel), gm_r 691 rfl rfl, by decide +kernel⟩
theorem ms_X8_isThingKind : Cond.static yX8_isThingKind ∈ gtbl := gm_at 690 (by decide +kernel)
set_option maxRecDepth 100000 in
theorem mf_X8_isListKind : MF yX8_isListKind cX8_isListKind 1 (some .boolean) 1 := ⟨gm_at 71 (by decide +kernel), gm_r 697 rfl rfl, by decide +kernel⟩
theorem ms_X8_isListKind : Cond.static yX8_isListKind ∈ gtbl := gm_at 696 (by decide +kernel)
set_option maxRecDepth 100000 in
theorem mf_X0_isStep : MF yX0_isStep cX0_isStep 3 (some .boolean) 3 := ⟨gm_at 72 (by decide +kernel), gm_r 694 rfl rfl, by decide +kernel⟩
theorem ms_X0_isStep : Cond.static yX0_isStep ∈ gtbl := gm_at 693 (by decide +kernel)
set_option maxRecDepth 100000 in
theorem mf_X0_faultFor : MF yX0_faultFor cX0_faultFor 5 (some .int) 1 := ⟨gm_at 72 (by decide +kernel), gm_r 688 rfl rfl, by decide +kernel⟩
theorem mi_X0_faultFor : Cond.instanceMethod yX0_faultFor ∈ gtbl := gm_at 687 (by decide +kernel)
theorem mv_X0_faultFor : Cond.selects RX0 yX0_faultFor yX0_faultFor ∈ gtbl := gm_at 12 (by decide +kernel)
set_option maxRecDepth 100000 in
theorem mf_X0_makeMaker : MF yX0_makeMaker cX0_makeMaker 3 (some .int) 1 := ⟨gm_at 72 (by decide +kernel), gm_r 684 rfl rfl, by decide +kernel⟩
theorem mi_X0_makeMaker : Cond.instanceMethod yX0_makeMaker ∈ gtbl := gm_at 682 (by decide +kernel)
theorem mv_X0_makeMaker : Cond.selects RX0 yX0_makeMaker yX0_makeMaker ∈ gtbl := gm_at 683 (by decide +kernel)
set_option maxRecDepth 100000 in
theorem mf_X8_maker : MF yX8_maker cX8_maker 2 (some .int) 1 := ⟨gm_at 71 (by decide +kernel), gm_r 661 rfl rfl, by decide +kernel⟩
theorem mi_X8_maker : Cond.instanceMethod yX8_maker ∈ gtbl := gm_at 659 (by decide +kernel)
theorem mv_X8_maker : Cond.selects RX8 yX8_maker yX8_maker ∈ gtbl := gm_at 660 (by decide +kernel)
set_option maxRecDepth 100000 in
theorem mf_X6_clear : MF yX6_clear cX6_clear 1 none 0 := ⟨gm_at 75 (by decide +kernel), gm_r 720 rfl rfl, by decide +kernel⟩
theorem mi_X6_clear : Cond.instanceMethod yX6_clear ∈ gtbl := gm_at 718 (by decide +kernel)
theorem mv_X6_clear : Cond.selects RX6 yX6_clear yX6_clear ∈ gtbl := gm_at 719 (by decide +kernel)
set_option maxRecDepth 100000 in
theorem mf_X1_forget : MF yX1_forget cX1_forget 1 none 0 := ⟨gm_at 76 (by decide +kernel), gm_r 716 rfl rfl, by decide +kernel⟩
theorem mi_X1_forget : Cond.instanceMethod yX1_forget ∈ gtbl := gm_at 715 (by decide +kernel)
theorem mv_X1_forget : Cond.selects RX1 yX1_forget yX1_forget ∈ gtbl := gm_at 13 (by decide +kernel)
set_option maxRecDepth 100000 in
theorem mf_J7_fill_d0a16 : MF yJ7_fill_d0a16 cJ7_fill_d0a16 5 none 2 := ⟨gm_at 74 (by decide +kernel), gm_r 728 rfl rfl, by decide +kernel⟩
theorem ms_J7_fill_d0a16 : Cond.static yJ7_fill_d0a16 ∈ gtbl := gm_at 727 (by decide +kernel)
set_option maxRecDepth 100000 in
theorem mf_X8_kindOf : MF yX8_kindOf cX8_kindOf 1 (some .int) 1 := ⟨gm_at 71 (by decide +kernel), gm_r 453 rfl rfl, by decide +kernel⟩
theorem ms_X8_kindOf : Cond.static yX8_kindOf ∈ gtbl := gm_at 452 (by decide +kernel)
set_option maxRecDepth 100000 in
theorem mf_X8_isOfThing : MF yX8_isOfThing cX8_isOfThing 1 (some .boolean) 1 := ⟨gm_at 71 (by decide +kernel), gm_r 435 rfl rfl, by decide +kernel⟩
theorem ms_X8_isOfThing : Cond.static yX8_isOfThing ∈ gtbl := gm_at 434 (by decide +kernel)
set_option maxRecDepth 100000 in
theorem mf_X8_ownerOf : MF yX8_ownerOf cX8_ownerOf 1 (some .int) 1 := ⟨gm_at 71 (by decide +kernel), gm_r 438 rfl rfl, by decide +kernel⟩
theorem ms_X8_ownerOf : Cond.static yX8_ownerOf ∈ gtbl := gm_at 437 (by decide +kernel)
set_option maxRecDepth 100000 in
theorem mf_X0_isCell : MF yX0_isCell cX0_isCell 3 (some .boolean) 2 := ⟨gm_at 72 (by decide +kernel), gm_r 733 rfl rfl, by decide +kernel⟩
theorem mi_X0_isCell : Cond.instanceMethod yX0_isCell ∈ gtbl := gm_at 731 (by decide +kernel)
theorem mv_X0_isCell : Cond.selects RX0 yX0_isCell yX0_isCell ∈ gtbl := gm_at 732 (by decide +kernel)
set_option maxRecDepth 100000 in
theorem mf_X4_isFrozen : MF yX4_isFrozen cX4_isFrozen 3 (some .boolean) 1 := ⟨gm_at 73 (by decide +kernel), gm_r 442 rfl rfl, by decide +kernel⟩
theorem mi_X4_isFrozen : Cond.instanceMethod yX4_isFrozen ∈ gtbl := gm_at 440 (by decide +kernel)
theorem mv_X4_isFrozen : Cond.selects RX4 yX4_isFrozen yX4_isFrozen ∈ gtbl := gm_at 441 (by decide +kernel)
set_option maxRecDepth 100000 in
theorem mf_X4_isFrozenCell : MF yX4_isFrozenCell cX4_isFrozenCell 2 (some .boolean) 1 := ⟨gm_at 73 (by decide +kernel), gm_r 432 rfl rfl, by decide +kernel⟩
theorem mi_X4_isFrozenCell : Cond.instanceMethod yX4_isFrozenCell ∈ gtbl := gm_at 430 (by decide +kernel)
theorem mv_X4_isFrozenCell : Cond.selects RX4 yX4_isFrozenCell yX4_isFrozenCell ∈ gtbl := gm_at 431 (by decide +kernel)
set_option maxRecDepth 100000 in
theorem mf_X0_stepsOf : MF yX0_stepsOf cX0_stepsOf 2 (some .int) 1 := ⟨gm_at 72 (by decide +kernel), gm_r 450 rfl rfl, by decide +kernel⟩
theorem mi_X0_stepsOf : Cond.instanceMethod yX0_stepsOf ∈ gtbl := gm_at 448 (by decide +kernel)
theorem mv_X0_stepsOf : Cond.selects RX0 yX0_stepsOf yX0_stepsOf ∈ gtbl := gm_at 449 (by decide +kernel)
set_option maxRecDepth 100000 in
theorem mf_X0_codeOf : MF yX0_codeOf cX0_codeOf 3 (some .int) 2 := ⟨gm_at 72 (by decide +kernel), gm_r 457 rfl rfl, by decide +kernel⟩
theorem mi_X0_codeOf : Cond.instanceMethod yX0_codeOf ∈ gtbl := gm_at 455 (by decide +kernel)
theorem mv_X0_codeOf : Cond.selects RX0 yX0_codeOf yX0_codeOf ∈ gtbl := gm_at 456 (by decide +kernel)
set_option maxRecDepth 100000 in
theorem mf_X0_valueOf : MF yX0_valueOf cX0_valueOf 3 (some .int) 2 := ⟨gm_at 72 (by decide +kernel), gm_r 461 rfl rfl, by decide +kernel⟩
theorem mi_X0_valueOf : Cond.instanceMethod yX0_valueOf ∈ gtbl := gm_at 459 (by decide +kernel)
theorem mv_X0_valueOf : Cond.selects RX0 yX0_valueOf yX0_valueOf ∈ gtbl := gm_at 460 (by decide +kernel)
set_option maxRecDepth 100000 in
theorem mf_X8_isOverAll : MF yX8_isOverAll cX8_isOverAll 1 (some .boolean) 1 := ⟨gm_at 71 (by decide +kernel), gm_r 464 rfl rfl, by decide +kernel⟩
theorem ms_X8_isOverAll : Cond.static yX8_isOverAll ∈ gtbl := gm_at 463 (by decide +kernel)
set_option maxRecDepth 100000 in
theorem mf_X4_listOf : MF yX4_listOf cX4_listOf 2 (some .int) 1 := ⟨gm_at 73 (by decide +kernel), gm_r 468 rfl rfl, by decide +kernel⟩
theorem mi_X4_listOf : Cond.instanceMethod yX4_listOf ∈ gtbl := gm_at 466 (by decide +kernel)
theorem mv_X4_listOf : Cond.selects RX4 yX4_listOf yX4_listOf ∈ gtbl := gm_at 467 (by decide +kernel)
set_option maxRecDepth 100000 in
theorem mf_X4_standsAt : MF yX4_standsAt cX4_standsAt 3 (some .int) 2 := ⟨gm_at 73 (by decide +kernel), gm_r 476 rfl rfl, by decide +kernel⟩
theorem mi_X4_standsAt : Cond.instanceMethod yX4_standsAt ∈ gtbl := gm_at 474 (by decide +kernel)
theorem mv_X4_standsAt : Cond.selects RX4 yX4_standsAt yX4_standsAt ∈ gtbl := gm_at 475 (by decide +kernel)
set_option maxRecDepth 100000 in
theorem mf_X8_shadowOf : MF yX8_shadowOf cX8_shadowOf 2 (some .int) 2 := ⟨gm_at 71 (by decide +kernel), gm_r 479 rfl rfl, by decide +kernel⟩
theorem ms_X8_shadowOf : Cond.static yX8_shadowOf ∈ gtbl := gm_at 478 (by decide +kernel)
set_option maxRecDepth 100000 in
theorem mf_X5_bitOf : MF yX5_bitOf cX5_bitOf 1 (some .long) 1 := ⟨gm_at 77 (by decide +kernel), gm_r 754 rfl rfl, by decide +kernel⟩
theorem ms_X5_bitOf : Cond.static yX5_bitOf ∈ gtbl := gm_at 753 (by decide +kernel)
set_option maxRecDepth 100000 in
theorem mf_X5_addRead : MF yX5_addRead cX5_addRead 3 none 2 := ⟨gm_at 77 (by decide +kernel), gm_r 751 rfl rfl, by decide +kernel⟩
theorem mi_X5_addRead : Cond.instanceMethod yX5_addRead ∈ gtbl := gm_at 750 (by decide +kernel)
theorem mv_X5_addRead : Cond.selects RX5 yX5_addRead yX5_addRead ∈ gtbl := gm_at 15 (by decide +kernel)
set_option maxRecDepth 100000 in
theorem mf_X8_isOverOne : MF yX8_isOverOne cX8_isOverOne 1 (some .boolean) 1 := ⟨gm_at 71 (by decide +kernel), gm_r 498 rfl rfl, by decide +kernel⟩
theorem ms_X8_isOverOne : Cond.static yX8_isOverOne ∈ gtbl := gm_at 497 (by decide +kernel)
set_option maxRecDepth 100000 in
theorem mf_X8_shadowOfList : MF yX8_shadowOfList cX8_shadowOfList 2 (some .int) 2 := ⟨gm_at 71 (by decide +kernel), gm_r 512 rfl rfl, by decide +kernel⟩
theorem ms_X8_shadowOfList : Cond.static yX8_shadowOfList ∈ gtbl := gm_at 511 (by decide +kernel)
set_option maxRecDepth 100000 in
theorem mf_X4_shadowSeen : MF yX4_shadowSeen cX4_shadowSeen 7 (some .int) 3 := ⟨gm_at 73 (by decide +kernel), gm_r 507 rfl rfl, by decide +kernel⟩
theorem mi_X4_shadowSeen : Cond.instanceMethod yX4_shadowSeen ∈ gtbl := gm_at 505 (by decide +kernel)
theorem mv_X4_shadowSeen : Cond.selects RX4 yX4_shadowSeen yX4_shadowSeen ∈ gtbl := gm_at 506 (by decide +kernel)
set_option maxRecDepth 100000 in
theorem mf_X5_gather : MF yX5_gather cX5_gather 8 none 1 := ⟨gm_at 77 (by decide +kernel), gm_r 739 rfl rfl, by decide +kernel⟩
theorem mi_X5_gather : Cond.instanceMethod yX5_gather ∈ gtbl := gm_at 738 (by decide +kernel)
theorem mv_X5_gather : Cond.selects RX5 yX5_gather yX5_gather ∈ gtbl := gm_at 14 (by decide +kernel)
set_option maxRecDepth 100000 in
theorem mf_J13_bitCount_95d88 : MF yJ13_bitCount_95d88 cJ13_bitCount_95d88 2 (some .int) 1 := ⟨gm_at 87 (by decide +kernel), gm_r 768 rfl rfl, by decide +kernel⟩
theorem ms_J13_bitCount_95d88 : Cond.static yJ13_bitCount_95d88 ∈ gtbl := gm_at 767 (by decide +kernel)
set_option maxRecDepth 100000 in
theorem mf_X5_firstMissing : MF yX5_firstMissing cX5_firstMissing 5 (some .int) 1 := ⟨gm_at 77 (by decide +kernel), gm_r 764 rfl rfl, by decide +kernel⟩
theorem mi_X5_firstMissing : Cond.instanceMethod yX5_firstMissing ∈ gtbl := gm_at 763 (by decide +kernel)
theorem mv_X5_firstMissing : Cond.selects RX5 yX5_firstMissing yX5_firstMissing ∈ gtbl := gm_at 17 (by decide +kernel)
set_option maxRecDepth 100000 in
theorem mf_X5_await : MF yX5_await cX5_await 3 none 1 := ⟨gm_at 77 (by decide +kernel), gm_r 760 rfl rfl, by decide +kernel⟩
theorem mi_X5_await : Cond.instanceMethod yX5_await ∈ gtbl := gm_at 759 (by decide +kernel)
theorem mv_X5_await : Cond.selects RX5 yX5_await yX5_await ∈ gtbl := gm_at 16 (by decide +kernel)
set_option maxRecDepth 100000 in
theorem mf_X5_takeReady : MF yX5_takeReady cX5_takeReady 2 (some .int) 0 := ⟨gm_at 77 (by decide +kernel), gm_r 778 rfl rfl, by decide +kernel⟩
theorem mi_X5_takeReady : Cond.instanceMethod yX5_takeReady ∈ gtbl := gm_at 777 (by decide +kernel)
theorem mv_X5_takeReady : Cond.selects RX5 yX5_takeReady yX5_takeReady ∈ gtbl := gm_at 18 (by decide +kernel)
set_option maxRecDepth 100000 in
theorem mf_X6_add : MF yX6_add cX6_add 2 none 1 := ⟨gm_at 75 (by decide +kernel), gm_r 786 rfl rfl, by decide +kernel⟩
theorem mi_X6_add : Cond.instanceMethod yX6_add ∈ gtbl := gm_at 784 (by decide +kernel)
theorem mv_X6_add : Cond.selects RX6 yX6_add yX6_add ∈ gtbl := gm_at 785 (by decide +kernel)
set_option maxRecDepth 100000 in
theorem mf_X5_comes : MF yX5_comes cX5_comes 5 none 1 := ⟨gm_at 77 (by decide +kernel), gm_r 782 rfl rfl, by decide +kernel⟩
theorem mi_X5_comes : Cond.instanceMethod yX5_comes ∈ gtbl := gm_at 781 (by decide +kernel)
theorem mv_X5_comes : Cond.selects RX5 yX5_comes yX5_comes ∈ gtbl := gm_at 19 (by decide +kernel)
set_option maxRecDepth 100000 in
theorem mf_X5_arrange : MF yX5_arrange cX5_arrange 5 (some .boolean) 1 := ⟨gm_at 77 (by decide +kernel), gm_r 724 rfl rfl, by decide +kernel⟩
theorem mi_X5_arrange : Cond.instanceMethod yX5_arrange ∈ gtbl := gm_at 722 (by decide +kernel)
theorem mv_X5_arrange : Cond.selects RX5 yX5_arrange yX5_arrange ∈ gtbl := gm_at 723 (by decide +kernel)
set_option maxRecDepth 100000 in
theorem mf_X5_has : MF yX5_has cX5_has 2 (some .boolean) 2 := ⟨gm_at 77 (by decide +kernel), gm_r 801 rfl rfl, by decide +kernel⟩
theorem ms_X5_has : Cond.static yX5_has ∈ gtbl := gm_at 800 (by decide +kernel)
set_option maxRecDepth 100000 in
theorem mf_X5_isLeft : MF yX5_isLeft cX5_isLeft 2 (some .boolean) 1 := ⟨gm_at 77 (by decide +kernel), gm_r 798 rfl rfl, by decide +kernel⟩
theorem mi_X5_isLeft : Cond.instanceMethod yX5_isLeft ∈ gtbl := gm_at 797 (by decide +kernel)
theorem mv_X5_isLeft : Cond.selects RX5 yX5_isLeft yX5_isLeft ∈ gtbl := gm_at 21 (by decide +kernel)
set_option maxRecDepth 100000 in
theorem mf_X5_spread : MF yX5_spread cX5_spread 6 none 1 := ⟨gm_at 77 (by decide +kernel), gm_r 809 rfl rfl, by decide +kernel⟩
theorem mi_X5_spread : Cond.instanceMethod yX5_spread ∈ gtbl := gm_at 808 (by decide +kernel)
theorem mv_X5_spread : Cond.selects RX5 yX5_spread yX5_spread ∈ gtbl := gm_at 23 (by decide +kernel)
set_option maxRecDepth 100000 in
theorem mf_X6_get : MF yX6_get cX6_get 2 (some .int) 1 := ⟨gm_at 75 (by decide +kernel), gm_r 408 rfl rfl, by decide +kernel⟩
theorem mi_X6_get : Cond.instanceMethod yX6_get ∈ gtbl := gm_at 406 (by decide +kernel)
theorem mv_X6_get : Cond.selects RX6 yX6_get yX6_get ∈ gtbl := gm_at 407 (by decide +kernel)
set_option maxRecDepth 100000 in
theorem mf_X5_leadsBack : MF yX5_leadsBack cX5_leadsBack 3 (some .boolean) 1 := ⟨gm_at 77 (by decide +kernel), gm_r 805 rfl rfl, by decide +kernel⟩
theorem mi_X5_leadsBack : Cond.instanceMethod yX5_leadsBack ∈ gtbl := gm_at 804 (by decide +kernel)
theorem mv_X5_leadsBack : Cond.selects RX5 yX5_leadsBack yX5_leadsBack ∈ gtbl := gm_at 22 (by decide +kernel)
set_option maxRecDepth 100000 in
theorem mf_X5_firstInRing : MF yX5_firstInRing cX5_firstInRing 2 (some .int) 0 := ⟨gm_at 77 (by decide +kernel), gm_r 794 rfl rfl, by decide +kernel⟩
theorem mi_X5_firstInRing : Cond.instanceMethod yX5_firstInRing ∈ gtbl := gm_at 793 (by decide +kernel)
theorem mv_X5_firstInRing : Cond.selects RX5 yX5_firstInRing yX5_firstInRing ∈ gtbl := gm_at 20 (by decide +kernel)
set_option maxRecDepth 100000 in
theorem mf_X5_readsEdge : MF yX5_readsEdge cX5_readsEdge 3 (some .boolean) 1 := ⟨gm_at 77 (by decide +kernel), gm_r 818 rfl rfl, by decide +kernel⟩
theorem mi_X5_readsEdge : Cond.instanceMethod yX5_readsEdge ∈ gtbl := gm_at 817 (by decide +kernel)
theorem mv_X5_readsEdge : Cond.selects RX5 yX5_readsEdge yX5_readsEdge ∈ gtbl := gm_at 25 (by decide +kernel)
set_option maxRecDepth 100000 in
theorem mf_X5_measure : MF yX5_measure cX5_measure 5 none 1 := ⟨gm_at 77 (by decide +kernel), gm_r 814 rfl rfl, by decide +kernel⟩
theorem mi_X5_measure : Cond.instanceMethod yX5_measure ∈ gtbl := gm_at 813 (by decide +kernel)
theorem mv_X5_measure : Cond.selects RX5 yX5_measure yX5_measure ∈ gtbl := gm_at 24 (by decide +kernel)
set_option maxRecDepth 100000 in
theorem mf_X5_nearer : MF yX5_nearer cX5_nearer 3 (some .int) 2 := ⟨gm_at 77 (by decide +kernel), gm_r 827 rfl rfl, by decide +kernel⟩
theorem mi_X5_nearer : Cond.instanceMethod yX5_nearer ∈ gtbl := gm_at 826 (by decide +kernel)
theorem mv_X5_nearer : Cond.selects RX5 yX5_nearer yX5_nearer ∈ gtbl := gm_at 27 (by decide +kernel)
set_option maxRecDepth 100000 in
theorem mf_X5_nearestRead : MF yX5_nearestRead cX5_nearestRead 9 (some .int) 1 := ⟨gm_at 77 (by decide +kernel), gm_r 823 rfl rfl, by decide +kernel⟩
theorem mi_X5_nearestRead : Cond.instanceMethod yX5_nearestRead ∈ gtbl := gm_at 822 (by decide +kernel)
theorem mv_X5_nearestRead : Cond.selects RX5 yX5_nearestRead yX5_nearestRead ∈ gtbl := gm_at 26 (by decide +kernel)
set_option maxRecDepth 100000 in
theorem mf_X5_findRing : MF yX5_findRing cX5_findRing 4 none 0 := ⟨gm_at 77 (by decide +kernel), gm_r 790 rfl rfl, by decide +kernel⟩
theorem mi_X5_findRing : Cond.instanceMethod yX5_findRing ∈ gtbl := gm_at 788 (by decide +kernel)
theorem mv_X5_findRing : Cond.selects RX5 yX5_findRing yX5_findRing ∈ gtbl := gm_at 789 (by decide +kernel)
set_option maxRecDepth 100000 in
theorem mf_X1_startFresh : MF yX1_startFresh cX1_startFresh 2 none 0 := ⟨gm_at 76 (by decide +kernel), gm_r 831 rfl rfl, by decide +kernel⟩
theorem mi_X1_startFresh : Cond.instanceMethod yX1_startFresh ∈ gtbl := gm_at 830 (by decide +kernel)
theorem mv_X1_startFresh : Cond.selects RX1 yX1_startFresh yX1_startFresh ∈ gtbl := gm_at 28 (by decide +kernel)
set_option maxRecDepth 100000 in
theorem mf_X1_hasChanged : MF yX1_hasChanged cX1_hasChanged 2 (some .boolean) 1 := ⟨gm_at 76 (by decide +kernel), gm_r 851 rfl rfl, by decide +kernel⟩
theorem mi_X1_hasChanged : Cond.instanceMethod yX1_hasChanged ∈ gtbl := gm_at 850 (by decide +kernel)
theorem mv_X1_hasChanged : Cond.selects RX1 yX1_hasChanged yX1_hasChanged ∈ gtbl := gm_at 31 (by decide +kernel)
set_option maxRecDepth 100000 in
theorem mf_X1_allDiffer : MF yX1_allDiffer cX1_allDiffer 6 (some .boolean) 2 := ⟨gm_at 76 (by decide +kernel), gm_r 844 rfl rfl, by decide +kernel⟩
theorem mi_X1_allDiffer : Cond.instanceMethod yX1_allDiffer ∈ gtbl := gm_at 843 (by decide +kernel)
theorem mv_X1_allDiffer : Cond.selects RX1 yX1_allDiffer yX1_allDiffer ∈ gtbl := gm_at 30 (by decide +kernel)
set_option maxRecDepth 100000 in
theorem mf_X1_oneDiffers : MF yX1_oneDiffers cX1_oneDiffers 6 (some .boolean) 3 := ⟨gm_at 76 (by decide +kernel), gm_r 856 rfl rfl, by decide +kernel⟩
theorem mi_X1_oneDiffers : Cond.instanceMethod yX1_oneDiffers ∈ gtbl := gm_at 855 (by decide +kernel)
theorem mv_X1_oneDiffers : Cond.selects RX1 yX1_oneDiffers yX1_oneDiffers ∈ gtbl := gm_at 32 (by decide +kernel)
set_option maxRecDepth 100000 in
theorem mf_X1_factDiffers : MF yX1_factDiffers cX1_factDiffers 4 (some .boolean) 2 := ⟨gm_at 76 (by decide +kernel), gm_r 867 rfl rfl, by decide +kernel⟩
theorem mi_X1_factDiffers : Cond.instanceMethod yX1_factDiffers ∈ gtbl := gm_at 866 (by decide +kernel)
theorem mv_X1_factDiffers : Cond.selects RX1 yX1_factDiffers yX1_factDiffers ∈ gtbl := gm_at 34 (by decide +kernel)
set_option maxRecDepth 100000 in
theorem mf_X1_listFactDiffers : MF yX1_listFactDiffers cX1_listFactDiffers 4 (some .boolean) 2 := ⟨gm_at 76 (by decide +kernel), gm_r 871 rfl rfl, by decide +kernel⟩
theorem mi_X1_listFactDiffers : Cond.instanceMethod yX1_listFactDiffers ∈ gtbl := gm_at 870 (by decide +kernel)
theorem mv_X1_listFactDiffers : Cond.selects RX1 yX1_listFactDiffers yX1_listFactDiffers ∈ gtbl := gm_at 35 (by decide +kernel)
set_option maxRecDepth 100000 in
theorem mf_X1_givenDiffers : MF yX1_givenDiffers cX1_givenDiffers 7 (some .boolean) 3 := ⟨gm_at 76 (by decide +kernel), gm_r 861 rfl rfl, by decide +kernel⟩
theorem mi_X1_givenDiffers : Cond.instanceMethod yX1_givenDiffers ∈ gtbl := gm_at 860 (by decide +kernel)
theorem mv_X1_givenDiffers : Cond.selects RX1 yX1_givenDiffers yX1_givenDiffers ∈ gtbl := gm_at 33 (by decide +kernel)
set_option maxRecDepth 100000 in
theorem mf_X1_isTouched : MF yX1_isTouched cX1_isTouched 7 (some .boolean) 1 := ⟨gm_at 76 (by decide +kernel), gm_r 836 rfl rfl, by decide +kernel⟩
theorem mi_X1_isTouched : Cond.instanceMethod yX1_isTouched ∈ gtbl := gm_at 835 (by decide +kernel)
theorem mv_X1_isTouched : Cond.selects RX1 yX1_isTouched yX1_isTouched ∈ gtbl := gm_at 29 (by decide +kernel)
set_option maxRecDepth 100000 in
theorem mf_X7_push : MF yX7_push cX7_push 3 none 1 := ⟨gm_at 78 (by decide +kernel), gm_r 483 rfl rfl, by decide +kernel⟩
theorem mi_X7_push : Cond.instanceMethod yX7_push ∈ gtbl := gm_at 482 (by decide +kernel)
theorem mv_X7_push : Cond.selects RX7 yX7_push yX7_push ∈ gtbl := gm_at 1 (by decide +kernel)
set_option maxRecDepth 100000 in
theorem mf_X7_pop : MF yX7_pop cX7_pop 1 (some .long) 0 := ⟨gm_at 78 (by decide +kernel), gm_r 489 rfl rfl, by decide +kernel⟩
theorem mi_X7_pop : Cond.instanceMethod yX7_pop ∈ gtbl := gm_at 488 (by decide +kernel)
theorem mv_X7_pop : Cond.selects RX7 yX7_pop yX7_pop ∈ gtbl := gm_at 2 (by decide +kernel)
set_option maxRecDepth 100000 in
theorem mf_X7_lookAtAll : MF yX7_lookAtAll cX7_lookAtAll 10 none 3 := ⟨gm_at 78 (by decide +kernel), gm_r 472 rfl rfl, by decide +kernel⟩
theorem mi_X7_lookAtAll : Cond.instanceMethod yX7_lookAtAll ∈ gtbl := gm_at 471 (by decide +kernel)
theorem mv_X7_lookAtAll : Cond.selects RX7 yX7_lookAtAll yX7_lookAtAll ∈ gtbl := gm_at 0 (by decide +kernel)
set_option maxRecDepth 100000 in
theorem mf_X7_lookAtOne : MF yX7_lookAtOne cX7_lookAtOne 5 none 3 := ⟨gm_at 78 (by decide +kernel), gm_r 503 rfl rfl, by decide +kernel⟩
theorem mi_X7_lookAtOne : Cond.instanceMethod yX7_lookAtOne ∈ gtbl := gm_at 502 (by decide +kernel)
theorem mv_X7_lookAtOne : Cond.selects RX7 yX7_lookAtOne yX7_lookAtOne ∈ gtbl := gm_at 3 (by decide +kernel)
set_option maxRecDepth 100000 in
theorem mf_X7_given : MF yX7_given cX7_given 6 (some .long) 3 := ⟨gm_at 78 (by decide +kernel), gm_r 519 rfl rfl, by decide +kernel⟩
theorem mi_X7_given : Cond.instanceMethod yX7_given ∈ gtbl := gm_at 518 (by decide +kernel)
theorem mv_X7_given : Cond.selects RX7 yX7_given yX7_given ∈ gtbl := gm_at 4 (by decide +kernel)
set_option maxRecDepth 100000 in
theorem mf_X7_choose : MF yX7_choose cX7_choose 5 none 1 := ⟨gm_at 78 (by decide +kernel), gm_r 529 rfl rfl, by decide +kernel⟩
theorem mi_X7_choose : Cond.instanceMethod yX7_choose ∈ gtbl := gm_at 528 (by decide +kernel)
theorem mv_X7_choose : Cond.selects RX7 yX7_choose yX7_choose ∈ gtbl := gm_at 6 (by decide +kernel)
set_option maxRecDepth 100000 in
theorem mf_X7_times : MF yX7_times cX7_times 5 none 2 := ⟨gm_at 78 (by decide +kernel), gm_r 537 rfl rfl, by decide +kernel⟩
theorem mi_X7_times : Cond.instanceMethod yX7_times ∈ gtbl := gm_at 536 (by decide +kernel)
theorem mv_X7_times : Cond.selects RX7 yX7_times yX7_times ∈ gtbl := gm_at 8 (by decide +kernel)
set_option maxRecDepth 100000 in
theorem mf_X7_by : MF yX7_by cX7_by 5 none 2 := ⟨gm_at 78 (by decide +kernel), gm_r 544 rfl rfl, by decide +kernel⟩
theorem mi_X7_by : Cond.instanceMethod yX7_by ∈ gtbl := gm_at 543 (by decide +kernel)
theorem mv_X7_by : Cond.selects RX7 yX7_by yX7_by ∈ gtbl := gm_at 9 (by decide +kernel)
set_option maxRecDepth 100000 in
theorem mf_X7_join : MF yX7_join cX7_join 6 none 3 := ⟨gm_at 78 (by decide +kernel), gm_r 533 rfl rfl, by decide +kernel⟩
theorem mi_X7_join : Cond.instanceMethod yX7_join ∈ gtbl := gm_at 532 (by decide +kernel)
theorem mv_X7_join : Cond.selects RX7 yX7_join yX7_join ∈ gtbl := gm_at 7 (by decide +kernel)
set_option maxRecDepth 100000 in
theorem mf_X7_reckon : MF yX7_reckon cX7_reckon 4 none 1 := ⟨gm_at 78 (by decide +kernel), gm_r 525 rfl rfl, by decide +kernel⟩
theorem mi_X7_reckon : Cond.instanceMethod yX7_reckon ∈ gtbl := gm_at 524 (by decide +kernel)
theorem mv_X7_reckon : Cond.selects RX7 yX7_reckon yX7_reckon ∈ gtbl := gm_at 5 (by decide +kernel)
set_option maxRecDepth 100000 in
theorem mf_X7_work : MF yX7_work cX7_work 8 (some .boolean) 3 := ⟨gm_at 78 (by decide +kernel), gm_r 446 rfl rfl, by decide +kernel⟩
theorem mi_X7_work : Cond.instanceMethod yX7_work ∈ gtbl := gm_at 444 (by decide +kernel)
theorem mv_X7_work : Cond.selects RX7 yX7_work yX7_work ∈ gtbl := gm_at 445 (by decide +kernel)
set_option maxRecDepth 100000 in
theorem mf_X1_fails : MF yX1_fails cX1_fails 2 none 1 := ⟨gm_at 76 (by decide +kernel), gm_r 875 rfl rfl, by decide +kernel⟩
theorem mi_X1_fails : Cond.instanceMethod yX1_fails ∈ gtbl := gm_at 874 (by decide +kernel)
theorem mv_X1_fails : Cond.selects RX1 yX1_fails yX1_fails ∈ gtbl := gm_at 36 (by decide +kernel)
set_option maxRecDepth 100000 in
theorem mf_X1_weigh : MF yX1_weigh cX1_weigh 8 (some .int) 4 := ⟨gm_at 76 (by decide +kernel), gm_r 712 rfl rfl, by decide +kernel⟩
theorem mi_X1_weigh : Cond.instanceMethod yX1_weigh ∈ gtbl := gm_at 710 (by decide +kernel)
theorem mv_X1_weigh : Cond.selects RX1 yX1_weigh yX1_weigh ∈ gtbl := gm_at 711 (by decide +kernel)
set_option maxRecDepth 100000 in
theorem mf_X6_copyFrom : MF yX6_copyFrom cX6_copyFrom 2 none 1 := ⟨gm_at 75 (by decide +kernel), gm_r 885 rfl rfl, by decide +kernel⟩
theorem mi_X6_copyFrom : Cond.instanceMethod yX6_copyFrom ∈ gtbl := gm_at 883 (by decide +kernel)
theorem mv_X6_copyFrom : Cond.selects RX6 yX6_copyFrom yX6_copyFrom ∈ gtbl := gm_at 884 (by decide +kernel)
set_option maxRecDepth 100000 in
theorem mf_X8_accept : MF yX8_accept cX8_accept 1 none 0 := ⟨gm_at 71 (by decide +kernel), gm_r 880 rfl rfl, by decide +kernel⟩
theorem mi_X8_accept : Cond.instanceMethod yX8_accept ∈ gtbl := gm_at 879 (by decide +kernel)
theorem mv_X8_accept : Cond.selects RX8 yX8_accept yX8_accept ∈ gtbl := gm_at 37 (by decide +kernel)
set_option maxRecDepth 100000 in
theorem mf_X8_open : MF yX8_open cX8_open 2 (some .int) 0 := ⟨gm_at 71 (by decide +kernel), gm_r 708 rfl rfl, by decide +kernel⟩
theorem mi_X8_open : Cond.instanceMethod yX8_open ∈ gtbl := gm_at 706 (by decide +kernel)
theorem mv_X8_open : Cond.selects RX8 yX8_open yX8_open ∈ gtbl := gm_at 707 (by decide +kernel)
set_option maxRecDepth 100000 in
theorem mf_X8_needThing : MF yX8_needThing cX8_needThing 2 none 1 := ⟨gm_at 71 (by decide +kernel), gm_r 898 rfl rfl, by decide +kernel⟩
theorem mi_X8_needThing : Cond.instanceMethod yX8_needThing ∈ gtbl := gm_at 897 (by decide +kernel)
theorem mv_X8_needThing : Cond.selects RX8 yX8_needThing yX8_needThing ∈ gtbl := gm_at 38 (by decide +kernel)
set_option maxRecDepth 100000 in
theorem mf_X8_needList : MF yX8_needList cX8_needList 2 none 1 := ⟨gm_at 71 (by decide +kernel), gm_r 918 rfl rfl, by decide +kernel⟩
theorem mi_X8_needList : Cond.instanceMethod yX8_needList ∈ gtbl := gm_at 917 (by decide +kernel)
theorem mv_X8_needList : Cond.selects RX8 yX8_needList yX8_needList ∈ gtbl := gm_at 39 (by decide +kernel)
set_option maxRecDepth 100000 in
theorem mf_X8_needClosedBook : MF yX8_needClosedBook cX8_needClosedBook 1 none 0 := ⟨gm_at 71 (by decide +kernel), gm_r 923 rfl rfl, by decide +kernel⟩
theorem mi_X8_needClosedBook : Cond.instanceMethod yX8_needClosedBook ∈ gtbl := gm_at 922 (by decide +kernel)
theorem mv_X8_needClosedBook : Cond.selects RX8 yX8_needClosedBook yX8_needClosedBook ∈ gtbl := gm_at 40 (by decide +kernel)
set_option maxRecDepth 100000 in
theorem mf_X4_seat : MF yX4_seat cX4_seat 5 none 2 := ⟨gm_at 73 (by decide +kernel), gm_r 932 rfl rfl, by decide +kernel⟩
theorem mi_X4_seat : Cond.instanceMethod yX4_seat ∈ gtbl := gm_at 931 (by decide +kernel)
theorem mv_X4_seat : Cond.selects RX4 yX4_seat yX4_seat ∈ gtbl := gm_at 41 (by decide +kernel)
set_option maxRecDepth 100000 in
theorem mf_X4_insert : MF yX4_insert cX4_insert 6 none 3 := ⟨gm_at 73 (by decide +kernel), gm_r 928 rfl rfl, by decide +kernel⟩
theorem mi_X4_insert : Cond.instanceMethod yX4_insert ∈ gtbl := gm_at 926 (by decide +kernel)
theorem mv_X4_insert : Cond.selects RX4 yX4_insert yX4_insert ∈ gtbl := gm_at 927 (by decide +kernel)
set_option maxRecDepth 100000 in
theorem mf_X4_copyFrom : MF yX4_copyFrom cX4_copyFrom 2 none 1 := ⟨gm_at 73 (by decide +kernel), gm_r 940 rfl rfl, by decide +kernel⟩
theorem mi_X4_copyFrom : Cond.instanceMethod yX4_copyFrom ∈ gtbl := gm_at 938 (by decide +kernel)
theorem mv_X4_copyFrom : Cond.selects RX4 yX4_copyFrom yX4_copyFrom ∈ gtbl := gm_at 939 (by decide +kernel)
set_option maxRecDepth 100000 in
theorem mf_X2_init : MF yX2_init cX2_init 1 none 0 := ⟨gm_at 90 (by decide +kernel), gm_r 949 rfl rfl, by decide +kernel⟩
theorem mi_X2_init : Cond.instanceMethod yX2_init ∈ gtbl := gm_at 948 (by decide +kernel)
set_option maxRecDepth 100000 in
theorem mf_X3_keep : MF yX3_keep cX3_keep 4 none 2 := ⟨gm_at 79 (by decide +kernel), gm_r 945 rfl rfl, by decide +kernel⟩
theorem mi_X3_keep : Cond.instanceMethod yX3_keep ∈ gtbl := gm_at 943 (by decide +kernel)
theorem mv_X3_keep : Cond.selects RX3 yX3_keep yX3_keep ∈ gtbl := gm_at 944 (by decide +kernel)
set_option maxRecDepth 100000 in
theorem mf_X8_settle : MF yX8_settle cX8_settle 2 (some .int) 0 := ⟨gm_at 71 (by decide +kernel), gm_r 936 rfl rfl, by decide +kernel⟩
theorem mi_X8_settle : Cond.instanceMethod yX8_settle ∈ gtbl := gm_at 935 (by decide +kernel)
theorem mv_X8_settle : Cond.selects RX8 yX8_settle yX8_settle ∈ gtbl := gm_at 42 (by decide +kernel)
set_option maxRecDepth 100000 in
theorem mf_X8_place : MF yX8_place cX8_place 4 (some .int) 3 := ⟨gm_at 71 (by decide +kernel), gm_r 894 rfl rfl, by decide +kernel⟩
theorem mi_X8_place : Cond.instanceMethod yX8_place ∈ gtbl := gm_at 892 (by decide +kernel)
theorem mv_X8_place : Cond.selects RX8 yX8_place yX8_place ∈ gtbl := gm_at 893 (by decide +kernel)
set_option maxRecDepth 100000 in
theorem mf_X4_remove : MF yX4_remove cX4_remove 6 none 1 := ⟨gm_at 73 (by decide +kernel), gm_r 977 rfl rfl, by decide +kernel⟩
theorem mi_X4_remove : Cond.instanceMethod yX4_remove ∈ gtbl := gm_at 975 (by decide +kernel)
theorem mv_X4_remove : Cond.selects RX4 yX4_remove yX4_remove ∈ gtbl := gm_at 976 (by decide +kernel)
set_option maxRecDepth 100000 in
theorem mf_X8_take : MF yX8_take cX8_take 2 (some .int) 1 := ⟨gm_at 71 (by decide +kernel), gm_r 972 rfl rfl, by decide +kernel⟩
theorem mi_X8_take : Cond.instanceMethod yX8_take ∈ gtbl := gm_at 970 (by decide +kernel)
theorem mv_X8_take : Cond.selects RX8 yX8_take yX8_take ∈ gtbl := gm_at 971 (by decide +kernel)
set_option maxRecDepth 100000 in
theorem mf_X8_move : MF yX8_move cX8_move 6 (some .int) 3 := ⟨gm_at 71 (by decide +kernel), gm_r 984 rfl rfl, by decide +kernel⟩
theorem mi_X8_move : Cond.instanceMethod yX8_move ∈ gtbl := gm_at 982 (by decide +kernel)
theorem mv_X8_move : Cond.selects RX8 yX8_move yX8_move ∈ gtbl := gm_at 983 (by decide +kernel)
set_option maxRecDepth 100000 in
theorem mf_X4_putAt : MF yX4_putAt cX4_putAt 4 none 3 := ⟨gm_at 73 (by decide +kernel), gm_r 999 rfl rfl, by decide +kernel⟩
theorem mi_X4_putAt : Cond.instanceMethod yX4_putAt ∈ gtbl := gm_at 998 (by decide +kernel)
theorem mv_X4_putAt : Cond.selects RX4 yX4_putAt yX4_putAt ∈ gtbl := gm_at 43 (by decide +kernel)
set_option maxRecDepth 100000 in
theorem mf_X4_exchange : MF yX4_exchange cX4_exchange 5 none 2 := ⟨gm_at 73 (by decide +kernel), gm_r 995 rfl rfl, by decide +kernel⟩
theorem mi_X4_exchange : Cond.instanceMethod yX4_exchange ∈ gtbl := gm_at 993 (by decide +kernel)
theorem mv_X4_exchange : Cond.selects RX4 yX4_exchange yX4_exchange ∈ gtbl := gm_at 994 (by decide +kernel)
set_option maxRecDepth 100000 in
theorem mf_X8_swap : MF yX8_swap cX8_swap 3 (some .int) 2 := ⟨gm_at 71 (by decide +kernel), gm_r 991 rfl rfl, by decide +kernel⟩
theorem mi_X8_swap : Cond.instanceMethod yX8_swap ∈ gtbl := gm_at 989 (by decide +kernel)
theorem mv_X8_swap : Cond.selects RX8 yX8_swap yX8_swap ∈ gtbl := gm_at 990 (by decide +kernel)
set_option maxRecDepth 100000 in
theorem mf_X4_reverse : MF yX4_reverse cX4_reverse 8 none 3 := ⟨gm_at 73 (by decide +kernel), gm_r 1010 rfl rfl, by decide +kernel⟩
theorem mi_X4_reverse : Cond.instanceMethod yX4_reverse ∈ gtbl := gm_at 1008 (by decide +kernel)
theorem mv_X4_reverse : Cond.selects RX4 yX4_reverse yX4_reverse ∈ gtbl := gm_at 1009 (by decide +kernel)
set_option maxRecDepth 100000 in
theorem mf_X8_turn : MF yX8_turn cX8_turn 4 (some .int) 3 := ⟨gm_at 71 (by decide +kernel), gm_r 1006 rfl rfl, by decide +kernel⟩
theorem mi_X8_turn : Cond.instanceMethod yX8_turn ∈ gtbl := gm_at 1004 (by decide +kernel)
theorem mv_X8_turn : Cond.selects RX8 yX8_turn yX8_turn ∈ gtbl := gm_at 1005 (by decide +kernel)
set_option maxRecDepth 100000 in
theorem mf_X4_crossTails : MF yX4_crossTails cX4_crossTails 11 none 4 := ⟨gm_at 73 (by decide +kernel), gm_r 1021 rfl rfl, by decide +kernel⟩
theorem mi_X4_crossTails : Cond.instanceMethod yX4_crossTails ∈ gtbl := gm_at 1019 (by decide +kernel)
theorem mv_X4_crossTails : Cond.selects RX4 yX4_crossTails yX4_crossTails ∈ gtbl := gm_at 1020 (by decide +kernel)
set_option maxRecDepth 100000 in
theorem mf_X8_tails : MF yX8_tails cX8_tails 5 (some .int) 4 := ⟨gm_at 71 (by decide +kernel), gm_r 1017 rfl rfl, by decide +kernel⟩
theorem mi_X8_tails : Cond.instanceMethod yX8_tails ∈ gtbl := gm_at 1015 (by decide +kernel)
theorem mv_X8_tails : Cond.selects RX8 yX8_tails yX8_tails ∈ gtbl := gm_at 1016 (by decide +kernel)
set_option maxRecDepth 100000 in
theorem mf_X8_fact : MF yX8_fact cX8_fact 5 (some .int) 3 := ⟨gm_at 71 (by decide +kernel), gm_r 1028 rfl rfl, by decide +kernel⟩
theorem mi_X8_fact : Cond.instanceMethod yX8_fact ∈ gtbl := gm_at 1026 (by decide +kernel)
theorem mv_X8_fact : Cond.selects RX8 yX8_fact yX8_fact ∈ gtbl := gm_at 1027 (by decide +kernel)
set_option maxRecDepth 100000 in
theorem mf_X8_listFact : MF yX8_listFact cX8_listFact 4 (some .int) 3 := ⟨gm_at 71 (by decide +kernel), gm_r 1035 rfl rfl, by decide +kernel⟩
theorem mi_X8_listFact : Cond.instanceMethod yX8_listFact ∈ gtbl := gm_at 1033 (by decide +kernel)
theorem mv_X8_listFact : Cond.selects RX8 yX8_listFact yX8_listFact ∈ gtbl := gm_at 1034 (by decide +kernel)
set_option maxRecDepth 100000 in
theorem mf_X8_link : MF yX8_link cX8_link 3 (some .int) 2 := ⟨gm_at 71 (by decide +kernel), gm_r 1042 rfl rfl, by decide +kernel⟩
theorem mi_X8_link : Cond.instanceMethod yX8_link ∈ gtbl := gm_at 1040 (by decide +kernel)
theorem mv_X8_link : Cond.selects RX8 yX8_link yX8_link ∈ gtbl := gm_at 1041 (by decide +kernel)
set_option maxRecDepth 100000 in
theorem mf_X8_freeze : MF yX8_freeze cX8_freeze 3 (some .int) 2 := ⟨gm_at 71 (by decide +kernel), gm_r 1049 rfl rfl, by decide +kernel⟩
theorem mi_X8_freeze : Cond.instanceMethod yX8_freeze ∈ gtbl := gm_at 1047 (by decide +kernel)
theorem mv_X8_freeze : Cond.selects RX8 yX8_freeze yX8_freeze ∈ gtbl := gm_at 1048 (by decide +kernel)
set_option maxRecDepth 100000 in
theorem mf_X8_begin : MF yX8_begin cX8_begin 1 none 0 := ⟨gm_at 71 (by decide +kernel), gm_r 1056 rfl rfl, by decide +kernel⟩
theorem mi_X8_begin : Cond.instanceMethod yX8_begin ∈ gtbl := gm_at 1054 (by decide +kernel)
theorem mv_X8_begin : Cond.selects RX8 yX8_begin yX8_begin ∈ gtbl := gm_at 1055 (by decide +kernel)
set_option maxRecDepth 100000 in
theorem mf_X8_needGroup : MF yX8_needGroup cX8_needGroup 1 none 0 := ⟨gm_at 71 (by decide +kernel), gm_r 1068 rfl rfl, by decide +kernel⟩
theorem mi_X8_needGroup : Cond.instanceMethod yX8_needGroup ∈ gtbl := gm_at 1067 (by decide +kernel)
theorem mv_X8_needGroup : Cond.selects RX8 yX8_needGroup yX8_needGroup ∈ gtbl := gm_at 44 (by decide +kernel)
set_option maxRecDepth 100000 in
theorem mf_X8_end : MF yX8_end cX8_end 1 (some .int) 0 := ⟨gm_at 71 (by decide +kernel), gm_r 1064 rfl rfl, by decide +kernel⟩
theorem mi_X8_end : Cond.instanceMethod yX8_end ∈ gtbl := gm_at 1062 (by decide +kernel)
theorem mv_X8_end : Cond.selects RX8 yX8_end yX8_end ∈ gtbl := gm_at 1063 (by decide +kernel)
set_option maxRecDepth 100000 in
theorem mf_X8_drop : MF yX8_drop cX8_drop 2 (some .int) 0 := ⟨gm_at 71 (by decide +kernel), gm_r 1076 rfl rfl, by decide +kernel⟩
theorem mi_X8_drop : Cond.instanceMethod yX8_drop ∈ gtbl := gm_at 1074 (by decide +kernel)
theorem mv_X8_drop : Cond.selects RX8 yX8_drop yX8_drop ∈ gtbl := gm_at 1075 (by decide +kernel)
set_option maxRecDepth 100000 in
theorem mf_X3_takeLatest : MF yX3_takeLatest cX3_takeLatest 1 (some (.object "ShadowOrder$Moment")) 0 := ⟨gm_at 79 (by decide +kernel), gm_r 1087 rfl rfl, by decide +kernel⟩
theorem mi_X3_takeLatest : Cond.instanceMethod yX3_takeLatest ∈ gtbl := gm_at 1085 (by decide +kernel)
theorem mv_X3_takeLatest : Cond.selects RX3 yX3_takeLatest yX3_takeLatest ∈ gtbl := gm_at 1086 (by decide +kernel)
set_option maxRecDepth 100000 in
theorem mf_X8_changesTo : MF yX8_changesTo cX8_changesTo 5 (some .int) 1 := ⟨gm_at 71 (by decide +kernel), gm_r 1091 rfl rfl, by decide +kernel⟩
theorem mi_X8_changesTo : Cond.instanceMethod yX8_changesTo ∈ gtbl := gm_at 1090 (by decide +kernel)
theorem mv_X8_changesTo : Cond.selects RX8 yX8_changesTo yX8_changesTo ∈ gtbl := gm_at 45 (by decide +kernel)
set_option maxRecDepth 100000 in
theorem mf_X8_undo : MF yX8_undo cX8_undo 3 (some .int) 0 := ⟨gm_at 71 (by decide +kernel), gm_r 1083 rfl rfl, by decide +kernel⟩
theorem mi_X8_undo : Cond.instanceMethod yX8_undo ∈ gtbl := gm_at 1081 (by decide +kernel)
theorem mv_X8_undo : Cond.selects RX8 yX8_undo yX8_undo ∈ gtbl := gm_at 1082 (by decide +kernel)
set_option maxRecDepth 100000 in
theorem mf_X8_shadow : MF yX8_shadow cX8_shadow 3 (some .long) 2 := ⟨gm_at 71 (by decide +kernel), gm_r 1101 rfl rfl, by decide +kernel⟩
theorem mi_X8_shadow : Cond.instanceMethod yX8_shadow ∈ gtbl := gm_at 1099 (by decide +kernel)
theorem mv_X8_shadow : Cond.selects RX8 yX8_shadow yX8_shadow ∈ gtbl := gm_at 1100 (by decide +kernel)
set_option maxRecDepth 100000 in
theorem mf_X8_listShadow : MF yX8_listShadow cX8_listShadow 3 (some .long) 2 := ⟨gm_at 71 (by decide +kernel), gm_r 1110 rfl rfl, by decide +kernel⟩
theorem mi_X8_listShadow : Cond.instanceMethod yX8_listShadow ∈ gtbl := gm_at 1108 (by decide +kernel)
theorem mv_X8_listShadow : Cond.selects RX8 yX8_listShadow yX8_listShadow ∈ gtbl := gm_at 1109 (by decide +kernel)
set_option maxRecDepth 100000 in
theorem mf_X4_neighbour : MF yX4_neighbour cX4_neighbour 4 (some .int) 2 := ⟨gm_at 73 (by decide +kernel), gm_r 1123 rfl rfl, by decide +kernel⟩
theorem mi_X4_neighbour : Cond.instanceMethod yX4_neighbour ∈ gtbl := gm_at 1121 (by decide +kernel)
theorem mv_X4_neighbour : Cond.selects RX4 yX4_neighbour yX4_neighbour ∈ gtbl := gm_at 1122 (by decide +kernel)
set_option maxRecDepth 100000 in
theorem mf_X8_where : MF yX8_where cX8_where 3 (some .int) 2 := ⟨gm_at 71 (by decide +kernel), gm_r 1119 rfl rfl, by decide +kernel⟩
theorem mi_X8_where : Cond.instanceMethod yX8_where ∈ gtbl := gm_at 1117 (by decide +kernel)
theorem mv_X8_where : Cond.selects RX8 yX8_where yX8_where ∈ gtbl := gm_at 1118 (by decide +kernel)
set_option maxRecDepth 100000 in
theorem mf_X8_at : MF yX8_at cX8_at 3 (some .int) 2 := ⟨gm_at 71 (by decide +kernel), gm_r 1130 rfl rfl, by decide +kernel⟩
theorem mi_X8_at : Cond.instanceMethod yX8_at ∈ gtbl := gm_at 1128 (by decide +kernel)
theorem mv_X8_at : Cond.selects RX8 yX8_at yX8_at ∈ gtbl := gm_at 1129 (by decide +kernel)
set_option maxRecDepth 100000 in
theorem mf_X8_worked : MF yX8_worked cX8_worked 2 (some .int) 1 := ⟨gm_at 71 (by decide +kernel), gm_r 404 rfl rfl, by decide +kernel⟩
theorem mi_X8_worked : Cond.instanceMethod yX8_worked ∈ gtbl := gm_at 402 (by decide +kernel)
theorem mv_X8_worked : Cond.selects RX8 yX8_worked yX8_worked ∈ gtbl := gm_at 403 (by decide +kernel)
set_option maxRecDepth 100000 in
theorem mf_X8_order : MF yX8_order cX8_order 2 (some .int) 1 := ⟨gm_at 71 (by decide +kernel), gm_r 412 rfl rfl, by decide +kernel⟩
theorem mi_X8_order : Cond.instanceMethod yX8_order ∈ gtbl := gm_at 410 (by decide +kernel)
theorem mv_X8_order : Cond.selects RX8 yX8_order yX8_order ∈ gtbl := gm_at 411 (by decide +kernel)
set_option maxRecDepth 100000 in
theorem mf_X8_ring : MF yX8_ring cX8_ring 2 (some .int) 1 := ⟨gm_at 71 (by decide +kernel), gm_r 416 rfl rfl, by decide +kernel⟩
theorem mi_X8_ring : Cond.instanceMethod yX8_ring ∈ gtbl := gm_at 414 (by decide +kernel)
theorem mv_X8_ring : Cond.selects RX8 yX8_ring yX8_ring ∈ gtbl := gm_at 415 (by decide +kernel)
set_option maxRecDepth 100000 in
theorem mf_X8_cause : MF yX8_cause cX8_cause 2 (some .int) 1 := ⟨gm_at 71 (by decide +kernel), gm_r 1138 rfl rfl, by decide +kernel⟩
theorem mi_X8_cause : Cond.instanceMethod yX8_cause ∈ gtbl := gm_at 1136 (by decide +kernel)
theorem mv_X8_cause : Cond.selects RX8 yX8_cause yX8_cause ∈ gtbl := gm_at 1137 (by decide +kernel)
set_option maxRecDepth 100000 in
theorem mf_X8_count : MF yX8_count cX8_count 2 (some .int) 1 := ⟨gm_at 71 (by decide +kernel), gm_r 1145 rfl rfl, by decide +kernel⟩
theorem mi_X8_count : Cond.instanceMethod yX8_count ∈ gtbl := gm_at 1143 (by decide +kernel)
theorem mv_X8_count : Cond.selects RX8 yX8_count yX8_count ∈ gtbl := gm_at 1144 (by decide +kernel)
set_option maxRecDepth 100000 in
theorem mf_X1_agrees : MF yX1_agrees cX1_agrees 6 (some .boolean) 3 := ⟨gm_at 76 (by decide +kernel), gm_r 424 rfl rfl, by decide +kernel⟩
theorem mi_X1_agrees : Cond.instanceMethod yX1_agrees ∈ gtbl := gm_at 422 (by decide +kernel)
theorem mv_X1_agrees : Cond.selects RX1 yX1_agrees yX1_agrees ∈ gtbl := gm_at 423 (by decide +kernel)
set_option maxRecDepth 100000 in
theorem mf_X8_isSame : MF yX8_isSame cX8_isSame 1 (some .boolean) 0 := ⟨gm_at 71 (by decide +kernel), gm_r 420 rfl rfl, by decide +kernel⟩
theorem mi_X8_isSame : Cond.instanceMethod yX8_isSame ∈ gtbl := gm_at 418 (by decide +kernel)
theorem mv_X8_isSame : Cond.selects RX8 yX8_isSame yX8_isSame ∈ gtbl := gm_at 419 (by decide +kernel)
set_option maxRecDepth 100000 in
theorem mf_X9_thrown : MF yX9_thrown cX9_thrown 1 (some .int) 0 := ⟨gm_at 80 (by decide +kernel), gm_r 1149 rfl rfl, by decide +kernel⟩
theorem mi_X9_thrown : Cond.instanceMethod yX9_thrown ∈ gtbl := gm_at 1147 (by decide +kernel)
theorem mv_X9_thrown : Cond.selects RX9 yX9_thrown yX9_thrown ∈ gtbl := gm_at 1148 (by decide +kernel)
set_option maxRecDepth 100000 in
theorem mf_X9_copyInts : MF yX9_copyInts cX9_copyInts 6 none 5 := ⟨gm_at 80 (by decide +kernel), gm_r 1159 rfl rfl, by decide +kernel⟩
theorem ms_X9_copyInts : Cond.static yX9_copyInts ∈ gtbl := gm_at 1158 (by decide +kernel)
set_option maxRecDepth 100000 in
theorem mf_X9_init : MF yX9_init cX9_init 2 none 0 := ⟨gm_at 80 (by decide +kernel), gm_r 1154 rfl rfl, by decide +kernel⟩
theorem mi_X9_init : Cond.instanceMethod yX9_init ∈ gtbl := gm_at 1153 (by decide +kernel)
set_option maxRecDepth 100000 in
theorem mf_X9_copyLongs : MF yX9_copyLongs cX9_copyLongs 6 none 5 := ⟨gm_at 80 (by decide +kernel), gm_r 1414 rfl rfl, by decide +kernel⟩
theorem ms_X9_copyLongs : Cond.static yX9_copyLongs ∈ gtbl := gm_at 1413 (by decide +kernel)
set_option maxRecDepth 100000 in
theorem mf_X9_fail : MF yX9_fail cX9_fail 2 (some .int) 1 := ⟨gm_at 80 (by decide +kernel), gm_r 1295 rfl rfl, by decide +kernel⟩
theorem mi_X9_fail : Cond.instanceMethod yX9_fail ∈ gtbl := gm_at 1294 (by decide +kernel)
theorem mv_X9_fail : Cond.selects RX9 yX9_fail yX9_fail ∈ gtbl := gm_at 46 (by decide +kernel)
set_option maxRecDepth 100000 in
theorem mf_X9_isThing : MF yX9_isThing cX9_isThing 2 (some .boolean) 1 := ⟨gm_at 80 (by decide +kernel), gm_r 1422 rfl rfl, by decide +kernel⟩
theorem mi_X9_isThing : Cond.instanceMethod yX9_isThing ∈ gtbl := gm_at 1421 (by decide +kernel)
theorem mv_X9_isThing : Cond.selects RX9 yX9_isThing yX9_isThing ∈ gtbl := gm_at 64 (by decide +kernel)
set_option maxRecDepth 100000 in
theorem mf_X9_isList : MF yX9_isList cX9_isList 2 (some .boolean) 1 := ⟨gm_at 80 (by decide +kernel), gm_r 1426 rfl rfl, by decide +kernel⟩
theorem mi_X9_isList : Cond.instanceMethod yX9_isList ∈ gtbl := gm_at 1425 (by decide +kernel)
theorem mv_X9_isList : Cond.selects RX9 yX9_isList yX9_isList ∈ gtbl := gm_at 65 (by decide +kernel)
set_option maxRecDepth 100000 in
theorem mf_X9_thing : MF yX9_thing cX9_thing 5 (some .int) 4 := ⟨gm_at 80 (by decide +kernel), gm_r 1291 rfl rfl, by decide +kernel⟩
theorem mi_X9_thing : Cond.instanceMethod yX9_thing ∈ gtbl := gm_at 1289 (by decide +kernel)
theorem mv_X9_thing : Cond.selects RX9 yX9_thing yX9_thing ∈ gtbl := gm_at 1290 (by decide +kernel)
set_option maxRecDepth 100000 in
theorem mf_X9_list : MF yX9_list cX9_list 3 (some .int) 2 := ⟨gm_at 80 (by decide +kernel), gm_r 1299 rfl rfl, by decide +kernel⟩
theorem mi_X9_list : Cond.instanceMethod yX9_list ∈ gtbl := gm_at 1297 (by decide +kernel)
theorem mv_X9_list : Cond.selects RX9 yX9_list yX9_list ∈ gtbl := gm_at 1298 (by decide +kernel)
set_option maxRecDepth 100000 in
theorem mf_X9_step : MF yX9_step cX9_step 3 (some .int) 2 := ⟨gm_at 80 (by decide +kernel), gm_r 1303 rfl rfl, by decide +kernel⟩
theorem mi_X9_step : Cond.instanceMethod yX9_step ∈ gtbl := gm_at 1301 (by decide +kernel)
theorem mv_X9_step : Cond.selects RX9 yX9_step yX9_step ∈ gtbl := gm_at 1302 (by decide +kernel)
set_option maxRecDepth 100000 in
theorem mf_X9_takes : MF yX9_takes cX9_takes 1 (some .int) 1 := ⟨gm_at 80 (by decide +kernel), gm_r 1313 rfl rfl, by decide +kernel⟩
theorem ms_X9_takes : Cond.static yX9_takes ∈ gtbl := gm_at 1312 (by decide +kernel)
set_option maxRecDepth 100000 in
theorem mf_X9_gives : MF yX9_gives cX9_gives 1 (some .int) 1 := ⟨gm_at 80 (by decide +kernel), gm_r 1316 rfl rfl, by decide +kernel⟩
theorem ms_X9_gives : Cond.static yX9_gives ∈ gtbl := gm_at 1315 (by decide +kernel)
set_option maxRecDepth 100000 in
theorem mf_X9_isStep : MF yX9_isStep cX9_isStep 5 (some .boolean) 3 := ⟨gm_at 80 (by decide +kernel), gm_r 1310 rfl rfl, by decide +kernel⟩
theorem ms_X9_isStep : Cond.static yX9_isStep ∈ gtbl := gm_at 1309 (by decide +kernel)
set_option maxRecDepth 100000 in
theorem mf_X9_maker : MF yX9_maker cX9_maker 6 (some .int) 1 := ⟨gm_at 80 (by decide +kernel), gm_r 1307 rfl rfl, by decide +kernel⟩
theorem mi_X9_maker : Cond.instanceMethod yX9_maker ∈ gtbl := gm_at 1305 (by decide +kernel)
theorem mv_X9_maker : Cond.selects RX9 yX9_maker yX9_maker ∈ gtbl := gm_at 1306 (by decide +kernel)
set_option maxRecDepth 100000 in
theorem mf_X9_kindOf : MF yX9_kindOf cX9_kindOf 1 (some .int) 1 := ⟨gm_at 80 (by decide +kernel), gm_r 1335 rfl rfl, by decide +kernel⟩
theorem ms_X9_kindOf : Cond.static yX9_kindOf ∈ gtbl := gm_at 1334 (by decide +kernel)
set_option maxRecDepth 100000 in
theorem mf_X9_ownerOf : MF yX9_ownerOf cX9_ownerOf 1 (some .int) 1 := ⟨gm_at 80 (by decide +kernel), gm_r 1338 rfl rfl, by decide +kernel⟩
theorem ms_X9_ownerOf : Cond.static yX9_ownerOf ∈ gtbl := gm_at 1337 (by decide +kernel)
set_option maxRecDepth 100000 in
theorem mf_X9_isCell : MF yX9_isCell cX9_isCell 3 (some .boolean) 2 := ⟨gm_at 80 (by decide +kernel), gm_r 1332 rfl rfl, by decide +kernel⟩
theorem mi_X9_isCell : Cond.instanceMethod yX9_isCell ∈ gtbl := gm_at 1331 (by decide +kernel)
theorem mv_X9_isCell : Cond.selects RX9 yX9_isCell yX9_isCell ∈ gtbl := gm_at 49 (by decide +kernel)
set_option maxRecDepth 100000 in
theorem mf_X9_placeOf : MF yX9_placeOf cX9_placeOf 4 (some .int) 2 := ⟨gm_at 80 (by decide +kernel), gm_r 1351 rfl rfl, by decide +kernel⟩
theorem ms_X9_placeOf : Cond.static yX9_placeOf ∈ gtbl := gm_at 1350 (by decide +kernel)
set_option maxRecDepth 100000 in
theorem mf_X9_isFrozenThing : MF yX9_isFrozenThing cX9_isFrozenThing 2 (some .boolean) 2 := ⟨gm_at 80 (by decide +kernel), gm_r 1348 rfl rfl, by decide +kernel⟩
theorem ms_X9_isFrozenThing : Cond.static yX9_isFrozenThing ∈ gtbl := gm_at 1347 (by decide +kernel)
set_option maxRecDepth 100000 in
theorem mf_X9_isFrozen : MF yX9_isFrozen cX9_isFrozen 2 (some .boolean) 2 := ⟨gm_at 80 (by decide +kernel), gm_r 1345 rfl rfl, by decide +kernel⟩
theorem ms_X9_isFrozen : Cond.static yX9_isFrozen ∈ gtbl := gm_at 1344 (by decide +kernel)
set_option maxRecDepth 100000 in
theorem mf_X9_look : MF yX9_look cX9_look 2 none 1 := ⟨gm_at 80 (by decide +kernel), gm_r 1355 rfl rfl, by decide +kernel⟩
theorem mi_X9_look : Cond.instanceMethod yX9_look ∈ gtbl := gm_at 1354 (by decide +kernel)
theorem mv_X9_look : Cond.selects RX9 yX9_look yX9_look ∈ gtbl := gm_at 51 (by decide +kernel)
set_option maxRecDepth 100000 in
theorem mf_X9_neighbour : MF yX9_neighbour cX9_neighbour 5 (some .int) 3 := ⟨gm_at 80 (by decide +kernel), gm_r 1358 rfl rfl, by decide +kernel⟩
theorem ms_X9_neighbour : Cond.static yX9_neighbour ∈ gtbl := gm_at 1357 (by decide +kernel)
set_option maxRecDepth 100000 in
theorem mf_X9_lookThing : MF yX9_lookThing cX9_lookThing 3 none 2 := ⟨gm_at 80 (by decide +kernel), gm_r 1362 rfl rfl, by decide +kernel⟩
theorem mi_X9_lookThing : Cond.instanceMethod yX9_lookThing ∈ gtbl := gm_at 1361 (by decide +kernel)
theorem mv_X9_lookThing : Cond.selects RX9 yX9_lookThing yX9_lookThing ∈ gtbl := gm_at 52 (by decide +kernel)
set_option maxRecDepth 100000 in
theorem mf_X9_linkOf : MF yX9_linkOf cX9_linkOf 3 (some .int) 2 := ⟨gm_at 80 (by decide +kernel), gm_r 1365 rfl rfl, by decide +kernel⟩
theorem ms_X9_linkOf : Cond.static yX9_linkOf ∈ gtbl := gm_at 1364 (by decide +kernel)
set_option maxRecDepth 100000 in
theorem mf_X9_lookAt : MF yX9_lookAt cX9_lookAt 9 none 2 := ⟨gm_at 80 (by decide +kernel), gm_r 1342 rfl rfl, by decide +kernel⟩
theorem mi_X9_lookAt : Cond.instanceMethod yX9_lookAt ∈ gtbl := gm_at 1341 (by decide +kernel)
theorem mv_X9_lookAt : Cond.selects RX9 yX9_lookAt yX9_lookAt ∈ gtbl := gm_at 50 (by decide +kernel)
set_option maxRecDepth 100000 in
theorem mf_X9_readsCell : MF yX9_readsCell cX9_readsCell 3 (some .boolean) 2 := ⟨gm_at 80 (by decide +kernel), gm_r 1369 rfl rfl, by decide +kernel⟩
theorem mi_X9_readsCell : Cond.instanceMethod yX9_readsCell ∈ gtbl := gm_at 1368 (by decide +kernel)
theorem mv_X9_readsCell : Cond.selects RX9 yX9_readsCell yX9_readsCell ∈ gtbl := gm_at 53 (by decide +kernel)
set_option maxRecDepth 100000 in
theorem mf_X9_arrange : MF yX9_arrange cX9_arrange 7 (some .boolean) 1 := ⟨gm_at 80 (by decide +kernel), gm_r 1328 rfl rfl, by decide +kernel⟩
theorem mi_X9_arrange : Cond.instanceMethod yX9_arrange ∈ gtbl := gm_at 1327 (by decide +kernel)
theorem mv_X9_arrange : Cond.selects RX9 yX9_arrange yX9_arrange ∈ gtbl := gm_at 48 (by decide +kernel)
set_option maxRecDepth 100000 in
theorem mf_X9_measure : MF yX9_measure cX9_measure 6 none 2 := ⟨gm_at 80 (by decide +kernel), gm_r 1381 rfl rfl, by decide +kernel⟩
theorem mi_X9_measure : Cond.instanceMethod yX9_measure ∈ gtbl := gm_at 1380 (by decide +kernel)
theorem mv_X9_measure : Cond.selects RX9 yX9_measure yX9_measure ∈ gtbl := gm_at 56 (by decide +kernel)
set_option maxRecDepth 100000 in
theorem mf_X9_isInRing : MF yX9_isInRing cX9_isInRing 5 (some .boolean) 2 := ⟨gm_at 80 (by decide +kernel), gm_r 1377 rfl rfl, by decide +kernel⟩
theorem mi_X9_isInRing : Cond.instanceMethod yX9_isInRing ∈ gtbl := gm_at 1376 (by decide +kernel)
theorem mv_X9_isInRing : Cond.selects RX9 yX9_isInRing yX9_isInRing ∈ gtbl := gm_at 55 (by decide +kernel)
set_option maxRecDepth 100000 in
theorem mf_X9_findRing : MF yX9_findRing cX9_findRing 7 none 1 := ⟨gm_at 80 (by decide +kernel), gm_r 1373 rfl rfl, by decide +kernel⟩
theorem mi_X9_findRing : Cond.instanceMethod yX9_findRing ∈ gtbl := gm_at 1372 (by decide +kernel)
theorem mv_X9_findRing : Cond.selects RX9 yX9_findRing yX9_findRing ∈ gtbl := gm_at 54 (by decide +kernel)
set_option maxRecDepth 100000 in
theorem mf_X9_refuse : MF yX9_refuse cX9_refuse 2 (some .int) 1 := ⟨gm_at 80 (by decide +kernel), gm_r 1385 rfl rfl, by decide +kernel⟩
theorem mi_X9_refuse : Cond.instanceMethod yX9_refuse ∈ gtbl := gm_at 1384 (by decide +kernel)
theorem mv_X9_refuse : Cond.selects RX9 yX9_refuse yX9_refuse ∈ gtbl := gm_at 57 (by decide +kernel)
set_option maxRecDepth 100000 in
theorem mf_X9_valueOf : MF yX9_valueOf cX9_valueOf 5 (some .long) 4 := ⟨gm_at 80 (by decide +kernel), gm_r 1393 rfl rfl, by decide +kernel⟩
theorem mi_X9_valueOf : Cond.instanceMethod yX9_valueOf ∈ gtbl := gm_at 1392 (by decide +kernel)
theorem mv_X9_valueOf : Cond.selects RX9 yX9_valueOf yX9_valueOf ∈ gtbl := gm_at 59 (by decide +kernel)
set_option maxRecDepth 100000 in
theorem mf_X9_isTouched : MF yX9_isTouched cX9_isTouched 5 (some .boolean) 2 := ⟨gm_at 80 (by decide +kernel), gm_r 1389 rfl rfl, by decide +kernel⟩
theorem mi_X9_isTouched : Cond.instanceMethod yX9_isTouched ∈ gtbl := gm_at 1388 (by decide +kernel)
theorem mv_X9_isTouched : Cond.selects RX9 yX9_isTouched yX9_isTouched ∈ gtbl := gm_at 58 (by decide +kernel)
set_option maxRecDepth 100000 in
theorem mf_X9_bounded : MF yX9_bounded cX9_bounded 3 (some .long) 1 := ⟨gm_at 80 (by decide +kernel), gm_r 1401 rfl rfl, by decide +kernel⟩
theorem mi_X9_bounded : Cond.instanceMethod yX9_bounded ∈ gtbl := gm_at 1400 (by decide +kernel)
theorem mv_X9_bounded : Cond.selects RX9 yX9_bounded yX9_bounded ∈ gtbl := gm_at 61 (by decide +kernel)
set_option maxRecDepth 100000 in
theorem mf_X9_times : MF yX9_times cX9_times 9 (some .long) 2 := ⟨gm_at 80 (by decide +kernel), gm_r 1407 rfl rfl, by decide +kernel⟩
theorem mi_X9_times : Cond.instanceMethod yX9_times ∈ gtbl := gm_at 1406 (by decide +kernel)
theorem mv_X9_times : Cond.selects RX9 yX9_times yX9_times ∈ gtbl := gm_at 62 (by decide +kernel)
set_option maxRecDepth 100000 in
theorem mf_X9_work : MF yX9_work cX9_work 23 (some .long) 2 := ⟨gm_at 80 (by decide +kernel), gm_r 1397 rfl rfl, by decide +kernel⟩
theorem mi_X9_work : Cond.instanceMethod yX9_work ∈ gtbl := gm_at 1396 (by decide +kernel)
theorem mv_X9_work : Cond.selects RX9 yX9_work yX9_work ∈ gtbl := gm_at 60 (by decide +kernel)
set_option maxRecDepth 100000 in
theorem mf_X9_keep : MF yX9_keep cX9_keep 1 none 0 := ⟨gm_at 80 (by decide +kernel), gm_r 1411 rfl rfl, by decide +kernel⟩
theorem mi_X9_keep : Cond.instanceMethod yX9_keep ∈ gtbl := gm_at 1410 (by decide +kernel)
theorem mv_X9_keep : Cond.selects RX9 yX9_keep yX9_keep ∈ gtbl := gm_at 63 (by decide +kernel)
set_option maxRecDepth 100000 in
theorem mf_X9_judge : MF yX9_judge cX9_judge 6 (some .int) 1 := ⟨gm_at 80 (by decide +kernel), gm_r 1324 rfl rfl, by decide +kernel⟩
theorem mi_X9_judge : Cond.instanceMethod yX9_judge ∈ gtbl := gm_at 1323 (by decide +kernel)
theorem mv_X9_judge : Cond.selects RX9 yX9_judge yX9_judge ∈ gtbl := gm_at 47 (by decide +kernel)
set_option maxRecDepth 100000 in
theorem mf_X9_open : MF yX9_open cX9_open 2 (some .int) 0 := ⟨gm_at 80 (by decide +kernel), gm_r 1320 rfl rfl, by decide +kernel⟩
theorem mi_X9_open : Cond.instanceMethod yX9_open ∈ gtbl := gm_at 1318 (by decide +kernel)
theorem mv_X9_open : Cond.selects RX9 yX9_open yX9_open ∈ gtbl := gm_at 1319 (by decide +kernel)
set_option maxRecDepth 100000 in
theorem mf_X9_done : MF yX9_done cX9_done 4 (some .int) 0 := ⟨gm_at 80 (by decide +kernel), gm_r 1438 rfl rfl, by decide +kernel⟩
theorem mi_X9_done : Cond.instanceMethod yX9_done ∈ gtbl := gm_at 1437 (by decide +kernel)
theorem mv_X9_done : Cond.selects RX9 yX9_done yX9_done ∈ gtbl := gm_at 68 (by decide +kernel)
set_option maxRecDepth 100000 in
theorem mf_X9_begun : MF yX9_begun cX9_begun 1 none 0 := ⟨gm_at 80 (by decide +kernel), gm_r 1430 rfl rfl, by decide +kernel⟩
theorem mi_X9_begun : Cond.instanceMethod yX9_begun ∈ gtbl := gm_at 1429 (by decide +kernel)
theorem mv_X9_begun : Cond.selects RX9 yX9_begun yX9_begun ∈ gtbl := gm_at 66 (by decide +kernel)
set_option maxRecDepth 100000 in
theorem mf_X9_out : MF yX9_out cX9_out 6 none 1 := ⟨gm_at 80 (by decide +kernel), gm_r 1446 rfl rfl, by decide +kernel⟩
theorem mi_X9_out : Cond.instanceMethod yX9_out ∈ gtbl := gm_at 1445 (by decide +kernel)
theorem mv_X9_out : Cond.selects RX9 yX9_out yX9_out ∈ gtbl := gm_at 69 (by decide +kernel)
set_option maxRecDepth 100000 in
theorem mf_X9_in : MF yX9_in cX9_in 6 none 3 := ⟨gm_at 80 (by decide +kernel), gm_r 1434 rfl rfl, by decide +kernel⟩
theorem mi_X9_in : Cond.instanceMethod yX9_in ∈ gtbl := gm_at 1433 (by decide +kernel)
theorem mv_X9_in : Cond.selects RX9 yX9_in yX9_in ∈ gtbl := gm_at 67 (by decide +kernel)
set_option maxRecDepth 100000 in
theorem mf_X9_place : MF yX9_place cX9_place 4 (some .int) 3 := ⟨gm_at 80 (by decide +kernel), gm_r 1418 rfl rfl, by decide +kernel⟩
theorem mi_X9_place : Cond.instanceMethod yX9_place ∈ gtbl := gm_at 1416 (by decide +kernel)
theorem mv_X9_place : Cond.selects RX9 yX9_place yX9_place ∈ gtbl := gm_at 1417 (by decide +kernel)
set_option maxRecDepth 100000 in
theorem mf_X9_take : MF yX9_take cX9_take 2 (some .int) 1 := ⟨gm_at 80 (by decide +kernel), gm_r 1442 rfl rfl, by decide +kernel⟩
theorem mi_X9_take : Cond.instanceMethod yX9_take ∈ gtbl := gm_at 1440 (by decide +kernel)
theorem mv_X9_take : Cond.selects RX9 yX9_take yX9_take ∈ gtbl := gm_at 1441 (by decide +kernel)
set_option maxRecDepth 100000 in
theorem mf_X9_move : MF yX9_move cX9_move 4 (some .int) 3 := ⟨gm_at 80 (by decide +kernel), gm_r 1450 rfl rfl, by decide +kernel⟩
theorem mi_X9_move : Cond.instanceMethod yX9_move ∈ gtbl := gm_at 1448 (by decide +kernel)
theorem mv_X9_move : Cond.selects RX9 yX9_move yX9_move ∈ gtbl := gm_at 1449 (by decide +kernel)
set_option maxRecDepth 100000 in
theorem mf_X9_swap : MF yX9_swap cX9_swap 5 (some .int) 2 := ⟨gm_at 80 (by decide +kernel), gm_r 1454 rfl rfl, by decide +kernel⟩
theorem mi_X9_swap : Cond.instanceMethod yX9_swap ∈ gtbl := gm_at 1452 (by decide +kernel)
theorem mv_X9_swap : Cond.selects RX9 yX9_swap yX9_swap ∈ gtbl := gm_at 1453 (by decide +kernel)
set_option maxRecDepth 100000 in
theorem mf_X9_turn : MF yX9_turn cX9_turn 5 (some .int) 3 := ⟨gm_at 80 (by decide +kernel), gm_r 1458 rfl rfl, by decide +kernel⟩
theorem mi_X9_turn : Cond.instanceMethod yX9_turn ∈ gtbl := gm_at 1456 (by decide +kernel)
theorem mv_X9_turn : Cond.selects RX9 yX9_turn yX9_turn ∈ gtbl := gm_at 1457 (by decide +kernel)
set_option maxRecDepth 100000 in
theorem mf_X9_tails : MF yX9_tails cX9_tails 8 (some .int) 4 := ⟨gm_at 80 (by decide +kernel), gm_r 1462 rfl rfl, by decide +kernel⟩
theorem mi_X9_tails : Cond.instanceMethod yX9_tails ∈ gtbl := gm_at 1460 (by decide +kernel)
theorem mv_X9_tails : Cond.selects RX9 yX9_tails yX9_tails ∈ gtbl := gm_at 1461 (by decide +kernel)
set_option maxRecDepth 100000 in
theorem mf_X9_fact : MF yX9_fact cX9_fact 4 (some .int) 3 := ⟨gm_at 80 (by decide +kernel), gm_r 1466 rfl rfl, by decide +kernel⟩
theorem mi_X9_fact : Cond.instanceMethod yX9_fact ∈ gtbl := gm_at 1464 (by decide +kernel)
theorem mv_X9_fact : Cond.selects RX9 yX9_fact yX9_fact ∈ gtbl := gm_at 1465 (by decide +kernel)
set_option maxRecDepth 100000 in
theorem mf_X9_listFact : MF yX9_listFact cX9_listFact 4 (some .int) 3 := ⟨gm_at 80 (by decide +kernel), gm_r 1470 rfl rfl, by decide +kernel⟩
theorem mi_X9_listFact : Cond.instanceMethod yX9_listFact ∈ gtbl := gm_at 1468 (by decide +kernel)
theorem mv_X9_listFact : Cond.selects RX9 yX9_listFact yX9_listFact ∈ gtbl := gm_at 1469 (by decide +kernel)
set_option maxRecDepth 100000 in
theorem mf_X9_link : MF yX9_link cX9_link 3 (some .int) 2 := ⟨gm_at 80 (by decide +kernel), gm_r 1474 rfl rfl, by decide +kernel⟩
theorem mi_X9_link : Cond.instanceMethod yX9_link ∈ gtbl := gm_at 1472 (by decide +kernel)
theorem mv_X9_link : Cond.selects RX9 yX9_link yX9_link ∈ gtbl := gm_at 1473 (by decide +kernel)
set_option maxRecDepth 100000 in
theorem mf_X9_freeze : MF yX9_freeze cX9_freeze 3 (some .int) 2 := ⟨gm_at 80 (by decide +kernel), gm_r 1478 rfl rfl, by decide +kernel⟩
theorem mi_X9_freeze : Cond.instanceMethod yX9_freeze ∈ gtbl := gm_at 1476 (by decide +kernel)
theorem mv_X9_freeze : Cond.selects RX9 yX9_freeze yX9_freeze ∈ gtbl := gm_at 1477 (by decide +kernel)
set_option maxRecDepth 100000 in
theorem mf_X9_begin : MF yX9_begin cX9_begin 1 none 0 := ⟨gm_at 80 (by decide +kernel), gm_r 1482 rfl rfl, by decide +kernel⟩
theorem mi_X9_begin : Cond.instanceMethod yX9_begin ∈ gtbl := gm_at 1480 (by decide +kernel)
theorem mv_X9_begin : Cond.selects RX9 yX9_begin yX9_begin ∈ gtbl := gm_at 1481 (by decide +kernel)
set_option maxRecDepth 100000 in
theorem mf_X9_end : MF yX9_end cX9_end 1 (some .int) 0 := ⟨gm_at 80 (by decide +kernel), gm_r 1486 rfl rfl, by decide +kernel⟩
theorem mi_X9_end : Cond.instanceMethod yX9_end ∈ gtbl := gm_at 1484 (by decide +kernel)
theorem mv_X9_end : Cond.selects RX9 yX9_end yX9_end ∈ gtbl := gm_at 1485 (by decide +kernel)
set_option maxRecDepth 100000 in
theorem mf_X9_drop : MF yX9_drop cX9_drop 1 (some .int) 0 := ⟨gm_at 80 (by decide +kernel), gm_r 1490 rfl rfl, by decide +kernel⟩
theorem mi_X9_drop : Cond.instanceMethod yX9_drop ∈ gtbl := gm_at 1488 (by decide +kernel)
theorem mv_X9_drop : Cond.selects RX9 yX9_drop yX9_drop ∈ gtbl := gm_at 1489 (by decide +kernel)
set_option maxRecDepth 100000 in
theorem mf_X9_undo : MF yX9_undo cX9_undo 5 (some .int) 0 := ⟨gm_at 80 (by decide +kernel), gm_r 1494 rfl rfl, by decide +kernel⟩
theorem mi_X9_undo : Cond.instanceMethod yX9_undo ∈ gtbl := gm_at 1492 (by decide +kernel)
theorem mv_X9_undo : Cond.selects RX9 yX9_undo yX9_undo ∈ gtbl := gm_at 1493 (by decide +kernel)
set_option maxRecDepth 100000 in
theorem mf_X9_shadow : MF yX9_shadow cX9_shadow 3 (some .long) 2 := ⟨gm_at 80 (by decide +kernel), gm_r 1498 rfl rfl, by decide +kernel⟩
theorem mi_X9_shadow : Cond.instanceMethod yX9_shadow ∈ gtbl := gm_at 1496 (by decide +kernel)
theorem mv_X9_shadow : Cond.selects RX9 yX9_shadow yX9_shadow ∈ gtbl := gm_at 1497 (by decide +kernel)
set_option maxRecDepth 100000 in
theorem mf_X9_listShadow : MF yX9_listShadow cX9_listShadow 4 (some .long) 2 := ⟨gm_at 80 (by decide +kernel), gm_r 1502 rfl rfl, by decide +kernel⟩
theorem mi_X9_listShadow : Cond.instanceMethod yX9_listShadow ∈ gtbl := gm_at 1500 (by decide +kernel)
theorem mv_X9_listShadow : Cond.selects RX9 yX9_listShadow yX9_listShadow ∈ gtbl := gm_at 1501 (by decide +kernel)
set_option maxRecDepth 100000 in
theorem mf_X9_where : MF yX9_where cX9_where 4 (some .int) 2 := ⟨gm_at 80 (by decide +kernel), gm_r 1506 rfl rfl, by decide +kernel⟩
theorem mi_X9_where : Cond.instanceMethod yX9_where ∈ gtbl := gm_at 1504 (by decide +kernel)
theorem mv_X9_where : Cond.selects RX9 yX9_where yX9_where ∈ gtbl := gm_at 1505 (by decide +kernel)
set_option maxRecDepth 100000 in
theorem mf_X9_at : MF yX9_at cX9_at 3 (some .int) 2 := ⟨gm_at 80 (by decide +kernel), gm_r 1510 rfl rfl, by decide +kernel⟩
theorem mi_X9_at : Cond.instanceMethod yX9_at ∈ gtbl := gm_at 1508 (by decide +kernel)
theorem mv_X9_at : Cond.selects RX9 yX9_at yX9_at ∈ gtbl := gm_at 1509 (by decide +kernel)
set_option maxRecDepth 100000 in
theorem mf_X9_worked : MF yX9_worked cX9_worked 2 (some .int) 1 := ⟨gm_at 80 (by decide +kernel), gm_r 1514 rfl rfl, by decide +kernel⟩
theorem mi_X9_worked : Cond.instanceMethod yX9_worked ∈ gtbl := gm_at 1512 (by decide +kernel)
theorem mv_X9_worked : Cond.selects RX9 yX9_worked yX9_worked ∈ gtbl := gm_at 1513 (by decide +kernel)
set_option maxRecDepth 100000 in
theorem mf_X9_order : MF yX9_order cX9_order 3 (some .int) 1 := ⟨gm_at 80 (by decide +kernel), gm_r 1518 rfl rfl, by decide +kernel⟩
theorem mi_X9_order : Cond.instanceMethod yX9_order ∈ gtbl := gm_at 1516 (by decide +kernel)
theorem mv_X9_order : Cond.selects RX9 yX9_order yX9_order ∈ gtbl := gm_at 1517 (by decide +kernel)
set_option maxRecDepth 100000 in
theorem mf_X9_ring : MF yX9_ring cX9_ring 2 (some .int) 1 := ⟨gm_at 80 (by decide +kernel), gm_r 1522 rfl rfl, by decide +kernel⟩
theorem mi_X9_ring : Cond.instanceMethod yX9_ring ∈ gtbl := gm_at 1520 (by decide +kernel)
theorem mv_X9_ring : Cond.selects RX9 yX9_ring yX9_ring ∈ gtbl := gm_at 1521 (by decide +kernel)
set_option maxRecDepth 100000 in
theorem mf_X9_cause : MF yX9_cause cX9_cause 2 (some .int) 1 := ⟨gm_at 80 (by decide +kernel), gm_r 1526 rfl rfl, by decide +kernel⟩
theorem mi_X9_cause : Cond.instanceMethod yX9_cause ∈ gtbl := gm_at 1524 (by decide +kernel)
theorem mv_X9_cause : Cond.selects RX9 yX9_cause yX9_cause ∈ gtbl := gm_at 1525 (by decide +kernel)
set_option maxRecDepth 100000 in
theorem mf_X9_count : MF yX9_count cX9_count 4 (some .int) 1 := ⟨gm_at 80 (by decide +kernel), gm_r 1530 rfl rfl, by decide +kernel⟩
theorem mi_X9_count : Cond.instanceMethod yX9_count ∈ gtbl := gm_at 1528 (by decide +kernel)
theorem mv_X9_count : Cond.selects RX9 yX9_count yX9_count ∈ gtbl := gm_at 1529 (by decide +kernel)
set_option maxRecDepth 100000 in
theorem mf_X9_isSame : MF yX9_isSame cX9_isSame 8 (some .boolean) 0 := ⟨gm_at 80 (by decide +kernel), gm_r 1534 rfl rfl, by decide +kernel⟩
theorem mi_X9_isSame : Cond.instanceMethod yX9_isSame ∈ gtbl := gm_at 1532 (by decide +kernel)
theorem mv_X9_isSame : Cond.selects RX9 yX9_isSame yX9_isSame ∈ gtbl := gm_at 1533 (by decide +kernel)
