/-! THE FIXED CELLS (wip/whole/shape.py writes this part): kinds, lengths, pointers that never change -/
def kS (a : Nat) : Nat := ([8, 0, 10, 10, 10, 10, 10, 4, 10, 10, 10, 10, 10, 10, 10, 10, 4, 10, 10, 10, 10, 10, 10, 10, 10, 11, 6, 10, 6, 10, 1, 6, 10, 11, 5, 11, 11, 11, 11, 10, 10, 10, 10, 6, 10, 6, 10, 6, 10, 7, 11, 3, 13, 9, 10, 10, 10, 10, 10, 10, 10, 10, 11, 11, 10, 11, 10, 10, 10, 10, 10, 10, 12, 12, 10, 11, 11] : List Nat).getD a 14
def eS (a : Nat) : Nat := ([0, 0, 216, 216, 9, 24, 24, 0, 160, 12, 40, 40, 40, 240, 6, 6, 0, 160, 12, 40, 40, 40, 240, 6, 6, 258, 0, 258, 0, 258, 0, 0, 258, 258, 0, 1290, 5, 5, 5, 258, 258, 258, 258, 0, 258, 0, 258, 0, 258, 0, 8, 0, 60, 0, 24, 24, 9, 216, 216, 504, 504, 504, 258, 258, 30240, 15480, 258, 258, 258, 1100, 1100, 258, 258, 66564, 258, 9, 1] : List Nat).getD a 0
def pS : List (Nat × Nat × Nat) := [(0, 0, 1), (0, 1, 7), (0, 2, 16), (0, 3, 25), (0, 4, 26), (0, 5, 28), (0, 6, 30), (0, 7, 51), (1, 0, 2), (1, 1, 3), (1, 2, 4), (1, 3, 5), (1, 4, 6), (7, 0, 8), (7, 1, 9), (7, 2, 10), (7, 3, 11), (7, 4, 12), (7, 5, 13), (7, 6, 14), (7, 7, 15), (16, 0, 17), (16, 1, 18), (16, 2, 19), (16, 3, 20), (16, 4, 21), (16, 5, 22), (16, 6, 23), (16, 7, 24), (26, 0, 27), (28, 0, 29), (30, 0, 1), (30, 1, 34), (30, 2, 49), (30, 3, 31), (30, 4, 33), (31, 0, 32), (34, 0, 1), (34, 1, 35), (34, 2, 36), (34, 3, 37), (34, 4, 38), (34, 5, 39), (34, 6, 40), (34, 7, 41), (34, 8, 42), (34, 9, 43), (34, 10, 45), (34, 11, 47), (43, 0, 44), (45, 0, 46), (47, 0, 48), (49, 0, 1), (49, 1, 50), (51, 0, 52), (53, 5, 54), (53, 6, 55), (53, 7, 56), (53, 8, 57), (53, 9, 58), (53, 10, 59), (53, 11, 60), (53, 12, 61), (53, 13, 62), (53, 14, 63), (53, 18, 64), (53, 19, 65), (53, 21, 66), (53, 23, 67), (53, 25, 68), (53, 33, 69), (53, 35, 70), (53, 37, 71), (53, 38, 72), (53, 39, 73), (53, 40, 74), (53, 41, 75)]
def Sh (h : AH) : Prop := 77 ≤ aN h ∧ (∀ a, a < 77 → aK h a = kS a ∧ aE h a = eS a) ∧ ∀ x, x ∈ pS → aP h x.1 x.2.1 = some x.2.2
theorem Sh.sI {h : AH} (S : Sh h) {a i : Nat} {v : Int32} : Sh (sI h a i v) := S
theorem Sh.sJ {h : AH} (S : Sh h) {a i : Nat} {v : Int64} : Sh (sJ h a i v) := S
theorem Sh.rI {h : AH} (S : Sh h) {a : Nat} {g : Nat → Int32} : Sh (rI h a g) := S
theorem Sh.rJ {h : AH} (S : Sh h) {a : Nat} {g : Nat → Int64} : Sh (rJ h a g) := S
theorem Sh.sP {h : AH} (S : Sh h) {a j : Nat} {v : Option Nat} (hn : ∀ x, x ∈ pS → ¬ (x.1 = a ∧ x.2.1 = j)) : Sh (sP h a j v) := ⟨S.1, S.2.1, fun x hx => by rw [sP_P, if_neg (hn x hx)]; exact S.2.2 x hx⟩
section Fix
variable {h : AH}
theorem k_0 (S : Sh h) : aK h 0 = 8 := (S.2.1 0 (by decide)).1
theorem gi_0 (S : Sh h) (j : Nat) : gI h 8 0 j = some (aI h 0 j) := gI_n (k_0 S)
theorem gj_0 (S : Sh h) (j : Nat) : gJ h 8 0 j = some (aJ h 0 j) := gJ_n (k_0 S)
theorem pi_0 (S : Sh h) (j : Nat) (v : Int32) : pI h 8 0 j v = some (sI h 0 j v) := pI_n (k_0 S)
theorem pz_0 (S : Sh h) (j : Nat) {v : Int32} (hv : v = 0 ∨ v = 1) : pZ h 8 0 j v = some (sI h 0 j v) := pZ_n (k_0 S) hv
theorem pj_0 (S : Sh h) (j : Nat) (v : Int64) : pJ h 8 0 j v = some (sJ h 0 j v) := pJ_n (k_0 S)
theorem pp_0 (S : Sh h) (j v : Nat) : pP h 8 0 j v = some (sP h 0 j (some v)) := pP_n (k_0 S)
theorem k_1 (S : Sh h) : aK h 1 = 0 := (S.2.1 1 (by decide)).1
theorem gi_1 (S : Sh h) (j : Nat) : gI h 0 1 j = some (aI h 1 j) := gI_n (k_1 S)
theorem gj_1 (S : Sh h) (j : Nat) : gJ h 0 1 j = some (aJ h 1 j) := gJ_n (k_1 S)
theorem pi_1 (S : Sh h) (j : Nat) (v : Int32) : pI h 0 1 j v = some (sI h 1 j v) := pI_n (k_1 S)
theorem pz_1 (S : Sh h) (j : Nat) {v : Int32} (hv : v = 0 ∨ v = 1) : pZ h 0 1 j v = some (sI h 1 j v) := pZ_n (k_1 S) hv
theorem pj_1 (S : Sh h) (j : Nat) (v : Int64) : pJ h 0 1 j v = some (sJ h 1 j v) := pJ_n (k_1 S)
theorem pp_1 (S : Sh h) (j v : Nat) : pP h 0 1 j v = some (sP h 1 j (some v)) := pP_n (k_1 S)
theorem k_2 (S : Sh h) : aK h 2 = 10 := (S.2.1 2 (by decide)).1
theorem e_2 (S : Sh h) : aE h 2 = 216 := (S.2.1 2 (by decide)).2
theorem ld_2 (S : Sh h) {i : Nat} (hi : i < 216) : ldI h 2 (nI i) = some (aI h 2 i) := ldI_n (k_2 S) (by rw [e_2 S]; exact hi) (by rw [e_2 S]; decide)
theorem st_2 (S : Sh h) {i : Nat} {v : Int32} (hi : i < 216) : stI h 2 (nI i) v = some (sI h 2 i v) := stI_n (k_2 S) (by rw [e_2 S]; exact hi) (by rw [e_2 S]; decide)
theorem al_2 (S : Sh h) : aln h 2 = some (nI 216) := by rw [aln, if_pos (by rw [k_2 S]; decide), e_2 S]
theorem k_3 (S : Sh h) : aK h 3 = 10 := (S.2.1 3 (by decide)).1
theorem e_3 (S : Sh h) : aE h 3 = 216 := (S.2.1 3 (by decide)).2
theorem ld_3 (S : Sh h) {i : Nat} (hi : i < 216) : ldI h 3 (nI i) = some (aI h 3 i) := ldI_n (k_3 S) (by rw [e_3 S]; exact hi) (by rw [e_3 S]; decide)
theorem st_3 (S : Sh h) {i : Nat} {v : Int32} (hi : i < 216) : stI h 3 (nI i) v = some (sI h 3 i v) := stI_n (k_3 S) (by rw [e_3 S]; exact hi) (by rw [e_3 S]; decide)
theorem al_3 (S : Sh h) : aln h 3 = some (nI 216) := by rw [aln, if_pos (by rw [k_3 S]; decide), e_3 S]
theorem k_4 (S : Sh h) : aK h 4 = 10 := (S.2.1 4 (by decide)).1
theorem e_4 (S : Sh h) : aE h 4 = 9 := (S.2.1 4 (by decide)).2
theorem ld_4 (S : Sh h) {i : Nat} (hi : i < 9) : ldI h 4 (nI i) = some (aI h 4 i) := ldI_n (k_4 S) (by rw [e_4 S]; exact hi) (by rw [e_4 S]; decide)
theorem st_4 (S : Sh h) {i : Nat} {v : Int32} (hi : i < 9) : stI h 4 (nI i) v = some (sI h 4 i v) := stI_n (k_4 S) (by rw [e_4 S]; exact hi) (by rw [e_4 S]; decide)
theorem al_4 (S : Sh h) : aln h 4 = some (nI 9) := by rw [aln, if_pos (by rw [k_4 S]; decide), e_4 S]
theorem k_5 (S : Sh h) : aK h 5 = 10 := (S.2.1 5 (by decide)).1
theorem e_5 (S : Sh h) : aE h 5 = 24 := (S.2.1 5 (by decide)).2
theorem ld_5 (S : Sh h) {i : Nat} (hi : i < 24) : ldI h 5 (nI i) = some (aI h 5 i) := ldI_n (k_5 S) (by rw [e_5 S]; exact hi) (by rw [e_5 S]; decide)
theorem st_5 (S : Sh h) {i : Nat} {v : Int32} (hi : i < 24) : stI h 5 (nI i) v = some (sI h 5 i v) := stI_n (k_5 S) (by rw [e_5 S]; exact hi) (by rw [e_5 S]; decide)
theorem al_5 (S : Sh h) : aln h 5 = some (nI 24) := by rw [aln, if_pos (by rw [k_5 S]; decide), e_5 S]
theorem k_6 (S : Sh h) : aK h 6 = 10 := (S.2.1 6 (by decide)).1
theorem e_6 (S : Sh h) : aE h 6 = 24 := (S.2.1 6 (by decide)).2
theorem ld_6 (S : Sh h) {i : Nat} (hi : i < 24) : ldI h 6 (nI i) = some (aI h 6 i) := ldI_n (k_6 S) (by rw [e_6 S]; exact hi) (by rw [e_6 S]; decide)
theorem st_6 (S : Sh h) {i : Nat} {v : Int32} (hi : i < 24) : stI h 6 (nI i) v = some (sI h 6 i v) := stI_n (k_6 S) (by rw [e_6 S]; exact hi) (by rw [e_6 S]; decide)
theorem al_6 (S : Sh h) : aln h 6 = some (nI 24) := by rw [aln, if_pos (by rw [k_6 S]; decide), e_6 S]
theorem k_7 (S : Sh h) : aK h 7 = 4 := (S.2.1 7 (by decide)).1
theorem gi_7 (S : Sh h) (j : Nat) : gI h 4 7 j = some (aI h 7 j) := gI_n (k_7 S)
theorem gj_7 (S : Sh h) (j : Nat) : gJ h 4 7 j = some (aJ h 7 j) := gJ_n (k_7 S)
theorem pi_7 (S : Sh h) (j : Nat) (v : Int32) : pI h 4 7 j v = some (sI h 7 j v) := pI_n (k_7 S)
theorem pz_7 (S : Sh h) (j : Nat) {v : Int32} (hv : v = 0 ∨ v = 1) : pZ h 4 7 j v = some (sI h 7 j v) := pZ_n (k_7 S) hv
theorem pj_7 (S : Sh h) (j : Nat) (v : Int64) : pJ h 4 7 j v = some (sJ h 7 j v) := pJ_n (k_7 S)
theorem pp_7 (S : Sh h) (j v : Nat) : pP h 4 7 j v = some (sP h 7 j (some v)) := pP_n (k_7 S)
theorem k_8 (S : Sh h) : aK h 8 = 10 := (S.2.1 8 (by decide)).1
theorem e_8 (S : Sh h) : aE h 8 = 160 := (S.2.1 8 (by decide)).2
theorem ld_8 (S : Sh h) {i : Nat} (hi : i < 160) : ldI h 8 (nI i) = some (aI h 8 i) := ldI_n (k_8 S) (by rw [e_8 S]; exact hi) (by rw [e_8 S]; decide)
theorem st_8 (S : Sh h) {i : Nat} {v : Int32} (hi : i < 160) : stI h 8 (nI i) v = some (sI h 8 i v) := stI_n (k_8 S) (by rw [e_8 S]; exact hi) (by rw [e_8 S]; decide)
theorem al_8 (S : Sh h) : aln h 8 = some (nI 160) := by rw [aln, if_pos (by rw [k_8 S]; decide), e_8 S]
theorem k_9 (S : Sh h) : aK h 9 = 10 := (S.2.1 9 (by decide)).1
theorem e_9 (S : Sh h) : aE h 9 = 12 := (S.2.1 9 (by decide)).2
theorem ld_9 (S : Sh h) {i : Nat} (hi : i < 12) : ldI h 9 (nI i) = some (aI h 9 i) := ldI_n (k_9 S) (by rw [e_9 S]; exact hi) (by rw [e_9 S]; decide)
theorem st_9 (S : Sh h) {i : Nat} {v : Int32} (hi : i < 12) : stI h 9 (nI i) v = some (sI h 9 i v) := stI_n (k_9 S) (by rw [e_9 S]; exact hi) (by rw [e_9 S]; decide)
theorem al_9 (S : Sh h) : aln h 9 = some (nI 12) := by rw [aln, if_pos (by rw [k_9 S]; decide), e_9 S]
theorem k_10 (S : Sh h) : aK h 10 = 10 := (S.2.1 10 (by decide)).1
theorem e_10 (S : Sh h) : aE h 10 = 40 := (S.2.1 10 (by decide)).2
theorem ld_10 (S : Sh h) {i : Nat} (hi : i < 40) : ldI h 10 (nI i) = some (aI h 10 i) := ldI_n (k_10 S) (by rw [e_10 S]; exact hi) (by rw [e_10 S]; decide)
theorem st_10 (S : Sh h) {i : Nat} {v : Int32} (hi : i < 40) : stI h 10 (nI i) v = some (sI h 10 i v) := stI_n (k_10 S) (by rw [e_10 S]; exact hi) (by rw [e_10 S]; decide)
theorem al_10 (S : Sh h) : aln h 10 = some (nI 40) := by rw [aln, if_pos (by rw [k_10 S]; decide), e_10 S]
theorem k_11 (S : Sh h) : aK h 11 = 10 := (S.2.1 11 (by decide)).1
theorem e_11 (S : Sh h) : aE h 11 = 40 := (S.2.1 11 (by decide)).2
theorem ld_11 (S : Sh h) {i : Nat} (hi : i < 40) : ldI h 11 (nI i) = some (aI h 11 i) := ldI_n (k_11 S) (by rw [e_11 S]; exact hi) (by rw [e_11 S]; decide)
theorem st_11 (S : Sh h) {i : Nat} {v : Int32} (hi : i < 40) : stI h 11 (nI i) v = some (sI h 11 i v) := stI_n (k_11 S) (by rw [e_11 S]; exact hi) (by rw [e_11 S]; decide)
theorem al_11 (S : Sh h) : aln h 11 = some (nI 40) := by rw [aln, if_pos (by rw [k_11 S]; decide), e_11 S]
theorem k_12 (S : Sh h) : aK h 12 = 10 := (S.2.1 12 (by decide)).1
theorem e_12 (S : Sh h) : aE h 12 = 40 := (S.2.1 12 (by decide)).2
theorem ld_12 (S : Sh h) {i : Nat} (hi : i < 40) : ldI h 12 (nI i) = some (aI h 12 i) := ldI_n (k_12 S) (by rw [e_12 S]; exact hi) (by rw [e_12 S]; decide)
theorem st_12 (S : Sh h) {i : Nat} {v : Int32} (hi : i < 40) : stI h 12 (nI i) v = some (sI h 12 i v) := stI_n (k_12 S) (by rw [e_12 S]; exact hi) (by rw [e_12 S]; decide)
theorem al_12 (S : Sh h) : aln h 12 = some (nI 40) := by rw [aln, if_pos (by rw [k_12 S]; decide), e_12 S]
theorem k_13 (S : Sh h) : aK h 13 = 10 := (S.2.1 13 (by decide)).1
theorem e_13 (S : Sh h) : aE h 13 = 240 := (S.2.1 13 (by decide)).2
theorem ld_13 (S : Sh h) {i : Nat} (hi : i < 240) : ldI h 13 (nI i) = some (aI h 13 i) := ldI_n (k_13 S) (by rw [e_13 S]; exact hi) (by rw [e_13 S]; decide)
theorem st_13 (S : Sh h) {i : Nat} {v : Int32} (hi : i < 240) : stI h 13 (nI i) v = some (sI h 13 i v) := stI_n (k_13 S) (by rw [e_13 S]; exact hi) (by rw [e_13 S]; decide)
theorem al_13 (S : Sh h) : aln h 13 = some (nI 240) := by rw [aln, if_pos (by rw [k_13 S]; decide), e_13 S]
theorem k_14 (S : Sh h) : aK h 14 = 10 := (S.2.1 14 (by decide)).1
theorem e_14 (S : Sh h) : aE h 14 = 6 := (S.2.1 14 (by decide)).2
theorem ld_14 (S : Sh h) {i : Nat} (hi : i < 6) : ldI h 14 (nI i) = some (aI h 14 i) := ldI_n (k_14 S) (by rw [e_14 S]; exact hi) (by rw [e_14 S]; decide)
theorem st_14 (S : Sh h) {i : Nat} {v : Int32} (hi : i < 6) : stI h 14 (nI i) v = some (sI h 14 i v) := stI_n (k_14 S) (by rw [e_14 S]; exact hi) (by rw [e_14 S]; decide)
theorem al_14 (S : Sh h) : aln h 14 = some (nI 6) := by rw [aln, if_pos (by rw [k_14 S]; decide), e_14 S]
theorem k_15 (S : Sh h) : aK h 15 = 10 := (S.2.1 15 (by decide)).1
theorem e_15 (S : Sh h) : aE h 15 = 6 := (S.2.1 15 (by decide)).2
theorem ld_15 (S : Sh h) {i : Nat} (hi : i < 6) : ldI h 15 (nI i) = some (aI h 15 i) := ldI_n (k_15 S) (by rw [e_15 S]; exact hi) (by rw [e_15 S]; decide)
theorem st_15 (S : Sh h) {i : Nat} {v : Int32} (hi : i < 6) : stI h 15 (nI i) v = some (sI h 15 i v) := stI_n (k_15 S) (by rw [e_15 S]; exact hi) (by rw [e_15 S]; decide)
theorem al_15 (S : Sh h) : aln h 15 = some (nI 6) := by rw [aln, if_pos (by rw [k_15 S]; decide), e_15 S]
theorem k_16 (S : Sh h) : aK h 16 = 4 := (S.2.1 16 (by decide)).1
theorem gi_16 (S : Sh h) (j : Nat) : gI h 4 16 j = some (aI h 16 j) := gI_n (k_16 S)
theorem gj_16 (S : Sh h) (j : Nat) : gJ h 4 16 j = some (aJ h 16 j) := gJ_n (k_16 S)
theorem pi_16 (S : Sh h) (j : Nat) (v : Int32) : pI h 4 16 j v = some (sI h 16 j v) := pI_n (k_16 S)
theorem pz_16 (S : Sh h) (j : Nat) {v : Int32} (hv : v = 0 ∨ v = 1) : pZ h 4 16 j v = some (sI h 16 j v) := pZ_n (k_16 S) hv
theorem pj_16 (S : Sh h) (j : Nat) (v : Int64) : pJ h 4 16 j v = some (sJ h 16 j v) := pJ_n (k_16 S)
theorem pp_16 (S : Sh h) (j v : Nat) : pP h 4 16 j v = some (sP h 16 j (some v)) := pP_n (k_16 S)
theorem k_17 (S : Sh h) : aK h 17 = 10 := (S.2.1 17 (by decide)).1
theorem e_17 (S : Sh h) : aE h 17 = 160 := (S.2.1 17 (by decide)).2
theorem ld_17 (S : Sh h) {i : Nat} (hi : i < 160) : ldI h 17 (nI i) = some (aI h 17 i) := ldI_n (k_17 S) (by rw [e_17 S]; exact hi) (by rw [e_17 S]; decide)
theorem st_17 (S : Sh h) {i : Nat} {v : Int32} (hi : i < 160) : stI h 17 (nI i) v = some (sI h 17 i v) := stI_n (k_17 S) (by rw [e_17 S]; exact hi) (by rw [e_17 S]; decide)
theorem al_17 (S : Sh h) : aln h 17 = some (nI 160) := by rw [aln, if_pos (by rw [k_17 S]; decide), e_17 S]
theorem k_18 (S : Sh h) : aK h 18 = 10 := (S.2.1 18 (by decide)).1
theorem e_18 (S : Sh h) : aE h 18 = 12 := (S.2.1 18 (by decide)).2
theorem ld_18 (S : Sh h) {i : Nat} (hi : i < 12) : ldI h 18 (nI i) = some (aI h 18 i) := ldI_n (k_18 S) (by rw [e_18 S]; exact hi) (by rw [e_18 S]; decide)
theorem st_18 (S : Sh h) {i : Nat} {v : Int32} (hi : i < 12) : stI h 18 (nI i) v = some (sI h 18 i v) := stI_n (k_18 S) (by rw [e_18 S]; exact hi) (by rw [e_18 S]; decide)
theorem al_18 (S : Sh h) : aln h 18 = some (nI 12) := by rw [aln, if_pos (by rw [k_18 S]; decide), e_18 S]
theorem k_19 (S : Sh h) : aK h 19 = 10 := (S.2.1 19 (by decide)).1
theorem e_19 (S : Sh h) : aE h 19 = 40 := (S.2.1 19 (by decide)).2
theorem ld_19 (S : Sh h) {i : Nat} (hi : i < 40) : ldI h 19 (nI i) = some (aI h 19 i) := ldI_n (k_19 S) (by rw [e_19 S]; exact hi) (by rw [e_19 S]; decide)
theorem st_19 (S : Sh h) {i : Nat} {v : Int32} (hi : i < 40) : stI h 19 (nI i) v = some (sI h 19 i v) := stI_n (k_19 S) (by rw [e_19 S]; exact hi) (by rw [e_19 S]; decide)
theorem al_19 (S : Sh h) : aln h 19 = some (nI 40) := by rw [aln, if_pos (by rw [k_19 S]; decide), e_19 S]
theorem k_20 (S : Sh h) : aK h 20 = 10 := (S.2.1 20 (by decide)).1
theorem e_20 (S : Sh h) : aE h 20 = 40 := (S.2.1 20 (by decide)).2
theorem ld_20 (S : Sh h) {i : Nat} (hi : i < 40) : ldI h 20 (nI i) = some (aI h 20 i) := ldI_n (k_20 S) (by rw [e_20 S]; exact hi) (by rw [e_20 S]; decide)
theorem st_20 (S : Sh h) {i : Nat} {v : Int32} (hi : i < 40) : stI h 20 (nI i) v = some (sI h 20 i v) := stI_n (k_20 S) (by rw [e_20 S]; exact hi) (by rw [e_20 S]; decide)
theorem al_20 (S : Sh h) : aln h 20 = some (nI 40) := by rw [aln, if_pos (by rw [k_20 S]; decide), e_20 S]
theorem k_21 (S : Sh h) : aK h 21 = 10 := (S.2.1 21 (by decide)).1
theorem e_21 (S : Sh h) : aE h 21 = 40 := (S.2.1 21 (by decide)).2
theorem ld_21 (S : Sh h) {i : Nat} (hi : i < 40) : ldI h 21 (nI i) = some (aI h 21 i) := ldI_n (k_21 S) (by rw [e_21 S]; exact hi) (by rw [e_21 S]; decide)
theorem st_21 (S : Sh h) {i : Nat} {v : Int32} (hi : i < 40) : stI h 21 (nI i) v = some (sI h 21 i v) := stI_n (k_21 S) (by rw [e_21 S]; exact hi) (by rw [e_21 S]; decide)
theorem al_21 (S : Sh h) : aln h 21 = some (nI 40) := by rw [aln, if_pos (by rw [k_21 S]; decide), e_21 S]
theorem k_22 (S : Sh h) : aK h 22 = 10 := (S.2.1 22 (by decide)).1
theorem e_22 (S : Sh h) : aE h 22 = 240 := (S.2.1 22 (by decide)).2
theorem ld_22 (S : Sh h) {i : Nat} (hi : i < 240) : ldI h 22 (nI i) = some (aI h 22 i) := ldI_n (k_22 S) (by rw [e_22 S]; exact hi) (by rw [e_22 S]; decide)
theorem st_22 (S : Sh h) {i : Nat} {v : Int32} (hi : i < 240) : stI h 22 (nI i) v = some (sI h 22 i v) := stI_n (k_22 S) (by rw [e_22 S]; exact hi) (by rw [e_22 S]; decide)
theorem al_22 (S : Sh h) : aln h 22 = some (nI 240) := by rw [aln, if_pos (by rw [k_22 S]; decide), e_22 S]
theorem k_23 (S : Sh h) : aK h 23 = 10 := (S.2.1 23 (by decide)).1
theorem e_23 (S : Sh h) : aE h 23 = 6 := (S.2.1 23 (by decide)).2
theorem ld_23 (S : Sh h) {i : Nat} (hi : i < 6) : ldI h 23 (nI i) = some (aI h 23 i) := ldI_n (k_23 S) (by rw [e_23 S]; exact hi) (by rw [e_23 S]; decide)
theorem st_23 (S : Sh h) {i : Nat} {v : Int32} (hi : i < 6) : stI h 23 (nI i) v = some (sI h 23 i v) := stI_n (k_23 S) (by rw [e_23 S]; exact hi) (by rw [e_23 S]; decide)
theorem al_23 (S : Sh h) : aln h 23 = some (nI 6) := by rw [aln, if_pos (by rw [k_23 S]; decide), e_23 S]
theorem k_24 (S : Sh h) : aK h 24 = 10 := (S.2.1 24 (by decide)).1
theorem e_24 (S : Sh h) : aE h 24 = 6 := (S.2.1 24 (by decide)).2
theorem ld_24 (S : Sh h) {i : Nat} (hi : i < 6) : ldI h 24 (nI i) = some (aI h 24 i) := ldI_n (k_24 S) (by rw [e_24 S]; exact hi) (by rw [e_24 S]; decide)
theorem st_24 (S : Sh h) {i : Nat} {v : Int32} (hi : i < 6) : stI h 24 (nI i) v = some (sI h 24 i v) := stI_n (k_24 S) (by rw [e_24 S]; exact hi) (by rw [e_24 S]; decide)
theorem al_24 (S : Sh h) : aln h 24 = some (nI 6) := by rw [aln, if_pos (by rw [k_24 S]; decide), e_24 S]
theorem k_25 (S : Sh h) : aK h 25 = 11 := (S.2.1 25 (by decide)).1
theorem e_25 (S : Sh h) : aE h 25 = 258 := (S.2.1 25 (by decide)).2
theorem ld_25 (S : Sh h) {i : Nat} (hi : i < 258) : ldJ h 25 (nI i) = some (aJ h 25 i) := ldJ_n (k_25 S) (by rw [e_25 S]; exact hi) (by rw [e_25 S]; decide)
theorem st_25 (S : Sh h) {i : Nat} {v : Int64} (hi : i < 258) : stJ h 25 (nI i) v = some (sJ h 25 i v) := stJ_n (k_25 S) (by rw [e_25 S]; exact hi) (by rw [e_25 S]; decide)
theorem al_25 (S : Sh h) : aln h 25 = some (nI 258) := by rw [aln, if_pos (by rw [k_25 S]; decide), e_25 S]
theorem k_26 (S : Sh h) : aK h 26 = 6 := (S.2.1 26 (by decide)).1
theorem gi_26 (S : Sh h) (j : Nat) : gI h 6 26 j = some (aI h 26 j) := gI_n (k_26 S)
theorem gj_26 (S : Sh h) (j : Nat) : gJ h 6 26 j = some (aJ h 26 j) := gJ_n (k_26 S)
theorem pi_26 (S : Sh h) (j : Nat) (v : Int32) : pI h 6 26 j v = some (sI h 26 j v) := pI_n (k_26 S)
theorem pz_26 (S : Sh h) (j : Nat) {v : Int32} (hv : v = 0 ∨ v = 1) : pZ h 6 26 j v = some (sI h 26 j v) := pZ_n (k_26 S) hv
theorem pj_26 (S : Sh h) (j : Nat) (v : Int64) : pJ h 6 26 j v = some (sJ h 26 j v) := pJ_n (k_26 S)
theorem pp_26 (S : Sh h) (j v : Nat) : pP h 6 26 j v = some (sP h 26 j (some v)) := pP_n (k_26 S)
theorem k_27 (S : Sh h) : aK h 27 = 10 := (S.2.1 27 (by decide)).1
theorem e_27 (S : Sh h) : aE h 27 = 258 := (S.2.1 27 (by decide)).2
theorem ld_27 (S : Sh h) {i : Nat} (hi : i < 258) : ldI h 27 (nI i) = some (aI h 27 i) := ldI_n (k_27 S) (by rw [e_27 S]; exact hi) (by rw [e_27 S]; decide)
theorem st_27 (S : Sh h) {i : Nat} {v : Int32} (hi : i < 258) : stI h 27 (nI i) v = some (sI h 27 i v) := stI_n (k_27 S) (by rw [e_27 S]; exact hi) (by rw [e_27 S]; decide)
theorem al_27 (S : Sh h) : aln h 27 = some (nI 258) := by rw [aln, if_pos (by rw [k_27 S]; decide), e_27 S]
theorem k_28 (S : Sh h) : aK h 28 = 6 := (S.2.1 28 (by decide)).1
theorem gi_28 (S : Sh h) (j : Nat) : gI h 6 28 j = some (aI h 28 j) := gI_n (k_28 S)
theorem gj_28 (S : Sh h) (j : Nat) : gJ h 6 28 j = some (aJ h 28 j) := gJ_n (k_28 S)
theorem pi_28 (S : Sh h) (j : Nat) (v : Int32) : pI h 6 28 j v = some (sI h 28 j v) := pI_n (k_28 S)
theorem pz_28 (S : Sh h) (j : Nat) {v : Int32} (hv : v = 0 ∨ v = 1) : pZ h 6 28 j v = some (sI h 28 j v) := pZ_n (k_28 S) hv
theorem pj_28 (S : Sh h) (j : Nat) (v : Int64) : pJ h 6 28 j v = some (sJ h 28 j v) := pJ_n (k_28 S)
theorem pp_28 (S : Sh h) (j v : Nat) : pP h 6 28 j v = some (sP h 28 j (some v)) := pP_n (k_28 S)
theorem k_29 (S : Sh h) : aK h 29 = 10 := (S.2.1 29 (by decide)).1
theorem e_29 (S : Sh h) : aE h 29 = 258 := (S.2.1 29 (by decide)).2
theorem ld_29 (S : Sh h) {i : Nat} (hi : i < 258) : ldI h 29 (nI i) = some (aI h 29 i) := ldI_n (k_29 S) (by rw [e_29 S]; exact hi) (by rw [e_29 S]; decide)
theorem st_29 (S : Sh h) {i : Nat} {v : Int32} (hi : i < 258) : stI h 29 (nI i) v = some (sI h 29 i v) := stI_n (k_29 S) (by rw [e_29 S]; exact hi) (by rw [e_29 S]; decide)
theorem al_29 (S : Sh h) : aln h 29 = some (nI 258) := by rw [aln, if_pos (by rw [k_29 S]; decide), e_29 S]
theorem k_30 (S : Sh h) : aK h 30 = 1 := (S.2.1 30 (by decide)).1
theorem gi_30 (S : Sh h) (j : Nat) : gI h 1 30 j = some (aI h 30 j) := gI_n (k_30 S)
theorem gj_30 (S : Sh h) (j : Nat) : gJ h 1 30 j = some (aJ h 30 j) := gJ_n (k_30 S)
theorem pi_30 (S : Sh h) (j : Nat) (v : Int32) : pI h 1 30 j v = some (sI h 30 j v) := pI_n (k_30 S)
theorem pz_30 (S : Sh h) (j : Nat) {v : Int32} (hv : v = 0 ∨ v = 1) : pZ h 1 30 j v = some (sI h 30 j v) := pZ_n (k_30 S) hv
theorem pj_30 (S : Sh h) (j : Nat) (v : Int64) : pJ h 1 30 j v = some (sJ h 30 j v) := pJ_n (k_30 S)
theorem pp_30 (S : Sh h) (j v : Nat) : pP h 1 30 j v = some (sP h 30 j (some v)) := pP_n (k_30 S)
theorem k_31 (S : Sh h) : aK h 31 = 6 := (S.2.1 31 (by decide)).1
theorem gi_31 (S : Sh h) (j : Nat) : gI h 6 31 j = some (aI h 31 j) := gI_n (k_31 S)
theorem gj_31 (S : Sh h) (j : Nat) : gJ h 6 31 j = some (aJ h 31 j) := gJ_n (k_31 S)
theorem pi_31 (S : Sh h) (j : Nat) (v : Int32) : pI h 6 31 j v = some (sI h 31 j v) := pI_n (k_31 S)
theorem pz_31 (S : Sh h) (j : Nat) {v : Int32} (hv : v = 0 ∨ v = 1) : pZ h 6 31 j v = some (sI h 31 j v) := pZ_n (k_31 S) hv
theorem pj_31 (S : Sh h) (j : Nat) (v : Int64) : pJ h 6 31 j v = some (sJ h 31 j v) := pJ_n (k_31 S)
theorem pp_31 (S : Sh h) (j v : Nat) : pP h 6 31 j v = some (sP h 31 j (some v)) := pP_n (k_31 S)
theorem k_32 (S : Sh h) : aK h 32 = 10 := (S.2.1 32 (by decide)).1
theorem e_32 (S : Sh h) : aE h 32 = 258 := (S.2.1 32 (by decide)).2
theorem ld_32 (S : Sh h) {i : Nat} (hi : i < 258) : ldI h 32 (nI i) = some (aI h 32 i) := ldI_n (k_32 S) (by rw [e_32 S]; exact hi) (by rw [e_32 S]; decide)
theorem st_32 (S : Sh h) {i : Nat} {v : Int32} (hi : i < 258) : stI h 32 (nI i) v = some (sI h 32 i v) := stI_n (k_32 S) (by rw [e_32 S]; exact hi) (by rw [e_32 S]; decide)
theorem al_32 (S : Sh h) : aln h 32 = some (nI 258) := by rw [aln, if_pos (by rw [k_32 S]; decide), e_32 S]
theorem k_33 (S : Sh h) : aK h 33 = 11 := (S.2.1 33 (by decide)).1
theorem e_33 (S : Sh h) : aE h 33 = 258 := (S.2.1 33 (by decide)).2
theorem ld_33 (S : Sh h) {i : Nat} (hi : i < 258) : ldJ h 33 (nI i) = some (aJ h 33 i) := ldJ_n (k_33 S) (by rw [e_33 S]; exact hi) (by rw [e_33 S]; decide)
theorem st_33 (S : Sh h) {i : Nat} {v : Int64} (hi : i < 258) : stJ h 33 (nI i) v = some (sJ h 33 i v) := stJ_n (k_33 S) (by rw [e_33 S]; exact hi) (by rw [e_33 S]; decide)
theorem al_33 (S : Sh h) : aln h 33 = some (nI 258) := by rw [aln, if_pos (by rw [k_33 S]; decide), e_33 S]
theorem k_34 (S : Sh h) : aK h 34 = 5 := (S.2.1 34 (by decide)).1
theorem gi_34 (S : Sh h) (j : Nat) : gI h 5 34 j = some (aI h 34 j) := gI_n (k_34 S)
theorem gj_34 (S : Sh h) (j : Nat) : gJ h 5 34 j = some (aJ h 34 j) := gJ_n (k_34 S)
theorem pi_34 (S : Sh h) (j : Nat) (v : Int32) : pI h 5 34 j v = some (sI h 34 j v) := pI_n (k_34 S)
theorem pz_34 (S : Sh h) (j : Nat) {v : Int32} (hv : v = 0 ∨ v = 1) : pZ h 5 34 j v = some (sI h 34 j v) := pZ_n (k_34 S) hv
theorem pj_34 (S : Sh h) (j : Nat) (v : Int64) : pJ h 5 34 j v = some (sJ h 34 j v) := pJ_n (k_34 S)
theorem pp_34 (S : Sh h) (j v : Nat) : pP h 5 34 j v = some (sP h 34 j (some v)) := pP_n (k_34 S)
theorem k_35 (S : Sh h) : aK h 35 = 11 := (S.2.1 35 (by decide)).1
theorem e_35 (S : Sh h) : aE h 35 = 1290 := (S.2.1 35 (by decide)).2
theorem ld_35 (S : Sh h) {i : Nat} (hi : i < 1290) : ldJ h 35 (nI i) = some (aJ h 35 i) := ldJ_n (k_35 S) (by rw [e_35 S]; exact hi) (by rw [e_35 S]; decide)
theorem st_35 (S : Sh h) {i : Nat} {v : Int64} (hi : i < 1290) : stJ h 35 (nI i) v = some (sJ h 35 i v) := stJ_n (k_35 S) (by rw [e_35 S]; exact hi) (by rw [e_35 S]; decide)
theorem al_35 (S : Sh h) : aln h 35 = some (nI 1290) := by rw [aln, if_pos (by rw [k_35 S]; decide), e_35 S]
theorem k_36 (S : Sh h) : aK h 36 = 11 := (S.2.1 36 (by decide)).1
theorem e_36 (S : Sh h) : aE h 36 = 5 := (S.2.1 36 (by decide)).2
theorem ld_36 (S : Sh h) {i : Nat} (hi : i < 5) : ldJ h 36 (nI i) = some (aJ h 36 i) := ldJ_n (k_36 S) (by rw [e_36 S]; exact hi) (by rw [e_36 S]; decide)
theorem st_36 (S : Sh h) {i : Nat} {v : Int64} (hi : i < 5) : stJ h 36 (nI i) v = some (sJ h 36 i v) := stJ_n (k_36 S) (by rw [e_36 S]; exact hi) (by rw [e_36 S]; decide)
theorem al_36 (S : Sh h) : aln h 36 = some (nI 5) := by rw [aln, if_pos (by rw [k_36 S]; decide), e_36 S]
theorem k_37 (S : Sh h) : aK h 37 = 11 := (S.2.1 37 (by decide)).1
theorem e_37 (S : Sh h) : aE h 37 = 5 := (S.2.1 37 (by decide)).2
theorem ld_37 (S : Sh h) {i : Nat} (hi : i < 5) : ldJ h 37 (nI i) = some (aJ h 37 i) := ldJ_n (k_37 S) (by rw [e_37 S]; exact hi) (by rw [e_37 S]; decide)
theorem st_37 (S : Sh h) {i : Nat} {v : Int64} (hi : i < 5) : stJ h 37 (nI i) v = some (sJ h 37 i v) := stJ_n (k_37 S) (by rw [e_37 S]; exact hi) (by rw [e_37 S]; decide)
theorem al_37 (S : Sh h) : aln h 37 = some (nI 5) := by rw [aln, if_pos (by rw [k_37 S]; decide), e_37 S]
theorem k_38 (S : Sh h) : aK h 38 = 11 := (S.2.1 38 (by decide)).1
theorem e_38 (S : Sh h) : aE h 38 = 5 := (S.2.1 38 (by decide)).2
theorem ld_38 (S : Sh h) {i : Nat} (hi : i < 5) : ldJ h 38 (nI i) = some (aJ h 38 i) := ldJ_n (k_38 S) (by rw [e_38 S]; exact hi) (by rw [e_38 S]; decide)
theorem st_38 (S : Sh h) {i : Nat} {v : Int64} (hi : i < 5) : stJ h 38 (nI i) v = some (sJ h 38 i v) := stJ_n (k_38 S) (by rw [e_38 S]; exact hi) (by rw [e_38 S]; decide)
theorem al_38 (S : Sh h) : aln h 38 = some (nI 5) := by rw [aln, if_pos (by rw [k_38 S]; decide), e_38 S]
theorem k_39 (S : Sh h) : aK h 39 = 10 := (S.2.1 39 (by decide)).1
theorem e_39 (S : Sh h) : aE h 39 = 258 := (S.2.1 39 (by decide)).2
theorem ld_39 (S : Sh h) {i : Nat} (hi : i < 258) : ldI h 39 (nI i) = some (aI h 39 i) := ldI_n (k_39 S) (by rw [e_39 S]; exact hi) (by rw [e_39 S]; decide)
theorem st_39 (S : Sh h) {i : Nat} {v : Int32} (hi : i < 258) : stI h 39 (nI i) v = some (sI h 39 i v) := stI_n (k_39 S) (by rw [e_39 S]; exact hi) (by rw [e_39 S]; decide)
theorem al_39 (S : Sh h) : aln h 39 = some (nI 258) := by rw [aln, if_pos (by rw [k_39 S]; decide), e_39 S]
theorem k_40 (S : Sh h) : aK h 40 = 10 := (S.2.1 40 (by decide)).1
theorem e_40 (S : Sh h) : aE h 40 = 258 := (S.2.1 40 (by decide)).2
theorem ld_40 (S : Sh h) {i : Nat} (hi : i < 258) : ldI h 40 (nI i) = some (aI h 40 i) := ldI_n (k_40 S) (by rw [e_40 S]; exact hi) (by rw [e_40 S]; decide)
theorem st_40 (S : Sh h) {i : Nat} {v : Int32} (hi : i < 258) : stI h 40 (nI i) v = some (sI h 40 i v) := stI_n (k_40 S) (by rw [e_40 S]; exact hi) (by rw [e_40 S]; decide)
theorem al_40 (S : Sh h) : aln h 40 = some (nI 258) := by rw [aln, if_pos (by rw [k_40 S]; decide), e_40 S]
theorem k_41 (S : Sh h) : aK h 41 = 10 := (S.2.1 41 (by decide)).1
theorem e_41 (S : Sh h) : aE h 41 = 258 := (S.2.1 41 (by decide)).2
theorem ld_41 (S : Sh h) {i : Nat} (hi : i < 258) : ldI h 41 (nI i) = some (aI h 41 i) := ldI_n (k_41 S) (by rw [e_41 S]; exact hi) (by rw [e_41 S]; decide)
theorem st_41 (S : Sh h) {i : Nat} {v : Int32} (hi : i < 258) : stI h 41 (nI i) v = some (sI h 41 i v) := stI_n (k_41 S) (by rw [e_41 S]; exact hi) (by rw [e_41 S]; decide)
theorem al_41 (S : Sh h) : aln h 41 = some (nI 258) := by rw [aln, if_pos (by rw [k_41 S]; decide), e_41 S]
theorem k_42 (S : Sh h) : aK h 42 = 10 := (S.2.1 42 (by decide)).1
theorem e_42 (S : Sh h) : aE h 42 = 258 := (S.2.1 42 (by decide)).2
theorem ld_42 (S : Sh h) {i : Nat} (hi : i < 258) : ldI h 42 (nI i) = some (aI h 42 i) := ldI_n (k_42 S) (by rw [e_42 S]; exact hi) (by rw [e_42 S]; decide)
theorem st_42 (S : Sh h) {i : Nat} {v : Int32} (hi : i < 258) : stI h 42 (nI i) v = some (sI h 42 i v) := stI_n (k_42 S) (by rw [e_42 S]; exact hi) (by rw [e_42 S]; decide)
theorem al_42 (S : Sh h) : aln h 42 = some (nI 258) := by rw [aln, if_pos (by rw [k_42 S]; decide), e_42 S]
theorem k_43 (S : Sh h) : aK h 43 = 6 := (S.2.1 43 (by decide)).1
theorem gi_43 (S : Sh h) (j : Nat) : gI h 6 43 j = some (aI h 43 j) := gI_n (k_43 S)
theorem gj_43 (S : Sh h) (j : Nat) : gJ h 6 43 j = some (aJ h 43 j) := gJ_n (k_43 S)
theorem pi_43 (S : Sh h) (j : Nat) (v : Int32) : pI h 6 43 j v = some (sI h 43 j v) := pI_n (k_43 S)
theorem pz_43 (S : Sh h) (j : Nat) {v : Int32} (hv : v = 0 ∨ v = 1) : pZ h 6 43 j v = some (sI h 43 j v) := pZ_n (k_43 S) hv
theorem pj_43 (S : Sh h) (j : Nat) (v : Int64) : pJ h 6 43 j v = some (sJ h 43 j v) := pJ_n (k_43 S)
theorem pp_43 (S : Sh h) (j v : Nat) : pP h 6 43 j v = some (sP h 43 j (some v)) := pP_n (k_43 S)
theorem k_44 (S : Sh h) : aK h 44 = 10 := (S.2.1 44 (by decide)).1
theorem e_44 (S : Sh h) : aE h 44 = 258 := (S.2.1 44 (by decide)).2
theorem ld_44 (S : Sh h) {i : Nat} (hi : i < 258) : ldI h 44 (nI i) = some (aI h 44 i) := ldI_n (k_44 S) (by rw [e_44 S]; exact hi) (by rw [e_44 S]; decide)
theorem st_44 (S : Sh h) {i : Nat} {v : Int32} (hi : i < 258) : stI h 44 (nI i) v = some (sI h 44 i v) := stI_n (k_44 S) (by rw [e_44 S]; exact hi) (by rw [e_44 S]; decide)
theorem al_44 (S : Sh h) : aln h 44 = some (nI 258) := by rw [aln, if_pos (by rw [k_44 S]; decide), e_44 S]
theorem k_45 (S : Sh h) : aK h 45 = 6 := (S.2.1 45 (by decide)).1
theorem gi_45 (S : Sh h) (j : Nat) : gI h 6 45 j = some (aI h 45 j) := gI_n (k_45 S)
theorem gj_45 (S : Sh h) (j : Nat) : gJ h 6 45 j = some (aJ h 45 j) := gJ_n (k_45 S)
theorem pi_45 (S : Sh h) (j : Nat) (v : Int32) : pI h 6 45 j v = some (sI h 45 j v) := pI_n (k_45 S)
theorem pz_45 (S : Sh h) (j : Nat) {v : Int32} (hv : v = 0 ∨ v = 1) : pZ h 6 45 j v = some (sI h 45 j v) := pZ_n (k_45 S) hv
theorem pj_45 (S : Sh h) (j : Nat) (v : Int64) : pJ h 6 45 j v = some (sJ h 45 j v) := pJ_n (k_45 S)
theorem pp_45 (S : Sh h) (j v : Nat) : pP h 6 45 j v = some (sP h 45 j (some v)) := pP_n (k_45 S)
theorem k_46 (S : Sh h) : aK h 46 = 10 := (S.2.1 46 (by decide)).1
theorem e_46 (S : Sh h) : aE h 46 = 258 := (S.2.1 46 (by decide)).2
theorem ld_46 (S : Sh h) {i : Nat} (hi : i < 258) : ldI h 46 (nI i) = some (aI h 46 i) := ldI_n (k_46 S) (by rw [e_46 S]; exact hi) (by rw [e_46 S]; decide)
theorem st_46 (S : Sh h) {i : Nat} {v : Int32} (hi : i < 258) : stI h 46 (nI i) v = some (sI h 46 i v) := stI_n (k_46 S) (by rw [e_46 S]; exact hi) (by rw [e_46 S]; decide)
theorem al_46 (S : Sh h) : aln h 46 = some (nI 258) := by rw [aln, if_pos (by rw [k_46 S]; decide), e_46 S]
theorem k_47 (S : Sh h) : aK h 47 = 6 := (S.2.1 47 (by decide)).1
theorem gi_47 (S : Sh h) (j : Nat) : gI h 6 47 j = some (aI h 47 j) := gI_n (k_47 S)
theorem gj_47 (S : Sh h) (j : Nat) : gJ h 6 47 j = some (aJ h 47 j) := gJ_n (k_47 S)
theorem pi_47 (S : Sh h) (j : Nat) (v : Int32) : pI h 6 47 j v = some (sI h 47 j v) := pI_n (k_47 S)
theorem pz_47 (S : Sh h) (j : Nat) {v : Int32} (hv : v = 0 ∨ v = 1) : pZ h 6 47 j v = some (sI h 47 j v) := pZ_n (k_47 S) hv
theorem pj_47 (S : Sh h) (j : Nat) (v : Int64) : pJ h 6 47 j v = some (sJ h 47 j v) := pJ_n (k_47 S)
theorem pp_47 (S : Sh h) (j v : Nat) : pP h 6 47 j v = some (sP h 47 j (some v)) := pP_n (k_47 S)
theorem k_48 (S : Sh h) : aK h 48 = 10 := (S.2.1 48 (by decide)).1
theorem e_48 (S : Sh h) : aE h 48 = 258 := (S.2.1 48 (by decide)).2
theorem ld_48 (S : Sh h) {i : Nat} (hi : i < 258) : ldI h 48 (nI i) = some (aI h 48 i) := ldI_n (k_48 S) (by rw [e_48 S]; exact hi) (by rw [e_48 S]; decide)
theorem st_48 (S : Sh h) {i : Nat} {v : Int32} (hi : i < 258) : stI h 48 (nI i) v = some (sI h 48 i v) := stI_n (k_48 S) (by rw [e_48 S]; exact hi) (by rw [e_48 S]; decide)
theorem al_48 (S : Sh h) : aln h 48 = some (nI 258) := by rw [aln, if_pos (by rw [k_48 S]; decide), e_48 S]
theorem k_49 (S : Sh h) : aK h 49 = 7 := (S.2.1 49 (by decide)).1
theorem gi_49 (S : Sh h) (j : Nat) : gI h 7 49 j = some (aI h 49 j) := gI_n (k_49 S)
theorem gj_49 (S : Sh h) (j : Nat) : gJ h 7 49 j = some (aJ h 49 j) := gJ_n (k_49 S)
theorem pi_49 (S : Sh h) (j : Nat) (v : Int32) : pI h 7 49 j v = some (sI h 49 j v) := pI_n (k_49 S)
theorem pz_49 (S : Sh h) (j : Nat) {v : Int32} (hv : v = 0 ∨ v = 1) : pZ h 7 49 j v = some (sI h 49 j v) := pZ_n (k_49 S) hv
theorem pj_49 (S : Sh h) (j : Nat) (v : Int64) : pJ h 7 49 j v = some (sJ h 49 j v) := pJ_n (k_49 S)
theorem pp_49 (S : Sh h) (j v : Nat) : pP h 7 49 j v = some (sP h 49 j (some v)) := pP_n (k_49 S)
theorem k_50 (S : Sh h) : aK h 50 = 11 := (S.2.1 50 (by decide)).1
theorem e_50 (S : Sh h) : aE h 50 = 8 := (S.2.1 50 (by decide)).2
theorem ld_50 (S : Sh h) {i : Nat} (hi : i < 8) : ldJ h 50 (nI i) = some (aJ h 50 i) := ldJ_n (k_50 S) (by rw [e_50 S]; exact hi) (by rw [e_50 S]; decide)
theorem st_50 (S : Sh h) {i : Nat} {v : Int64} (hi : i < 8) : stJ h 50 (nI i) v = some (sJ h 50 i v) := stJ_n (k_50 S) (by rw [e_50 S]; exact hi) (by rw [e_50 S]; decide)
theorem al_50 (S : Sh h) : aln h 50 = some (nI 8) := by rw [aln, if_pos (by rw [k_50 S]; decide), e_50 S]
theorem k_51 (S : Sh h) : aK h 51 = 3 := (S.2.1 51 (by decide)).1
theorem gi_51 (S : Sh h) (j : Nat) : gI h 3 51 j = some (aI h 51 j) := gI_n (k_51 S)
theorem gj_51 (S : Sh h) (j : Nat) : gJ h 3 51 j = some (aJ h 51 j) := gJ_n (k_51 S)
theorem pi_51 (S : Sh h) (j : Nat) (v : Int32) : pI h 3 51 j v = some (sI h 51 j v) := pI_n (k_51 S)
theorem pz_51 (S : Sh h) (j : Nat) {v : Int32} (hv : v = 0 ∨ v = 1) : pZ h 3 51 j v = some (sI h 51 j v) := pZ_n (k_51 S) hv
theorem pj_51 (S : Sh h) (j : Nat) (v : Int64) : pJ h 3 51 j v = some (sJ h 51 j v) := pJ_n (k_51 S)
theorem pp_51 (S : Sh h) (j v : Nat) : pP h 3 51 j v = some (sP h 51 j (some v)) := pP_n (k_51 S)
theorem k_52 (S : Sh h) : aK h 52 = 13 := (S.2.1 52 (by decide)).1
theorem e_52 (S : Sh h) : aE h 52 = 60 := (S.2.1 52 (by decide)).2
theorem ld_52 (S : Sh h) {i : Nat} (hi : i < 60) : ldP h 52 (nI i) = some (aP h 52 i) := ldP_n (k_52 S) (by rw [e_52 S]; exact hi) (by rw [e_52 S]; decide)
theorem k_53 (S : Sh h) : aK h 53 = 9 := (S.2.1 53 (by decide)).1
theorem gi_53 (S : Sh h) (j : Nat) : gI h 9 53 j = some (aI h 53 j) := gI_n (k_53 S)
theorem gj_53 (S : Sh h) (j : Nat) : gJ h 9 53 j = some (aJ h 53 j) := gJ_n (k_53 S)
theorem pi_53 (S : Sh h) (j : Nat) (v : Int32) : pI h 9 53 j v = some (sI h 53 j v) := pI_n (k_53 S)
theorem pz_53 (S : Sh h) (j : Nat) {v : Int32} (hv : v = 0 ∨ v = 1) : pZ h 9 53 j v = some (sI h 53 j v) := pZ_n (k_53 S) hv
theorem pj_53 (S : Sh h) (j : Nat) (v : Int64) : pJ h 9 53 j v = some (sJ h 53 j v) := pJ_n (k_53 S)
theorem pp_53 (S : Sh h) (j v : Nat) : pP h 9 53 j v = some (sP h 53 j (some v)) := pP_n (k_53 S)
theorem k_54 (S : Sh h) : aK h 54 = 10 := (S.2.1 54 (by decide)).1
theorem e_54 (S : Sh h) : aE h 54 = 24 := (S.2.1 54 (by decide)).2
theorem ld_54 (S : Sh h) {i : Nat} (hi : i < 24) : ldI h 54 (nI i) = some (aI h 54 i) := ldI_n (k_54 S) (by rw [e_54 S]; exact hi) (by rw [e_54 S]; decide)
theorem st_54 (S : Sh h) {i : Nat} {v : Int32} (hi : i < 24) : stI h 54 (nI i) v = some (sI h 54 i v) := stI_n (k_54 S) (by rw [e_54 S]; exact hi) (by rw [e_54 S]; decide)
theorem al_54 (S : Sh h) : aln h 54 = some (nI 24) := by rw [aln, if_pos (by rw [k_54 S]; decide), e_54 S]
theorem k_55 (S : Sh h) : aK h 55 = 10 := (S.2.1 55 (by decide)).1
theorem e_55 (S : Sh h) : aE h 55 = 24 := (S.2.1 55 (by decide)).2
theorem ld_55 (S : Sh h) {i : Nat} (hi : i < 24) : ldI h 55 (nI i) = some (aI h 55 i) := ldI_n (k_55 S) (by rw [e_55 S]; exact hi) (by rw [e_55 S]; decide)
theorem st_55 (S : Sh h) {i : Nat} {v : Int32} (hi : i < 24) : stI h 55 (nI i) v = some (sI h 55 i v) := stI_n (k_55 S) (by rw [e_55 S]; exact hi) (by rw [e_55 S]; decide)
theorem al_55 (S : Sh h) : aln h 55 = some (nI 24) := by rw [aln, if_pos (by rw [k_55 S]; decide), e_55 S]
theorem k_56 (S : Sh h) : aK h 56 = 10 := (S.2.1 56 (by decide)).1
theorem e_56 (S : Sh h) : aE h 56 = 9 := (S.2.1 56 (by decide)).2
theorem ld_56 (S : Sh h) {i : Nat} (hi : i < 9) : ldI h 56 (nI i) = some (aI h 56 i) := ldI_n (k_56 S) (by rw [e_56 S]; exact hi) (by rw [e_56 S]; decide)
theorem st_56 (S : Sh h) {i : Nat} {v : Int32} (hi : i < 9) : stI h 56 (nI i) v = some (sI h 56 i v) := stI_n (k_56 S) (by rw [e_56 S]; exact hi) (by rw [e_56 S]; decide)
theorem al_56 (S : Sh h) : aln h 56 = some (nI 9) := by rw [aln, if_pos (by rw [k_56 S]; decide), e_56 S]
theorem k_57 (S : Sh h) : aK h 57 = 10 := (S.2.1 57 (by decide)).1
theorem e_57 (S : Sh h) : aE h 57 = 216 := (S.2.1 57 (by decide)).2
theorem ld_57 (S : Sh h) {i : Nat} (hi : i < 216) : ldI h 57 (nI i) = some (aI h 57 i) := ldI_n (k_57 S) (by rw [e_57 S]; exact hi) (by rw [e_57 S]; decide)
theorem st_57 (S : Sh h) {i : Nat} {v : Int32} (hi : i < 216) : stI h 57 (nI i) v = some (sI h 57 i v) := stI_n (k_57 S) (by rw [e_57 S]; exact hi) (by rw [e_57 S]; decide)
theorem al_57 (S : Sh h) : aln h 57 = some (nI 216) := by rw [aln, if_pos (by rw [k_57 S]; decide), e_57 S]
theorem k_58 (S : Sh h) : aK h 58 = 10 := (S.2.1 58 (by decide)).1
theorem e_58 (S : Sh h) : aE h 58 = 216 := (S.2.1 58 (by decide)).2
theorem ld_58 (S : Sh h) {i : Nat} (hi : i < 216) : ldI h 58 (nI i) = some (aI h 58 i) := ldI_n (k_58 S) (by rw [e_58 S]; exact hi) (by rw [e_58 S]; decide)
theorem st_58 (S : Sh h) {i : Nat} {v : Int32} (hi : i < 216) : stI h 58 (nI i) v = some (sI h 58 i v) := stI_n (k_58 S) (by rw [e_58 S]; exact hi) (by rw [e_58 S]; decide)
theorem al_58 (S : Sh h) : aln h 58 = some (nI 216) := by rw [aln, if_pos (by rw [k_58 S]; decide), e_58 S]
theorem k_59 (S : Sh h) : aK h 59 = 10 := (S.2.1 59 (by decide)).1
theorem e_59 (S : Sh h) : aE h 59 = 504 := (S.2.1 59 (by decide)).2
theorem ld_59 (S : Sh h) {i : Nat} (hi : i < 504) : ldI h 59 (nI i) = some (aI h 59 i) := ldI_n (k_59 S) (by rw [e_59 S]; exact hi) (by rw [e_59 S]; decide)
theorem st_59 (S : Sh h) {i : Nat} {v : Int32} (hi : i < 504) : stI h 59 (nI i) v = some (sI h 59 i v) := stI_n (k_59 S) (by rw [e_59 S]; exact hi) (by rw [e_59 S]; decide)
theorem al_59 (S : Sh h) : aln h 59 = some (nI 504) := by rw [aln, if_pos (by rw [k_59 S]; decide), e_59 S]
theorem k_60 (S : Sh h) : aK h 60 = 10 := (S.2.1 60 (by decide)).1
theorem e_60 (S : Sh h) : aE h 60 = 504 := (S.2.1 60 (by decide)).2
theorem ld_60 (S : Sh h) {i : Nat} (hi : i < 504) : ldI h 60 (nI i) = some (aI h 60 i) := ldI_n (k_60 S) (by rw [e_60 S]; exact hi) (by rw [e_60 S]; decide)
theorem st_60 (S : Sh h) {i : Nat} {v : Int32} (hi : i < 504) : stI h 60 (nI i) v = some (sI h 60 i v) := stI_n (k_60 S) (by rw [e_60 S]; exact hi) (by rw [e_60 S]; decide)
theorem al_60 (S : Sh h) : aln h 60 = some (nI 504) := by rw [aln, if_pos (by rw [k_60 S]; decide), e_60 S]
theorem k_61 (S : Sh h) : aK h 61 = 10 := (S.2.1 61 (by decide)).1
theorem e_61 (S : Sh h) : aE h 61 = 504 := (S.2.1 61 (by decide)).2
theorem ld_61 (S : Sh h) {i : Nat} (hi : i < 504) : ldI h 61 (nI i) = some (aI h 61 i) := ldI_n (k_61 S) (by rw [e_61 S]; exact hi) (by rw [e_61 S]; decide)
theorem st_61 (S : Sh h) {i : Nat} {v : Int32} (hi : i < 504) : stI h 61 (nI i) v = some (sI h 61 i v) := stI_n (k_61 S) (by rw [e_61 S]; exact hi) (by rw [e_61 S]; decide)
theorem al_61 (S : Sh h) : aln h 61 = some (nI 504) := by rw [aln, if_pos (by rw [k_61 S]; decide), e_61 S]
theorem k_62 (S : Sh h) : aK h 62 = 11 := (S.2.1 62 (by decide)).1
theorem e_62 (S : Sh h) : aE h 62 = 258 := (S.2.1 62 (by decide)).2
theorem ld_62 (S : Sh h) {i : Nat} (hi : i < 258) : ldJ h 62 (nI i) = some (aJ h 62 i) := ldJ_n (k_62 S) (by rw [e_62 S]; exact hi) (by rw [e_62 S]; decide)
theorem st_62 (S : Sh h) {i : Nat} {v : Int64} (hi : i < 258) : stJ h 62 (nI i) v = some (sJ h 62 i v) := stJ_n (k_62 S) (by rw [e_62 S]; exact hi) (by rw [e_62 S]; decide)
theorem al_62 (S : Sh h) : aln h 62 = some (nI 258) := by rw [aln, if_pos (by rw [k_62 S]; decide), e_62 S]
theorem k_63 (S : Sh h) : aK h 63 = 11 := (S.2.1 63 (by decide)).1
theorem e_63 (S : Sh h) : aE h 63 = 258 := (S.2.1 63 (by decide)).2
theorem ld_63 (S : Sh h) {i : Nat} (hi : i < 258) : ldJ h 63 (nI i) = some (aJ h 63 i) := ldJ_n (k_63 S) (by rw [e_63 S]; exact hi) (by rw [e_63 S]; decide)
theorem st_63 (S : Sh h) {i : Nat} {v : Int64} (hi : i < 258) : stJ h 63 (nI i) v = some (sJ h 63 i v) := stJ_n (k_63 S) (by rw [e_63 S]; exact hi) (by rw [e_63 S]; decide)
theorem al_63 (S : Sh h) : aln h 63 = some (nI 258) := by rw [aln, if_pos (by rw [k_63 S]; decide), e_63 S]
theorem k_64 (S : Sh h) : aK h 64 = 10 := (S.2.1 64 (by decide)).1
theorem e_64 (S : Sh h) : aE h 64 = 30240 := (S.2.1 64 (by decide)).2
theorem ld_64 (S : Sh h) {i : Nat} (hi : i < 30240) : ldI h 64 (nI i) = some (aI h 64 i) := ldI_n (k_64 S) (by rw [e_64 S]; exact hi) (by rw [e_64 S]; decide)
theorem st_64 (S : Sh h) {i : Nat} {v : Int32} (hi : i < 30240) : stI h 64 (nI i) v = some (sI h 64 i v) := stI_n (k_64 S) (by rw [e_64 S]; exact hi) (by rw [e_64 S]; decide)
theorem al_64 (S : Sh h) : aln h 64 = some (nI 30240) := by rw [aln, if_pos (by rw [k_64 S]; decide), e_64 S]
theorem k_65 (S : Sh h) : aK h 65 = 11 := (S.2.1 65 (by decide)).1
theorem e_65 (S : Sh h) : aE h 65 = 15480 := (S.2.1 65 (by decide)).2
theorem ld_65 (S : Sh h) {i : Nat} (hi : i < 15480) : ldJ h 65 (nI i) = some (aJ h 65 i) := ldJ_n (k_65 S) (by rw [e_65 S]; exact hi) (by rw [e_65 S]; decide)
theorem st_65 (S : Sh h) {i : Nat} {v : Int64} (hi : i < 15480) : stJ h 65 (nI i) v = some (sJ h 65 i v) := stJ_n (k_65 S) (by rw [e_65 S]; exact hi) (by rw [e_65 S]; decide)
theorem al_65 (S : Sh h) : aln h 65 = some (nI 15480) := by rw [aln, if_pos (by rw [k_65 S]; decide), e_65 S]
theorem k_66 (S : Sh h) : aK h 66 = 10 := (S.2.1 66 (by decide)).1
theorem e_66 (S : Sh h) : aE h 66 = 258 := (S.2.1 66 (by decide)).2
theorem ld_66 (S : Sh h) {i : Nat} (hi : i < 258) : ldI h 66 (nI i) = some (aI h 66 i) := ldI_n (k_66 S) (by rw [e_66 S]; exact hi) (by rw [e_66 S]; decide)
theorem st_66 (S : Sh h) {i : Nat} {v : Int32} (hi : i < 258) : stI h 66 (nI i) v = some (sI h 66 i v) := stI_n (k_66 S) (by rw [e_66 S]; exact hi) (by rw [e_66 S]; decide)
theorem al_66 (S : Sh h) : aln h 66 = some (nI 258) := by rw [aln, if_pos (by rw [k_66 S]; decide), e_66 S]
theorem k_67 (S : Sh h) : aK h 67 = 10 := (S.2.1 67 (by decide)).1
theorem e_67 (S : Sh h) : aE h 67 = 258 := (S.2.1 67 (by decide)).2
theorem ld_67 (S : Sh h) {i : Nat} (hi : i < 258) : ldI h 67 (nI i) = some (aI h 67 i) := ldI_n (k_67 S) (by rw [e_67 S]; exact hi) (by rw [e_67 S]; decide)
theorem st_67 (S : Sh h) {i : Nat} {v : Int32} (hi : i < 258) : stI h 67 (nI i) v = some (sI h 67 i v) := stI_n (k_67 S) (by rw [e_67 S]; exact hi) (by rw [e_67 S]; decide)
theorem al_67 (S : Sh h) : aln h 67 = some (nI 258) := by rw [aln, if_pos (by rw [k_67 S]; decide), e_67 S]
theorem k_68 (S : Sh h) : aK h 68 = 10 := (S.2.1 68 (by decide)).1
theorem e_68 (S : Sh h) : aE h 68 = 258 := (S.2.1 68 (by decide)).2
theorem ld_68 (S : Sh h) {i : Nat} (hi : i < 258) : ldI h 68 (nI i) = some (aI h 68 i) := ldI_n (k_68 S) (by rw [e_68 S]; exact hi) (by rw [e_68 S]; decide)
theorem st_68 (S : Sh h) {i : Nat} {v : Int32} (hi : i < 258) : stI h 68 (nI i) v = some (sI h 68 i v) := stI_n (k_68 S) (by rw [e_68 S]; exact hi) (by rw [e_68 S]; decide)
theorem al_68 (S : Sh h) : aln h 68 = some (nI 258) := by rw [aln, if_pos (by rw [k_68 S]; decide), e_68 S]
theorem k_69 (S : Sh h) : aK h 69 = 10 := (S.2.1 69 (by decide)).1
theorem e_69 (S : Sh h) : aE h 69 = 1100 := (S.2.1 69 (by decide)).2
theorem ld_69 (S : Sh h) {i : Nat} (hi : i < 1100) : ldI h 69 (nI i) = some (aI h 69 i) := ldI_n (k_69 S) (by rw [e_69 S]; exact hi) (by rw [e_69 S]; decide)
theorem st_69 (S : Sh h) {i : Nat} {v : Int32} (hi : i < 1100) : stI h 69 (nI i) v = some (sI h 69 i v) := stI_n (k_69 S) (by rw [e_69 S]; exact hi) (by rw [e_69 S]; decide)
theorem al_69 (S : Sh h) : aln h 69 = some (nI 1100) := by rw [aln, if_pos (by rw [k_69 S]; decide), e_69 S]
theorem k_70 (S : Sh h) : aK h 70 = 10 := (S.2.1 70 (by decide)).1
theorem e_70 (S : Sh h) : aE h 70 = 1100 := (S.2.1 70 (by decide)).2
theorem ld_70 (S : Sh h) {i : Nat} (hi : i < 1100) : ldI h 70 (nI i) = some (aI h 70 i) := ldI_n (k_70 S) (by rw [e_70 S]; exact hi) (by rw [e_70 S]; decide)
theorem st_70 (S : Sh h) {i : Nat} {v : Int32} (hi : i < 1100) : stI h 70 (nI i) v = some (sI h 70 i v) := stI_n (k_70 S) (by rw [e_70 S]; exact hi) (by rw [e_70 S]; decide)
theorem al_70 (S : Sh h) : aln h 70 = some (nI 1100) := by rw [aln, if_pos (by rw [k_70 S]; decide), e_70 S]
theorem k_71 (S : Sh h) : aK h 71 = 10 := (S.2.1 71 (by decide)).1
theorem e_71 (S : Sh h) : aE h 71 = 258 := (S.2.1 71 (by decide)).2
theorem ld_71 (S : Sh h) {i : Nat} (hi : i < 258) : ldI h 71 (nI i) = some (aI h 71 i) := ldI_n (k_71 S) (by rw [e_71 S]; exact hi) (by rw [e_71 S]; decide)
theorem st_71 (S : Sh h) {i : Nat} {v : Int32} (hi : i < 258) : stI h 71 (nI i) v = some (sI h 71 i v) := stI_n (k_71 S) (by rw [e_71 S]; exact hi) (by rw [e_71 S]; decide)
theorem al_71 (S : Sh h) : aln h 71 = some (nI 258) := by rw [aln, if_pos (by rw [k_71 S]; decide), e_71 S]
theorem k_72 (S : Sh h) : aK h 72 = 12 := (S.2.1 72 (by decide)).1
theorem e_72 (S : Sh h) : aE h 72 = 258 := (S.2.1 72 (by decide)).2
theorem ld_72 (S : Sh h) {i : Nat} (hi : i < 258) : ldZ h 72 (nI i) = some (aI h 72 i) := ldZ_n (k_72 S) (by rw [e_72 S]; exact hi) (by rw [e_72 S]; decide)
theorem st_72 (S : Sh h) {i : Nat} {v : Int32} (hv : v = 0 ∨ v = 1) (hi : i < 258) : stZ h 72 (nI i) v = some (sI h 72 i v) := stZ_n (k_72 S) hv (by rw [e_72 S]; exact hi) (by rw [e_72 S]; decide)
theorem k_73 (S : Sh h) : aK h 73 = 12 := (S.2.1 73 (by decide)).1
theorem e_73 (S : Sh h) : aE h 73 = 66564 := (S.2.1 73 (by decide)).2
theorem ld_73 (S : Sh h) {i : Nat} (hi : i < 66564) : ldZ h 73 (nI i) = some (aI h 73 i) := ldZ_n (k_73 S) (by rw [e_73 S]; exact hi) (by rw [e_73 S]; decide)
theorem st_73 (S : Sh h) {i : Nat} {v : Int32} (hv : v = 0 ∨ v = 1) (hi : i < 66564) : stZ h 73 (nI i) v = some (sI h 73 i v) := stZ_n (k_73 S) hv (by rw [e_73 S]; exact hi) (by rw [e_73 S]; decide)
theorem k_74 (S : Sh h) : aK h 74 = 10 := (S.2.1 74 (by decide)).1
theorem e_74 (S : Sh h) : aE h 74 = 258 := (S.2.1 74 (by decide)).2
theorem ld_74 (S : Sh h) {i : Nat} (hi : i < 258) : ldI h 74 (nI i) = some (aI h 74 i) := ldI_n (k_74 S) (by rw [e_74 S]; exact hi) (by rw [e_74 S]; decide)
theorem st_74 (S : Sh h) {i : Nat} {v : Int32} (hi : i < 258) : stI h 74 (nI i) v = some (sI h 74 i v) := stI_n (k_74 S) (by rw [e_74 S]; exact hi) (by rw [e_74 S]; decide)
theorem al_74 (S : Sh h) : aln h 74 = some (nI 258) := by rw [aln, if_pos (by rw [k_74 S]; decide), e_74 S]
theorem k_75 (S : Sh h) : aK h 75 = 11 := (S.2.1 75 (by decide)).1
theorem e_75 (S : Sh h) : aE h 75 = 9 := (S.2.1 75 (by decide)).2
theorem ld_75 (S : Sh h) {i : Nat} (hi : i < 9) : ldJ h 75 (nI i) = some (aJ h 75 i) := ldJ_n (k_75 S) (by rw [e_75 S]; exact hi) (by rw [e_75 S]; decide)
theorem st_75 (S : Sh h) {i : Nat} {v : Int64} (hi : i < 9) : stJ h 75 (nI i) v = some (sJ h 75 i v) := stJ_n (k_75 S) (by rw [e_75 S]; exact hi) (by rw [e_75 S]; decide)
theorem al_75 (S : Sh h) : aln h 75 = some (nI 9) := by rw [aln, if_pos (by rw [k_75 S]; decide), e_75 S]
theorem k_76 (S : Sh h) : aK h 76 = 11 := (S.2.1 76 (by decide)).1
theorem e_76 (S : Sh h) : aE h 76 = 1 := (S.2.1 76 (by decide)).2
theorem ld_76 (S : Sh h) {i : Nat} (hi : i < 1) : ldJ h 76 (nI i) = some (aJ h 76 i) := ldJ_n (k_76 S) (by rw [e_76 S]; exact hi) (by rw [e_76 S]; decide)
theorem st_76 (S : Sh h) {i : Nat} {v : Int64} (hi : i < 1) : stJ h 76 (nI i) v = some (sJ h 76 i v) := stJ_n (k_76 S) (by rw [e_76 S]; exact hi) (by rw [e_76 S]; decide)
theorem al_76 (S : Sh h) : aln h 76 = some (nI 1) := by rw [aln, if_pos (by rw [k_76 S]; decide), e_76 S]
theorem g_0_0 (S : Sh h) : gP h 8 0 0 = some 1 := gP_n (k_0 S) (S.2.2 (0, 0, 1) (by decide))
theorem g_0_1 (S : Sh h) : gP h 8 0 1 = some 7 := gP_n (k_0 S) (S.2.2 (0, 1, 7) (by decide))
theorem g_0_2 (S : Sh h) : gP h 8 0 2 = some 16 := gP_n (k_0 S) (S.2.2 (0, 2, 16) (by decide))
theorem g_0_3 (S : Sh h) : gP h 8 0 3 = some 25 := gP_n (k_0 S) (S.2.2 (0, 3, 25) (by decide))
theorem g_0_4 (S : Sh h) : gP h 8 0 4 = some 26 := gP_n (k_0 S) (S.2.2 (0, 4, 26) (by decide))
theorem g_0_5 (S : Sh h) : gP h 8 0 5 = some 28 := gP_n (k_0 S) (S.2.2 (0, 5, 28) (by decide))
theorem g_0_6 (S : Sh h) : gP h 8 0 6 = some 30 := gP_n (k_0 S) (S.2.2 (0, 6, 30) (by decide))
theorem g_0_7 (S : Sh h) : gP h 8 0 7 = some 51 := gP_n (k_0 S) (S.2.2 (0, 7, 51) (by decide))
theorem g_1_0 (S : Sh h) : gP h 0 1 0 = some 2 := gP_n (k_1 S) (S.2.2 (1, 0, 2) (by decide))
theorem g_1_1 (S : Sh h) : gP h 0 1 1 = some 3 := gP_n (k_1 S) (S.2.2 (1, 1, 3) (by decide))
theorem g_1_2 (S : Sh h) : gP h 0 1 2 = some 4 := gP_n (k_1 S) (S.2.2 (1, 2, 4) (by decide))
theorem g_1_3 (S : Sh h) : gP h 0 1 3 = some 5 := gP_n (k_1 S) (S.2.2 (1, 3, 5) (by decide))
theorem g_1_4 (S : Sh h) : gP h 0 1 4 = some 6 := gP_n (k_1 S) (S.2.2 (1, 4, 6) (by decide))
theorem g_7_0 (S : Sh h) : gP h 4 7 0 = some 8 := gP_n (k_7 S) (S.2.2 (7, 0, 8) (by decide))
theorem g_7_1 (S : Sh h) : gP h 4 7 1 = some 9 := gP_n (k_7 S) (S.2.2 (7, 1, 9) (by decide))
theorem g_7_2 (S : Sh h) : gP h 4 7 2 = some 10 := gP_n (k_7 S) (S.2.2 (7, 2, 10) (by decide))
theorem g_7_3 (S : Sh h) : gP h 4 7 3 = some 11 := gP_n (k_7 S) (S.2.2 (7, 3, 11) (by decide))
theorem g_7_4 (S : Sh h) : gP h 4 7 4 = some 12 := gP_n (k_7 S) (S.2.2 (7, 4, 12) (by decide))
theorem g_7_5 (S : Sh h) : gP h 4 7 5 = some 13 := gP_n (k_7 S) (S.2.2 (7, 5, 13) (by decide))
theorem g_7_6 (S : Sh h) : gP h 4 7 6 = some 14 := gP_n (k_7 S) (S.2.2 (7, 6, 14) (by decide))
theorem g_7_7 (S : Sh h) : gP h 4 7 7 = some 15 := gP_n (k_7 S) (S.2.2 (7, 7, 15) (by decide))
theorem g_16_0 (S : Sh h) : gP h 4 16 0 = some 17 := gP_n (k_16 S) (S.2.2 (16, 0, 17) (by decide))
theorem g_16_1 (S : Sh h) : gP h 4 16 1 = some 18 := gP_n (k_16 S) (S.2.2 (16, 1, 18) (by decide))
theorem g_16_2 (S : Sh h) : gP h 4 16 2 = some 19 := gP_n (k_16 S) (S.2.2 (16, 2, 19) (by decide))
theorem g_16_3 (S : Sh h) : gP h 4 16 3 = some 20 := gP_n (k_16 S) (S.2.2 (16, 3, 20) (by decide))
theorem g_16_4 (S : Sh h) : gP h 4 16 4 = some 21 := gP_n (k_16 S) (S.2.2 (16, 4, 21) (by decide))
theorem g_16_5 (S : Sh h) : gP h 4 16 5 = some 22 := gP_n (k_16 S) (S.2.2 (16, 5, 22) (by decide))
theorem g_16_6 (S : Sh h) : gP h 4 16 6 = some 23 := gP_n (k_16 S) (S.2.2 (16, 6, 23) (by decide))
theorem g_16_7 (S : Sh h) : gP h 4 16 7 = some 24 := gP_n (k_16 S) (S.2.2 (16, 7, 24) (by decide))
theorem g_26_0 (S : Sh h) : gP h 6 26 0 = some 27 := gP_n (k_26 S) (S.2.2 (26, 0, 27) (by decide))
theorem g_28_0 (S : Sh h) : gP h 6 28 0 = some 29 := gP_n (k_28 S) (S.2.2 (28, 0, 29) (by decide))
theorem g_30_0 (S : Sh h) : gP h 1 30 0 = some 1 := gP_n (k_30 S) (S.2.2 (30, 0, 1) (by decide))
theorem g_30_1 (S : Sh h) : gP h 1 30 1 = some 34 := gP_n (k_30 S) (S.2.2 (30, 1, 34) (by decide))
theorem g_30_2 (S : Sh h) : gP h 1 30 2 = some 49 := gP_n (k_30 S) (S.2.2 (30, 2, 49) (by decide))
theorem g_30_3 (S : Sh h) : gP h 1 30 3 = some 31 := gP_n (k_30 S) (S.2.2 (30, 3, 31) (by decide))
theorem g_30_4 (S : Sh h) : gP h 1 30 4 = some 33 := gP_n (k_30 S) (S.2.2 (30, 4, 33) (by decide))
theorem g_31_0 (S : Sh h) : gP h 6 31 0 = some 32 := gP_n (k_31 S) (S.2.2 (31, 0, 32) (by decide))
theorem g_34_0 (S : Sh h) : gP h 5 34 0 = some 1 := gP_n (k_34 S) (S.2.2 (34, 0, 1) (by decide))
theorem g_34_1 (S : Sh h) : gP h 5 34 1 = some 35 := gP_n (k_34 S) (S.2.2 (34, 1, 35) (by decide))
theorem g_34_2 (S : Sh h) : gP h 5 34 2 = some 36 := gP_n (k_34 S) (S.2.2 (34, 2, 36) (by decide))
theorem g_34_3 (S : Sh h) : gP h 5 34 3 = some 37 := gP_n (k_34 S) (S.2.2 (34, 3, 37) (by decide))
theorem g_34_4 (S : Sh h) : gP h 5 34 4 = some 38 := gP_n (k_34 S) (S.2.2 (34, 4, 38) (by decide))
theorem g_34_5 (S : Sh h) : gP h 5 34 5 = some 39 := gP_n (k_34 S) (S.2.2 (34, 5, 39) (by decide))
theorem g_34_6 (S : Sh h) : gP h 5 34 6 = some 40 := gP_n (k_34 S) (S.2.2 (34, 6, 40) (by decide))
theorem g_34_7 (S : Sh h) : gP h 5 34 7 = some 41 := gP_n (k_34 S) (S.2.2 (34, 7, 41) (by decide))
theorem g_34_8 (S : Sh h) : gP h 5 34 8 = some 42 := gP_n (k_34 S) (S.2.2 (34, 8, 42) (by decide))
theorem g_34_9 (S : Sh h) : gP h 5 34 9 = some 43 := gP_n (k_34 S) (S.2.2 (34, 9, 43) (by decide))
theorem g_34_10 (S : Sh h) : gP h 5 34 10 = some 45 := gP_n (k_34 S) (S.2.2 (34, 10, 45) (by decide))
theorem g_34_11 (S : Sh h) : gP h 5 34 11 = some 47 := gP_n (k_34 S) (S.2.2 (34, 11, 47) (by decide))
theorem g_43_0 (S : Sh h) : gP h 6 43 0 = some 44 := gP_n (k_43 S) (S.2.2 (43, 0, 44) (by decide))
theorem g_45_0 (S : Sh h) : gP h 6 45 0 = some 46 := gP_n (k_45 S) (S.2.2 (45, 0, 46) (by decide))
theorem g_47_0 (S : Sh h) : gP h 6 47 0 = some 48 := gP_n (k_47 S) (S.2.2 (47, 0, 48) (by decide))
theorem g_49_0 (S : Sh h) : gP h 7 49 0 = some 1 := gP_n (k_49 S) (S.2.2 (49, 0, 1) (by decide))
theorem g_49_1 (S : Sh h) : gP h 7 49 1 = some 50 := gP_n (k_49 S) (S.2.2 (49, 1, 50) (by decide))
theorem g_51_0 (S : Sh h) : gP h 3 51 0 = some 52 := gP_n (k_51 S) (S.2.2 (51, 0, 52) (by decide))
theorem g_53_5 (S : Sh h) : gP h 9 53 5 = some 54 := gP_n (k_53 S) (S.2.2 (53, 5, 54) (by decide))
theorem g_53_6 (S : Sh h) : gP h 9 53 6 = some 55 := gP_n (k_53 S) (S.2.2 (53, 6, 55) (by decide))
theorem g_53_7 (S : Sh h) : gP h 9 53 7 = some 56 := gP_n (k_53 S) (S.2.2 (53, 7, 56) (by decide))
theorem g_53_8 (S : Sh h) : gP h 9 53 8 = some 57 := gP_n (k_53 S) (S.2.2 (53, 8, 57) (by decide))
theorem g_53_9 (S : Sh h) : gP h 9 53 9 = some 58 := gP_n (k_53 S) (S.2.2 (53, 9, 58) (by decide))
theorem g_53_10 (S : Sh h) : gP h 9 53 10 = some 59 := gP_n (k_53 S) (S.2.2 (53, 10, 59) (by decide))
theorem g_53_11 (S : Sh h) : gP h 9 53 11 = some 60 := gP_n (k_53 S) (S.2.2 (53, 11, 60) (by decide))
theorem g_53_12 (S : Sh h) : gP h 9 53 12 = some 61 := gP_n (k_53 S) (S.2.2 (53, 12, 61) (by decide))
theorem g_53_13 (S : Sh h) : gP h 9 53 13 = some 62 := gP_n (k_53 S) (S.2.2 (53, 13, 62) (by decide))
theorem g_53_14 (S : Sh h) : gP h 9 53 14 = some 63 := gP_n (k_53 S) (S.2.2 (53, 14, 63) (by decide))
theorem g_53_18 (S : Sh h) : gP h 9 53 18 = some 64 := gP_n (k_53 S) (S.2.2 (53, 18, 64) (by decide))
theorem g_53_19 (S : Sh h) : gP h 9 53 19 = some 65 := gP_n (k_53 S) (S.2.2 (53, 19, 65) (by decide))
theorem g_53_21 (S : Sh h) : gP h 9 53 21 = some 66 := gP_n (k_53 S) (S.2.2 (53, 21, 66) (by decide))
theorem g_53_23 (S : Sh h) : gP h 9 53 23 = some 67 := gP_n (k_53 S) (S.2.2 (53, 23, 67) (by decide))
theorem g_53_25 (S : Sh h) : gP h 9 53 25 = some 68 := gP_n (k_53 S) (S.2.2 (53, 25, 68) (by decide))
theorem g_53_33 (S : Sh h) : gP h 9 53 33 = some 69 := gP_n (k_53 S) (S.2.2 (53, 33, 69) (by decide))
theorem g_53_35 (S : Sh h) : gP h 9 53 35 = some 70 := gP_n (k_53 S) (S.2.2 (53, 35, 70) (by decide))
theorem g_53_37 (S : Sh h) : gP h 9 53 37 = some 71 := gP_n (k_53 S) (S.2.2 (53, 37, 71) (by decide))
theorem g_53_38 (S : Sh h) : gP h 9 53 38 = some 72 := gP_n (k_53 S) (S.2.2 (53, 38, 72) (by decide))
theorem g_53_39 (S : Sh h) : gP h 9 53 39 = some 73 := gP_n (k_53 S) (S.2.2 (53, 39, 73) (by decide))
theorem g_53_40 (S : Sh h) : gP h 9 53 40 = some 74 := gP_n (k_53 S) (S.2.2 (53, 40, 74) (by decide))
theorem g_53_41 (S : Sh h) : gP h 9 53 41 = some 75 := gP_n (k_53 S) (S.2.2 (53, 41, 75) (by decide))
theorem S_7 (S : Sh h) : WPl h 7 := by
  refine ⟨k_7 S, fun j hj => ?_, fun j hj => ?_, fun j hj => ?_⟩ <;> rcases (show j = 0 ∨ j = 1 ∨ j = 2 ∨ j = 3 ∨ j = 4 ∨ j = 5 ∨ j = 6 ∨ j = 7 by omega) with rfl | rfl | rfl | rfl | rfl | rfl | rfl | rfl
  · exact S.2.2 (7, 0, 8) (by decide)
  · exact S.2.2 (7, 1, 9) (by decide)
  · exact S.2.2 (7, 2, 10) (by decide)
  · exact S.2.2 (7, 3, 11) (by decide)
  · exact S.2.2 (7, 4, 12) (by decide)
  · exact S.2.2 (7, 5, 13) (by decide)
  · exact S.2.2 (7, 6, 14) (by decide)
  · exact S.2.2 (7, 7, 15) (by decide)
  · exact k_8 S
  · exact k_9 S
  · exact k_10 S
  · exact k_11 S
  · exact k_12 S
  · exact k_13 S
  · exact k_14 S
  · exact k_15 S
  · exact e_8 S
  · exact e_9 S
  · exact e_10 S
  · exact e_11 S
  · exact e_12 S
  · exact e_13 S
  · exact e_14 S
  · exact e_15 S
theorem S_16 (S : Sh h) : WPl h 16 := by
  refine ⟨k_16 S, fun j hj => ?_, fun j hj => ?_, fun j hj => ?_⟩ <;> rcases (show j = 0 ∨ j = 1 ∨ j = 2 ∨ j = 3 ∨ j = 4 ∨ j = 5 ∨ j = 6 ∨ j = 7 by omega) with rfl | rfl | rfl | rfl | rfl | rfl | rfl | rfl
  · exact S.2.2 (16, 0, 17) (by decide)
  · exact S.2.2 (16, 1, 18) (by decide)
  · exact S.2.2 (16, 2, 19) (by decide)
  · exact S.2.2 (16, 3, 20) (by decide)
  · exact S.2.2 (16, 4, 21) (by decide)
  · exact S.2.2 (16, 5, 22) (by decide)
  · exact S.2.2 (16, 6, 23) (by decide)
  · exact S.2.2 (16, 7, 24) (by decide)
  · exact k_17 S
  · exact k_18 S
  · exact k_19 S
  · exact k_20 S
  · exact k_21 S
  · exact k_22 S
  · exact k_23 S
  · exact k_24 S
  · exact e_17 S
  · exact e_18 S
  · exact e_19 S
  · exact e_20 S
  · exact e_21 S
  · exact e_22 S
  · exact e_23 S
  · exact e_24 S
end Fix
/-- nothing but the rows in S has changed; no cell was made -/
def Fr (h h' : AH) (S : Nat → Prop) : Prop := aN h' = aN h ∧ aK h' = aK h ∧ aE h' = aE h ∧ (Sh h → Sh h') ∧ ∀ a, ¬ S a → aI h' a = aI h a ∧ aJ h' a = aJ h a ∧ aP h' a = aP h a
theorem Fr.rf (h : AH) (S : Nat → Prop) : Fr h h S := ⟨rfl, rfl, rfl, fun q => q, fun _ _ => ⟨rfl, rfl, rfl⟩⟩
theorem Fr.tr {h h1 h2 : AH} {S : Nat → Prop} (a : Fr h h1 S) (b : Fr h1 h2 S) : Fr h h2 S := ⟨b.1.trans a.1, b.2.1.trans a.2.1, b.2.2.1.trans a.2.2.1, fun q => b.2.2.2.1 (a.2.2.2.1 q), fun x hx => ⟨(b.2.2.2.2 x hx).1.trans (a.2.2.2.2 x hx).1, (b.2.2.2.2 x hx).2.1.trans (a.2.2.2.2 x hx).2.1, (b.2.2.2.2 x hx).2.2.trans (a.2.2.2.2 x hx).2.2⟩⟩
theorem Fr.mono {h h1 : AH} {S S' : Nat → Prop} (a : Fr h h1 S) (hs : ∀ x, S x → S' x) : Fr h h1 S' := ⟨a.1, a.2.1, a.2.2.1, a.2.2.2.1, fun x hx => a.2.2.2.2 x (fun q => hx (hs x q))⟩
theorem Fr.si {h : AH} {S : Nat → Prop} {a i : Nat} {v : Int32} (hs : S a) : Fr h (sI h a i v) S := ⟨rfl, rfl, rfl, fun q => q, fun x hx => ⟨up2_ne _ _ (fun e => hx (e ▸ hs)), rfl, rfl⟩⟩
theorem Fr.sj {h : AH} {S : Nat → Prop} {a i : Nat} {v : Int64} (hs : S a) : Fr h (sJ h a i v) S := ⟨rfl, rfl, rfl, fun q => q, fun x hx => ⟨rfl, up2_ne _ _ (fun e => hx (e ▸ hs)), rfl⟩⟩
theorem Fr.sp {h : AH} {S : Nat → Prop} {a j : Nat} {v : Option Nat} (hs : S a) (hn : ∀ x, x ∈ pS → ¬ (x.1 = a ∧ x.2.1 = j)) : Fr h (sP h a j v) S := ⟨rfl, rfl, rfl, fun q => q.sP hn, fun x hx => ⟨rfl, rfl, up2_ne _ _ (fun e => hx (e ▸ hs))⟩⟩
theorem Fr.ri {h : AH} {S : Nat → Prop} {a : Nat} {g : Nat → Int32} (hs : S a) : Fr h (rI h a g) S := ⟨rfl, rfl, rfl, fun q => q, fun x hx => ⟨upR_ne _ _ (fun e => hx (e ▸ hs)), rfl, rfl⟩⟩
theorem Fr.rj {h : AH} {S : Nat → Prop} {a : Nat} {g : Nat → Int64} (hs : S a) : Fr h (rJ h a g) S := ⟨rfl, rfl, rfl, fun q => q, fun x hx => ⟨rfl, upR_ne _ _ (fun e => hx (e ▸ hs)), rfl⟩⟩
theorem FrI.g {h h' : AH} {S : Nat → Prop} (a : FrI h h' S) : Fr h h' S := by
  obtain ⟨e1, e2, e3, e4, e5, e6⟩ := a
  refine ⟨e1, e2, e3, fun q => ?_, fun x hx => ⟨e6 x hx, by rw [e5], by rw [e4]⟩⟩
  unfold Sh
  rw [e1, e2, e3, e4]
  exact q
theorem Fr.S {h h' : AH} {P : Nat → Prop} (f : Fr h h' P) (S : Sh h) : Sh h' := f.2.2.2.1 S
theorem Fr.i {h h' : AH} {P : Nat → Prop} (f : Fr h h' P) {a : Nat} (ha : ¬ P a) : aI h' a = aI h a := (f.2.2.2.2 a ha).1
theorem Fr.j {h h' : AH} {P : Nat → Prop} (f : Fr h h' P) {a : Nat} (ha : ¬ P a) : aJ h' a = aJ h a := (f.2.2.2.2 a ha).2.1
theorem Fr.p {h h' : AH} {P : Nat → Prop} (f : Fr h h' P) {a : Nat} (ha : ¬ P a) : aP h' a = aP h a := (f.2.2.2.2 a ha).2.2
theorem Fr.R {h h' : AH} {P : Nat → Prop} (f : Fr h h' P) {p : Nat} {A : AP} (R : RepC h p A) (hp : ∀ a, p < a → a ≤ p + 8 → ¬ P a) : RepC h' p A := by
  have e : ∀ j, j < 8 → aI h' (p + 1 + j) = aI h (p + 1 + j) := fun j hj => f.i (hp _ (by omega) (by omega))
  unfold RepC
  rw [show aI h' (p + 1) = aI h (p + 1) from e 0 (by decide), show aI h' (p + 2) = aI h (p + 2) from e 1 (by decide), show aI h' (p + 3) = aI h (p + 3) from e 2 (by decide), show aI h' (p + 4) = aI h (p + 4) from e 3 (by decide), show aI h' (p + 5) = aI h (p + 5) from e 4 (by decide), show aI h' (p + 6) = aI h (p + 6) from e 5 (by decide), show aI h' (p + 7) = aI h (p + 7) from e 6 (by decide), show aI h' (p + 8) = aI h (p + 8) from e 7 (by decide)]
  exact R
theorem t_ptr : hiO.map (fun h => pS.all (fun x => aP h x.1 x.2.1 == some x.2.2)) = some true := by decide +kernel
