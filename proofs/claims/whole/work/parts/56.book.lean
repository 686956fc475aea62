/-! cells, makers -/
def kiN (c : Nat) : Nat := if c < 240 then c % 6 else 6 + (c - 240) % 3
def owN (c : Nat) : Nat := if c < 240 then c / 6 else (c - 240) / 3
theorem ki9 {c : Nat} : kiN c < 9 := by unfold kiN; split <;> omega
theorem ow40 {c : Nat} (h : c < 240) : owN c < 40 := by unfold owN; rw [if_pos h]; omega
theorem ow6 {c : Nat} (h : ¬ c < 240) (hc : c < 258) : owN c < 6 := by unfold owN; rw [if_neg h]; omega
theorem ow_lt {c : Nat} (hc : c < 258) : owN c < 40 := by unfold owN; split <;> omega
theorem n_of {b : Prop} [Decidable b] {x y : Int32} (h : (if b then x else y) = 0) (hx : x ≠ 0) : ¬ b := fun q => hx (by rw [if_pos q] at h; exact h)
theorem q_ownerOf (h : AH) {c : Nat} (hc : c < 258) : f_X8_ownerOf h (nI c) = some (nI (owN c)) := by
  unfold f_X8_ownerOf owN
  by_cases q : c < 240
  · rw [if_neg (show ¬ (240 : Int32) ≤ nI c from nI_ge (b := 240) q (by decide)), if_pos q, bs, show nI c / 6 = nI (c / 6) from pk_div (d := 6) (by omega) (by decide) (by decide)]
  · rw [if_pos (show (240 : Int32) ≤ nI c from nI_le (a := 240) (by omega) (by omega)), if_neg q, bs, show nI c - 240 = nI (c - 240) from pk_sub (b := 240) (by omega), show nI (c - 240) / 3 = nI ((c - 240) / 3) from pk_div (d := 3) (by omega) (by decide) (by decide)]
theorem q_kindOf (h : AH) {c : Nat} (hc : c < 258) : f_X8_kindOf h (nI c) = some (nI (kiN c)) := by
  unfold f_X8_kindOf kiN
  by_cases q : c < 240
  · rw [if_neg (show ¬ (240 : Int32) ≤ nI c from nI_ge (b := 240) q (by decide)), if_pos q, bs, show nI c - nI c / 6 * 6 = nI (c % 6) from pk_rem (d := 6) (by omega) (by decide) (by decide)]
  · rw [if_pos (show (240 : Int32) ≤ nI c from nI_le (a := 240) (by omega) (by omega)), if_neg q, bs, show nI c - 240 = nI (c - 240) from pk_sub (b := 240) (by omega), show nI (c - 240) - nI (c - 240) / 3 * 3 = nI ((c - 240) % 3) from pk_rem (d := 3) (by omega) (by decide) (by decide), show (6 : Int32) + nI ((c - 240) % 3) = nI (6 + (c - 240) % 3) from nI_add 6 _]
theorem q_isOfThing (h : AH) {c : Nat} (hc : c < 258) : f_X8_isOfThing h (nI c) = some (if c < 240 then 1 else 0) := by
  unfold f_X8_isOfThing
  by_cases q : c < 240
  · rw [if_neg (show ¬ (240 : Int32) ≤ nI c from nI_ge (b := 240) q (by decide)), if_pos q]
    rfl
  · rw [if_pos (show (240 : Int32) ≤ nI c from nI_le (a := 240) (by omega) (by omega)), if_neg q]
    rfl
theorem q_shadowOf (h : AH) (t w : Nat) : f_X8_shadowOf h (nI t) (nI w) = some (nI (6 * t + w)) := by
  unfold f_X8_shadowOf
  rw [c6]
theorem q_shadowOfList (h : AH) (t : Nat) {w : Nat} (hw : 6 ≤ w) : f_X8_shadowOfList h (nI t) (nI w) = some (nI (240 + 3 * t + (w - 6))) := by
  unfold f_X8_shadowOfList
  rw [show (240 : Int32) + 3 * nI t + nI w = nI (240 + 3 * t + w) by rw [show (3 : Int32) = nI 3 from rfl, show (240 : Int32) = nI 240 from rfl, pk_mul, nI_add, nI_add], show nI (240 + 3 * t + w) - 6 = nI (240 + 3 * t + w - 6) from pk_sub (b := 6) (by omega)]
  congr 2
  omega
theorem bz0 : bz 0 = some 0 := by decide
theorem bz1 : bz 1 = some 1 := by decide
theorem q_isOverAll (h : AH) {c : Nat} (hc : c < 25) : f_X8_isOverAll h (nI c) = some (if c = 9 ∨ c = 10 ∨ c = 11 then 1 else 0) := by
  have := (show ∀ c, c < 25 → f_X8_isOverAll h00 (nI c) = some (if c = 9 ∨ c = 10 ∨ c = 11 then 1 else 0) by decide +kernel) c hc
  exact this
theorem q_isOverOne (h : AH) {c : Nat} (hc : c < 25) : f_X8_isOverOne h (nI c) = some (if 4 ≤ c ∧ c ≤ 13 ∧ ¬ (c = 9 ∨ c = 10 ∨ c = 11) then 1 else 0) := by
  have := (show ∀ c, c < 25 → f_X8_isOverOne h00 (nI c) = some (if 4 ≤ c ∧ c ≤ 13 ∧ ¬ (c = 9 ∨ c = 10 ∨ c = 11) then 1 else 0) by decide +kernel) c hc
  exact this
/-- the book: things, lists, makers' lengths, codes, values -/
abbrev BK : Type := Nat × Nat × (Nat → Nat) × (Nat → Nat → Nat) × (Nat → Nat → Int32)
def bT (B : BK) : Nat := B.1
def bL (B : BK) : Nat := B.2.1
def bN (B : BK) : Nat → Nat := B.2.2.1
def bC (B : BK) : Nat → Nat → Nat := B.2.2.2.1
def bV (B : BK) : Nat → Nat → Int32 := B.2.2.2.2
def bW (B : BK) (k s : Nat) : Nat := (bV B k s).toNatClampNeg
/-- is it a step of a maker (o: of a thing's kind), with the value's number -/
def okS (o : Bool) (c : Nat) (v : Int32) : Prop := c = 0 ∨ (14 ≤ c ∧ c ≤ 24) ∨ (1 ≤ c ∧ c ≤ 13 ∧ v = nI v.toNatClampNeg ∧
  ((c = 1 ∧ v.toNatClampNeg < (if o = true then 4 else 2)) ∨ (c = 2 ∧ o = true ∧ v.toNatClampNeg < 2) ∨ (c = 3 ∧ (v.toNatClampNeg = 1 ∨ (o = true ∧ v.toNatClampNeg = 0))) ∨ (c = 4 ∧ (if o = true then v.toNatClampNeg < 6 else 6 ≤ v.toNatClampNeg ∧ v.toNatClampNeg < 9)) ∨ (5 ≤ c ∧ c ≤ 7 ∧ o = true ∧ v.toNatClampNeg < 6) ∨ (c = 8 ∧ o = true ∧ 6 ≤ v.toNatClampNeg ∧ v.toNatClampNeg < 9) ∨ (9 ≤ c ∧ o = false ∧ v.toNatClampNeg < 6)))
def tkN (c : Nat) : Nat := ([0, 0, 0, 0, 0, 1, 1, 1, 0, 0, 1, 1, 1, 1, 2, 2, 2, 2, 2, 2, 3, 1, 1, 2, 1] : List Nat).getD c 0
def gvN (c : Nat) : Nat := ([1, 1, 1, 1, 1, 1, 1, 1, 1, 1, 1, 1, 1, 1, 1, 1, 1, 1, 1, 1, 1, 0, 2, 2, 0] : List Nat).getD c 0
/-- how many numbers lie there before a step -/
def dpN (f : Nat → Nat) : Nat → Nat
  | 0 => 0
  | s + 1 => dpN f s - tkN (f s) + gvN (f s)
def okM (o : Bool) (n : Nat) (f : Nat → Nat) (v : Nat → Int32) : Prop := n ≤ 24 ∧ (∀ s, s < n → okS o (f s) (v s) ∧ tkN (f s) ≤ dpN f s ∧ dpN f (s + 1) ≤ 8) ∧ (n = 0 ∨ dpN f n = 1)
def WfB (B : BK) : Prop := bT B ≤ 40 ∧ bL B ≤ 6 ∧ ∀ k, k < 9 → okM (decide (k < 6)) (bN B k) (bC B k) (bV B k)
def RepB (h : AH) (B : BK) : Prop := aI h 1 6 = nI (bT B) ∧ aI h 1 7 = nI (bL B) ∧ (∀ k, k < 9 → aI h 4 k = nI (bN B k)) ∧ ∀ k s, k < 9 → s < bN B k → aI h 2 (24 * k + s) = nI (bC B k s) ∧ aI h 3 (24 * k + s) = bV B k s
theorem okS.c {o : Bool} {c : Nat} {v : Int32} (q : okS o c v) : c < 25 := by
  rcases q with q | q | q <;> omega
def isC (B : BK) (A : AP) (c : Nat) : Bool := decide (bN B (kiN c) ≠ 0) && (if c < 240 then (hmA A (owN c)).isSome else decide (owN c < bL B))
section BookR
variable {h : AH} {B : BK} {A : AP}
theorem q_stepsOf (S : Sh h) (R : RepB h B) {c : Nat} (hc : c < 258) : f_X0_stepsOf h 1 (nI c) = some (nI (bN B (kiN c))) := by
  unfold f_X0_stepsOf
  rw [if_pos (k_1 S), g_1_2 S, bs, q_kindOf h hc, bs, ld_4 S ki9, bs, R.2.2.1 _ ki9]
theorem q_codeOf (S : Sh h) (W : WfB B) (R : RepB h B) {c s : Nat} (hc : c < 258) (hs : s < bN B (kiN c)) : f_X0_codeOf h 1 (nI c) (nI s) = some (nI (bC B (kiN c) s)) := by
  have := (W.2.2 (kiN c) ki9).1
  have := ki9 (c := c)
  unfold f_X0_codeOf
  rw [if_pos (k_1 S), g_1_0 S, bs, q_kindOf h hc, bs, c24, ld_2 S (by omega), bs, (R.2.2.2 _ _ ki9 hs).1]
theorem q_valueOf (S : Sh h) (W : WfB B) (R : RepB h B) {c s : Nat} (hc : c < 258) (hs : s < bN B (kiN c)) : f_X0_valueOf h 1 (nI c) (nI s) = some (bV B (kiN c) s) := by
  have := (W.2.2 (kiN c) ki9).1
  have := ki9 (c := c)
  unfold f_X0_valueOf
  rw [if_pos (k_1 S), g_1_1 S, bs, q_kindOf h hc, bs, c24, ld_3 S (by omega), bs, (R.2.2.2 _ _ ki9 hs).2]
theorem q_isCell (S : Sh h) (W : WfB B) (R : RepB h B) {p : Nat} (w : WPl h p) (RA : RepC h p A) {c : Nat} (hc : c < 258) : f_X0_isCell h 1 p (nI c) = some (if isC B A c = true then 1 else 0) := by
  have h24 := (W.2.2 (kiN c) ki9).1
  have hL := W.2.1
  unfold f_X0_isCell isC
  rw [if_pos (k_1 S), g_1_2 S, bs, q_kindOf h hc, bs, ld_4 S ki9, bs, R.2.2.1 _ ki9]
  by_cases z : bN B (kiN c) = 0
  · rw [z, if_pos (show nI 0 = 0 from rfl)]
    simp
  · rw [if_neg (nI_ne0 (by omega) (by omega)), q_isOfThing h hc, bs]
    by_cases q : c < 240
    · rw [if_pos q, if_pos q, if_neg (by decide), w.p 3 (by decide), bs, q_ownerOf h hc, bs, w.ld 3 (by decide) (ow40 q : _ < eP 3), bs, show aI h (p + 1 + 3) (owN c) = _ from RA.2.2.2.1 _ (ow40 q)]
      cases e : hmA A (owN c) with
      | none => simp [ov_n, bz0, bs]
      | some l =>
        rcases Nat.lt_or_ge l 6 with q6 | q6
        · rw [ov_s, if_neg (nI_nm (by omega))]
          simp [z, bz1, bs]
        · have := List.mem_range.mp (List.mem_of_find?_eq_some (show List.find? _ (List.range 6) = some l from e))
          omega
    · have := ow6 q hc
      rw [if_neg q, if_neg q, if_pos rfl, q_ownerOf h hc, bs, gi_1 S, bs, R.2.1]
      by_cases y : owN c < bL B
      · rw [if_neg (nI_ge y (by omega))]
        simp [z, y, bz1, bs]
      · rw [if_pos (nI_le (by omega) (by omega))]
        simp [y, bz0, bs]
end BookR
