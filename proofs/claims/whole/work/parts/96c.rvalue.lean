/-! THE OTHER ONE: the value of a look; numbers within bounds -/
def vlG (A : AP) (N : Nat → Int64) (o i : Nat) : Int64 := if 5000 ≤ i then N (i - 5000) else if 4000 ≤ i then (nI (qS A (i - 4000))).toInt64 else if 3000 ≤ i then (ov (spA A o)).toInt64 else if 2000 ≤ i then (qL A (i - 2000)).toInt64 else if 1000 ≤ i then (qF A (i - 1000)).toInt64 else 0
/-- an id that may be looked at -/
def okI (A : AP) (o i : Nat) : Prop := i = 0 ∨ (1000 ≤ i ∧ i < 1160) ∨ (2000 ≤ i ∧ i < 2012) ∨ (3000 ≤ i ∧ i < 3006 ∧ ∃ l k, hmA A o = some l ∧ spA A o = some k ∧ k < qS A l ∧ qR A l k = o) ∨ (4000 ≤ i ∧ i < 4006) ∨ (5000 ≤ i ∧ i < 5258)
section RVal
variable {h : AH} {B : BK} {A : AP} {b : Nat}
theorem r_valueOf (W : WfB B) (f : WfA A (bT B) (bL B)) (x : Cr h B A b) {N : Nat → Int64} {a : Nat} (ka : aK h a = 11) (ea : aE h a = 258) (hN : ∀ d, d < 258 → isC B A d = true → aJ h a d = N d) (hz : ∀ d, d < 258 → isC B A d = false → N d = 0) {o i : Nat} (ho : o < 40) (hi : okI A o i) : f_X9_valueOf h 53 b a (nI i) (nI o) = some (vlG A N o i) := by
  have w := x.2.2.1
  have R := x.2.2.2
  unfold f_X9_valueOf vlG
  rw [if_pos (k_53 x.1)]
  have lt : ∀ n : Nat, n < 2 ^ 31 → i < n → nI i < nI n := fun n hn q => nI_lt q hn
  have ge : ∀ n : Nat, n ≤ i → i < 2 ^ 31 → ¬ nI i < nI n := fun n q h1 => nI_nlt q h1
  rcases hi with q | q | q | ⟨q1, q2, l, k, p1, p2, p3, p4⟩ | q | q
  · rw [if_pos (show nI i < 5000 from lt 5000 (by decide) (by omega)), if_pos (show nI i < 4000 from lt 4000 (by decide) (by omega)), if_pos (show nI i < 3000 from lt 3000 (by decide) (by omega)), if_pos (show nI i < 2000 from lt 2000 (by decide) (by omega)), if_pos (show nI i < 1000 from lt 1000 (by decide) (by omega)), bs, if_neg (show ¬ 5000 ≤ i by omega), if_neg (show ¬ 4000 ≤ i by omega), if_neg (show ¬ 3000 ≤ i by omega), if_neg (show ¬ 2000 ≤ i by omega), if_neg (show ¬ 1000 ≤ i by omega)]
  · have := R.1 (i - 1000) (by omega)
    rw [Nat.zero_add] at this
    rw [if_pos (show nI i < 5000 from lt 5000 (by decide) (by omega)), if_pos (show nI i < 4000 from lt 4000 (by decide) (by omega)), if_pos (show nI i < 3000 from lt 3000 (by decide) (by omega)), if_pos (show nI i < 2000 from lt 2000 (by decide) (by omega)), if_neg (show ¬ nI i < 1000 from ge 1000 (by omega) (by omega)), show (0 : Int32) + nI i = nI i by rw [show (0 : Int32) = nI 0 from rfl, nI_add, Nat.zero_add], show nI i - 1000 = nI (i - 1000) from pk_sub (b := 1000) (by omega), w.ld (by omega), bs, bs, this, if_neg (show ¬ 5000 ≤ i by omega), if_neg (show ¬ 4000 ≤ i by omega), if_neg (show ¬ 3000 ≤ i by omega), if_neg (show ¬ 2000 ≤ i by omega), if_pos (show 1000 ≤ i by omega)]
  · have := R.2.1 (i - 2000) (by omega)
    rw [Nat.zero_add] at this
    rw [if_pos (show nI i < 5000 from lt 5000 (by decide) (by omega)), if_pos (show nI i < 4000 from lt 4000 (by decide) (by omega)), if_pos (show nI i < 3000 from lt 3000 (by decide) (by omega)), if_neg (show ¬ nI i < 2000 from ge 2000 (by omega) (by omega)), show (160 : Int32) + nI i = nI (160 + i) from nI_add 160 i, show nI (160 + i) - 2000 = nI (160 + i - 2000) from pk_sub (b := 2000) (by omega), show 160 + i - 2000 = 160 + (i - 2000) by omega, w.ld (by omega), bs, this, if_neg (show ¬ 5000 ≤ i by omega), if_neg (show ¬ 4000 ≤ i by omega), if_neg (show ¬ 3000 ≤ i by omega), if_pos (show 2000 ≤ i by omega)]
  · rw [if_pos (show nI i < 5000 from lt 5000 (by decide) (by omega)), if_pos (show nI i < 4000 from lt 4000 (by decide) (by omega)), if_neg (show ¬ nI i < 3000 from ge 3000 (by omega) (by omega)), r_placeOf w R f ho p1 p3 p4, bs, p2, ov_s, if_neg (show ¬ 5000 ≤ i by omega), if_neg (show ¬ 4000 ≤ i by omega), if_pos (show 3000 ≤ i by omega)]
  · have := R.2.2.2.2.2.1 (i - 4000) (by omega)
    rw [Nat.zero_add] at this
    rw [if_pos (show nI i < 5000 from lt 5000 (by decide) (by omega)), if_neg (show ¬ nI i < 4000 from ge 4000 (by omega) (by omega)), show (492 : Int32) + nI i = nI (492 + i) from nI_add 492 i, show nI (492 + i) - 4000 = nI (492 + i - 4000) from pk_sub (b := 4000) (by omega), show 492 + i - 4000 = 492 + (i - 4000) by omega, w.ld (by omega), bs, this, if_neg (show ¬ 5000 ≤ i by omega), if_pos (show 4000 ≤ i by omega)]
  · rw [if_neg (show ¬ nI i < 5000 from ge 5000 (by omega) (by omega)), show nI i - 5000 = nI (i - 5000) from pk_sub (b := 5000) (by omega), r_isCell x.1 W x.2.1 w R f (by omega), bs, if_pos (show 5000 ≤ i by omega)]
    cases e : isC B A (i - 5000) with
    | false => rw [if_pos (by decide), bs, hz _ (by omega) e]
    | true => rw [if_neg (by decide), ldJ_n ka (by omega) (by omega), bs, bs, hN _ (by omega) e]
/-- the looks of a step are such ids; their values -/
theorem id_ok {W : WfB B} (f : WfA A (bT B) (bL B)) {c s : Nat} (hc : c < 258) (hC : isC B A c = true) (hs : s < nsN B c) : ∀ i, i ∈ idS B A c s → okI A (owN c) i := by
  have how := ow_lt hc
  obtain ⟨l, l1, l2, l3⟩ := c_ls W f hc hC
  intro i hi
  unfold idS at hi
  unfold okI
  by_cases q1 : cdN B c s = 1
  · obtain ⟨-, v2⟩ := ok_giv W hc hs (by omega)
    rw [if_pos q1] at hi
    have hi' := List.mem_singleton.mp hi
    have v3 : vaN B c s < (if c < 240 then 4 else 2) := by omega
    by_cases q : c < 240
    · rw [if_pos q] at hi' v3; omega
    · rw [if_neg q] at hi' v3
      have := ow6 q hc
      omega
  · rw [if_neg q1] at hi
    by_cases q2 : cdN B c s = 2
    · obtain ⟨-, v2⟩ := ok_giv W hc hs (by omega)
      rw [if_pos q2] at hi
      have hi' := List.mem_singleton.mp hi
      omega
    · rw [if_neg q2] at hi
      by_cases q3 : cdN B c s = 3
      · obtain ⟨-, v2⟩ := ok_giv W hc hs (by omega)
        rw [if_pos q3] at hi
        have hi' := List.mem_singleton.mp hi
        by_cases q : vaN B c s = 0
        · rw [if_pos q, l3] at hi'
          have hc240 : c < 240 := by omega
          unfold lsN at l1
          rw [if_pos hc240] at l1
          rcases hm_or f (owN c) with ⟨e1, -, -⟩ | ⟨l', k, -, -, hk, e2, e1, e3⟩
          · rw [e1] at l1; cases l1
          · exact Or.inr (Or.inr (Or.inr (Or.inl ⟨by omega, by omega, l', k, e1, e3, hk, e2⟩)))
        · rw [if_neg q, l3] at hi'; omega
      · rw [if_neg q3] at hi
        by_cases qa : cdN B c s = 9 ∨ cdN B c s = 10 ∨ cdN B c s = 11
        · rw [if_pos qa] at hi
          obtain ⟨d, h1, h2⟩ := List.mem_map.mp hi
          have := sd_lt W f hc hs h1
          omega
        · rw [if_neg qa] at hi
          by_cases qo : 4 ≤ cdN B c s ∧ cdN B c s ≤ 13 ∧ ¬ (cdN B c s = 9 ∨ cdN B c s = 10 ∨ cdN B c s = 11)
          · rw [if_pos qo] at hi
            have hi' := List.mem_singleton.mp hi
            have hlt := idO_lt (W := W) (A := A) f hc hs qo
            cases e : seN A c (cdN B c s) (vaN B c s) with
            | none => rw [e] at hi'; exact Or.inl hi'
            | some d =>
              rw [e] at hi' hlt
              have h1 : i = 5000 + d := hi'
              have h2 : 5000 + d < 5258 := hlt
              omega
          · rw [if_neg qo] at hi; cases hi
end RVal
/-! numbers within bounds -/
theorem bd_i {x : Int64} : bdJ x ↔ -1000000000000000 ≤ x.toInt ∧ x.toInt ≤ 1000000000000000 := by
  unfold bdJ
  rw [Int64.lt_iff_toInt_lt, Int64.le_iff_toInt_le]
  have h1 : (-LM).toInt = -1000000000000000 := by decide
  have h2 : LM.toInt = 1000000000000000 := by decide
  rw [h1, h2]
  omega
theorem bd_32 (v : Int32) : bdJ v.toInt64 := by
  rw [bd_i, Int32.toInt_toInt64]
  have h1 := Int32.le_toInt v
  have h2 := Int32.toInt_lt v
  omega
theorem bd_mn {x y : Int64} (hx : bdJ x) (hy : bdJ y) : bdJ (mnJ x y) := by unfold mnJ; split <;> assumption
theorem bd_mx {x y : Int64} (hx : bdJ x) (hy : bdJ y) : bdJ (mxJ x y) := by unfold mxJ; split <;> assumption
theorem bd_div {x y : Int64} (hx : bdJ x) : bdJ (x / y) := by
  rw [bd_i] at hx ⊢
  rw [Int64.toInt_div]
  have h1 : (x.toInt.tdiv y.toInt).natAbs ≤ x.toInt.natAbs := by
    rw [Int.natAbs_tdiv]
    exact Nat.div_le_self _ _
  have h3 : (x.toInt.tdiv y.toInt).bmod (2 ^ 64) = x.toInt.tdiv y.toInt := by
    apply Int.bmod_eq_of_le <;> omega
  rw [h3]
  omega
theorem abJ_i {x : Int64} (hx : bdJ x) : (abJ x).toInt = (x.toInt.natAbs : Int) := by
  rw [bd_i] at hx
  unfold abJ
  have h0 : (0 : Int64).toInt = 0 := by decide
  by_cases q : 0 < x
  · rw [if_pos q]
    have := Int64.lt_iff_toInt_lt.mp q
    omega
  · rw [if_neg q, Int64.toInt_neg]
    have h1 : ¬ (0 : Int64).toInt < x.toInt := fun e => q (Int64.lt_iff_toInt_lt.mpr e)
    have h3 : (-x.toInt).bmod (2 ^ 64) = -x.toInt := by
      apply Int.bmod_eq_of_le <;> omega
    rw [h3]
    omega
theorem bd_mul {x y : Int64} (hx : bdJ x) (hy : bdJ y) (h : x = 0 ∨ abJ y ≤ LM / abJ x) : bdJ (x * y) := by
  rcases h with h | h
  · rw [h, Int64.zero_mul]; exact bd_0
  · have ax := abJ_i hx
    have ay := abJ_i hy
    rw [bd_i] at hx hy ⊢
    have h1 := Int64.le_iff_toInt_le.mp h
    have hl : LM.toInt = 1000000000000000 := by decide
    rw [Int64.toInt_div, ax, ay, hl] at h1
    have h3 : (Int.tdiv 1000000000000000 (x.toInt.natAbs : Int)).bmod (2 ^ 64) = Int.tdiv 1000000000000000 (x.toInt.natAbs : Int) := by
      have h4 : (Int.tdiv 1000000000000000 (x.toInt.natAbs : Int)).natAbs ≤ 1000000000000000 := by
        rw [Int.natAbs_tdiv]
        exact Nat.div_le_self _ _
      apply Int.bmod_eq_of_le <;> omega
    rw [h3] at h1
    have h5 : Int.tdiv 1000000000000000 (x.toInt.natAbs : Int) = ((1000000000000000 / x.toInt.natAbs : Nat) : Int) := by
      rw [show (1000000000000000 : Int) = ((1000000000000000 : Nat) : Int) from rfl, Int.ofNat_tdiv]
    rw [h5] at h1
    have h6 : y.toInt.natAbs ≤ 1000000000000000 / x.toInt.natAbs := by omega
    have h7 : y.toInt.natAbs * x.toInt.natAbs ≤ 1000000000000000 := by
      rcases Nat.eq_zero_or_pos x.toInt.natAbs with z | z
      · rw [z, Nat.mul_zero]; omega
      · exact (Nat.le_div_iff_mul_le z).mp h6
    have h8 : (x.toInt * y.toInt).natAbs ≤ 1000000000000000 := by
      rw [Int.natAbs_mul, Nat.mul_comm]; exact h7
    rw [Int64.toInt_mul]
    have h9 : (x.toInt * y.toInt).bmod (2 ^ 64) = x.toInt * y.toInt := by
      apply Int.bmod_eq_of_le <;> omega
    rw [h9]
    omega
