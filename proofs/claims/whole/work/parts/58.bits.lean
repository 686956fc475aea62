/-! words of bits -/
def gb (x : Int64) (j : Nat) : Bool := x.toBitVec.getLsbD j
def b1 (k : Nat) : Int64 := 1 <<< ((nI k).toInt64 &&& 63)
theorem b1_bv : ∀ k, k < 64 → (b1 k).toBitVec = BitVec.twoPow 64 k := by decide +kernel
theorem q_bitOf (h : AH) {d : Nat} (hd : d < 2 ^ 31) : f_X5_bitOf h (nI d) = some (b1 (d % 64)) := by
  unfold f_X5_bitOf b1
  rw [show nI d - nI d / 64 * 64 = nI (d % 64) from pk_rem (d := 64) hd (by decide) (by decide)]
theorem gb_ext {x y : Int64} (h : ∀ j, j < 64 → gb x j = gb y j) : x = y := Int64.toBitVec_inj.mp (BitVec.eq_of_getLsbD_eq (fun i hi => h i hi))
theorem gb_or (x y : Int64) (j : Nat) : gb (x ||| y) j = (gb x j || gb y j) := by unfold gb; rw [Int64.toBitVec_or, BitVec.getLsbD_or]
theorem gb_and (x y : Int64) (j : Nat) : gb (x &&& y) j = (gb x j && gb y j) := by unfold gb; rw [Int64.toBitVec_and, BitVec.getLsbD_and]
theorem gb_m1 : ∀ j, j < 64 → gb (-1) j = true := by decide +kernel
theorem gb_not (x : Int64) {j : Nat} (hj : j < 64) : gb (x ^^^ (-1)) j = !(gb x j) := by
  have := gb_m1 j hj
  unfold gb at this ⊢
  rw [Int64.toBitVec_xor, BitVec.getLsbD_xor, this, Bool.xor_true]
theorem gb_0 (j : Nat) : gb 0 j = false := BitVec.getLsbD_zero
theorem gb_1 {k : Nat} (hk : k < 64) (j : Nat) : gb (b1 k) j = decide (k = j) := by
  unfold gb
  rw [b1_bv k hk, BitVec.getLsbD_twoPow]
  simp [hk]
theorem gb_z {x : Int64} : x = 0 ↔ ∀ j, j < 64 → gb x j = false := by
  constructor
  · intro e j _
    rw [e, gb_0]
  · intro h
    exact gb_ext (fun j hj => by rw [h j hj, gb_0])
theorem cmp_z (x : Int64) : lg_cmp x 0 = 0 ↔ x = 0 := by
  unfold lg_cmp
  by_cases h1 : x > 0
  · rw [if_pos h1]
    constructor
    · intro e; exact absurd e (by decide)
    · intro e; rw [e] at h1; exact absurd h1 (by decide)
  · rw [if_neg h1]
    by_cases h2 : x = 0
    · rw [if_pos h2]; exact ⟨fun _ => h2, fun _ => rfl⟩
    · rw [if_neg h2]
      exact ⟨fun e => absurd e (by decide), fun e => absurd e h2⟩
theorem and_b1 (x : Int64) {k : Nat} (hk : k < 64) : (x &&& b1 k) = 0 ↔ gb x k = false := by
  rw [gb_z]
  constructor
  · intro h
    have := h k hk
    rw [gb_and, gb_1 hk] at this
    simpa using this
  · intro h j hj
    rw [gb_and, gb_1 hk]
    by_cases e : k = j
    · subst e; rw [h]; rfl
    · simp [e]
theorem bc_1 : ∀ k, k < 64 → f_J13_bitCount_95d88 h00 (b1 k - 1) = some (nI k) := by decide +kernel
theorem gb_neg (x : Int64) {j : Nat} (hj : j < 64) : gb (0 - x) j = (gb x j ^^ decide (∃ i, i < j ∧ gb x i = true)) := by
  unfold gb
  rw [Int64.toBitVec_sub, show (0 : Int64).toBitVec = 0#64 from rfl, BitVec.zero_sub, BitVec.getLsbD_neg]
  simp [hj]
theorem gb_dec (x : Int64) {j : Nat} (hj : j < 64) : gb (x - 1) j = !(gb (0 - x) j) := by
  unfold gb
  rw [Int64.toBitVec_sub, Int64.toBitVec_sub, show (0 : Int64).toBitVec = 0#64 from rfl, BitVec.zero_sub, show (1 : Int64).toBitVec = 1#64 from rfl, ← BitVec.not_neg, BitVec.getLsbD_not]
  simp [hj]
/-- the lowest bit -/
theorem low_bit (h : AH) {x : Int64} (hx : x ≠ 0) : ∃ k, k < 64 ∧ gb x k = true ∧ (∀ j, j < k → gb x j = false) ∧ f_J13_bitCount_95d88 h ((x &&& (0 - x)) - 1) = some (nI k) ∧ ∀ j, j < 64 → gb (x &&& (x - 1)) j = (gb x j && decide (j ≠ k)) := by
  have h1 : ∃ k, k < 64 ∧ gb x k = true := by
    apply Classical.byContradiction
    intro hn
    exact hx (gb_z.mpr (fun j hj => by
      cases e : gb x j with
      | false => rfl
      | true => exact absurd ⟨j, hj, e⟩ hn))
  have h2 : ∃ k, k < 64 ∧ gb x k = true ∧ ∀ j, j < k → gb x j = false := by
    obtain ⟨k, hk, e⟩ := h1
    induction k using Nat.strongRecOn with
    | ind k ih =>
      by_cases hc : ∃ j, j < k ∧ gb x j = true
      · obtain ⟨j, hj, ej⟩ := hc
        exact ih j hj (by omega) ej
      · refine ⟨k, hk, e, fun j hj => ?_⟩
        cases e2 : gb x j with
        | false => rfl
        | true => exact absurd ⟨j, hj, e2⟩ hc
  obtain ⟨k, hk, e, hl⟩ := h2
  have key : ∀ j, decide (∃ i, i < j ∧ gb x i = true) = decide (k < j) := by
    intro j
    congr 1
    apply propext
    constructor
    · rintro ⟨i, hi, ei⟩
      rcases Nat.lt_or_ge i k with q | q
      · rw [hl i q] at ei; cases ei
      · omega
    · intro hkj
      exact ⟨k, hkj, e⟩
  refine ⟨k, hk, e, hl, ?_, fun j hj => ?_⟩
  · have e1 : (x &&& (0 - x)) = b1 k := gb_ext (fun j hj => by
      rw [gb_and, gb_neg x hj, key, gb_1 hk]
      by_cases q : j = k
      · subst q; rw [e]; simp
      · by_cases q2 : j < k
        · rw [hl j q2]; simp; omega
        · have q3 : k < j := by omega
          have q4 : ¬ k = j := by omega
          cases gb x j <;> simp [q3, q4])
    rw [e1]
    exact bc_1 k hk
  · rw [gb_and, gb_dec x hj, gb_neg x hj, key]
    by_cases q : j = k
    · subst q; rw [e]; simp
    · by_cases q2 : j < k
      · rw [hl j q2]; simp
      · have q3 : k < j := by omega
        cases gb x j <;> simp [q3, q]
/-- sets of cells: five words from o on -/
def hb (f : Nat → Int64) (o d : Nat) : Bool := gb (f (o + d / 64)) (d % 64)
theorem hb_set {f g : Nat → Int64} {o d : Nat} (hg : ∀ i, g i = if i = o + d / 64 then f i ||| b1 (d % 64) else f i) (e : Nat) : hb g o e = (hb f o e || decide (e = d)) := by
  unfold hb
  rw [hg]
  by_cases q : e / 64 = d / 64
  · rw [if_pos (by omega), gb_or, gb_1 (Nat.mod_lt _ (by decide))]
    congr 2
    apply propext
    constructor
    · intro q2; omega
    · intro q2; omega
  · rw [if_neg (by omega)]
    have : ¬ e = d := fun q2 => q (by rw [q2])
    simp [this]
theorem hb_set_ne {f g : Nat → Int64} {c d : Nat} (hd : d < 320) (hg : ∀ i, g i = if i = 5 * c + d / 64 then f i ||| b1 (d % 64) else f i) {c' e : Nat} (he : e < 320) (hc : c' ≠ c) : hb g (5 * c') e = hb f (5 * c') e := by
  unfold hb
  rw [hg, if_neg (by omega)]
theorem q_has {h : AH} {a : Nat} {d : Nat} (hk : aK h a = 11) (he : aE h a = 5) (hd : d < 320) : f_X5_has h a (nI d) = some (if hb (aJ h a) 0 d = true then 1 else 0) := by
  unfold f_X5_has hb
  rw [show nI d / 64 = nI (d / 64) from pk_div (d := 64) (by omega) (by decide) (by decide), ldJ_n hk (by omega) (by omega), bs, q_bitOf h (by omega), bs, Nat.zero_add]
  by_cases q : gb (aJ h a (d / 64)) (d % 64) = true
  · rw [if_pos q, if_neg (fun e => by rw [cmp_z, and_b1 _ (Nat.mod_lt _ (by decide)), q] at e; cases e)]
    rfl
  · rw [if_neg q, if_pos ((cmp_z _).mpr ((and_b1 _ (Nat.mod_lt _ (by decide))).mpr (by simpa using q)))]
    rfl
