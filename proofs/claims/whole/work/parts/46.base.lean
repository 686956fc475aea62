/-! THE PURE PART: reading and storing by numbers below 2^31 -/
theorem nI_nn {n : Nat} (h : n < 2 ^ 31) : ¬ nI n < 0 := nI_pos h
theorem inb_n {i n : Nat} (h : i < n) (hn : n < 2 ^ 31) : ¬ (nI i < 0 ∨ n ≤ (nI i).toNatClampNeg) := nI_in h hn
theorem ldI_n {h : AH} {a i : Nat} (hk : aK h a = 10) (hi : i < aE h a) (hs : aE h a < 2 ^ 31) : ldI h a (nI i) = some (aI h a i) := by
  unfold ldI
  rw [if_pos ⟨hk, inb_n hi hs⟩, nI_clamp (by omega)]
theorem ldJ_n {h : AH} {a i : Nat} (hk : aK h a = 11) (hi : i < aE h a) (hs : aE h a < 2 ^ 31) : ldJ h a (nI i) = some (aJ h a i) := by
  unfold ldJ
  rw [if_pos ⟨hk, inb_n hi hs⟩, nI_clamp (by omega)]
theorem ldZ_n {h : AH} {a i : Nat} (hk : aK h a = 12) (hi : i < aE h a) (hs : aE h a < 2 ^ 31) : ldZ h a (nI i) = some (aI h a i) := by
  unfold ldZ
  rw [if_pos ⟨hk, inb_n hi hs⟩, nI_clamp (by omega)]
theorem ldP_n {h : AH} {a i : Nat} (hk : aK h a = 13) (hi : i < aE h a) (hs : aE h a < 2 ^ 31) : ldP h a (nI i) = some (aP h a i) := by
  unfold ldP
  rw [if_pos ⟨hk, inb_n hi hs⟩, nI_clamp (by omega)]
theorem stI_n {h : AH} {a i : Nat} {v : Int32} (hk : aK h a = 10) (hi : i < aE h a) (hs : aE h a < 2 ^ 31) : stI h a (nI i) v = some (sI h a i v) := by
  unfold stI
  rw [if_pos ⟨hk, inb_n hi hs⟩, nI_clamp (by omega)]
theorem stJ_n {h : AH} {a i : Nat} {v : Int64} (hk : aK h a = 11) (hi : i < aE h a) (hs : aE h a < 2 ^ 31) : stJ h a (nI i) v = some (sJ h a i v) := by
  unfold stJ
  rw [if_pos ⟨hk, inb_n hi hs⟩, nI_clamp (by omega)]
theorem stZ_n {h : AH} {a i : Nat} {v : Int32} (hk : aK h a = 12) (hv : v = 0 ∨ v = 1) (hi : i < aE h a) (hs : aE h a < 2 ^ 31) : stZ h a (nI i) v = some (sI h a i v) := by
  unfold stZ
  rw [if_pos ⟨⟨hk, hv⟩, inb_n hi hs⟩, nI_clamp (by omega)]
theorem stP_n {h : AH} {a i v : Nat} (hk : aK h a = 13) (hv : aK h v = 2) (hi : i < aE h a) (hs : aE h a < 2 ^ 31) : stP h a (nI i) v = some (sP h a i (some v)) := by
  unfold stP
  rw [if_pos ⟨⟨hk, hv⟩, inb_n hi hs⟩, nI_clamp (by omega)]
theorem gI_n {h : AH} {c a j : Nat} (hk : aK h a = c) : gI h c a j = some (aI h a j) := if_pos hk
theorem gJ_n {h : AH} {c a j : Nat} (hk : aK h a = c) : gJ h c a j = some (aJ h a j) := if_pos hk
theorem gP_n {h : AH} {c a j b : Nat} (hk : aK h a = c) (hp : aP h a j = some b) : gP h c a j = some b := by rw [gP, if_pos hk, hp]
theorem pI_n {h : AH} {c a j : Nat} {v : Int32} (hk : aK h a = c) : pI h c a j v = some (sI h a j v) := if_pos hk
theorem pZ_n {h : AH} {c a j : Nat} {v : Int32} (hk : aK h a = c) (hv : v = 0 ∨ v = 1) : pZ h c a j v = some (sI h a j v) := if_pos ⟨hk, hv⟩
theorem pJ_n {h : AH} {c a j : Nat} {v : Int64} (hk : aK h a = c) : pJ h c a j v = some (sJ h a j v) := if_pos hk
theorem pP_n {h : AH} {c a j v : Nat} (hk : aK h a = c) : pP h c a j v = some (sP h a j (some v)) := if_pos hk
/-- what a store leaves -/
theorem sI_K (h : AH) (a i : Nat) (v : Int32) : aK (sI h a i v) = aK h := rfl
theorem sI_E (h : AH) (a i : Nat) (v : Int32) : aE (sI h a i v) = aE h := rfl
theorem sI_P (h : AH) (a i : Nat) (v : Int32) : aP (sI h a i v) = aP h := rfl
theorem sI_J (h : AH) (a i : Nat) (v : Int32) : aJ (sI h a i v) = aJ h := rfl
theorem sI_N (h : AH) (a i : Nat) (v : Int32) : aN (sI h a i v) = aN h := rfl
theorem sI_I (h : AH) (a i : Nat) (v : Int32) (b j : Nat) : aI (sI h a i v) b j = if b = a ∧ j = i then v else aI h b j := rfl
theorem sJ_K (h : AH) (a i : Nat) (v : Int64) : aK (sJ h a i v) = aK h := rfl
theorem sJ_E (h : AH) (a i : Nat) (v : Int64) : aE (sJ h a i v) = aE h := rfl
theorem sJ_P (h : AH) (a i : Nat) (v : Int64) : aP (sJ h a i v) = aP h := rfl
theorem sJ_I (h : AH) (a i : Nat) (v : Int64) : aI (sJ h a i v) = aI h := rfl
theorem sJ_N (h : AH) (a i : Nat) (v : Int64) : aN (sJ h a i v) = aN h := rfl
theorem sJ_J (h : AH) (a i : Nat) (v : Int64) (b j : Nat) : aJ (sJ h a i v) b j = if b = a ∧ j = i then v else aJ h b j := rfl
theorem sP_K (h : AH) (a i : Nat) (v : Option Nat) : aK (sP h a i v) = aK h := rfl
theorem sP_E (h : AH) (a i : Nat) (v : Option Nat) : aE (sP h a i v) = aE h := rfl
theorem sP_I (h : AH) (a i : Nat) (v : Option Nat) : aI (sP h a i v) = aI h := rfl
theorem sP_J (h : AH) (a i : Nat) (v : Option Nat) : aJ (sP h a i v) = aJ h := rfl
theorem sP_N (h : AH) (a i : Nat) (v : Option Nat) : aN (sP h a i v) = aN h := rfl
theorem sP_P (h : AH) (a i : Nat) (v : Option Nat) (b j : Nat) : aP (sP h a i v) b j = if b = a ∧ j = i then v else aP h b j := rfl
theorem rI_I (h : AH) (a : Nat) (g : Nat → Int32) (b j : Nat) : aI (rI h a g) b j = if b = a then g j else aI h b j := by
  show upR _ _ _ _ _ = _
  by_cases hb : b = a <;> simp [upR, hb, aI]
theorem rJ_J (h : AH) (a : Nat) (g : Nat → Int64) (b j : Nat) : aJ (rJ h a g) b j = if b = a then g j else aJ h b j := by
  show upR _ _ _ _ _ = _
  by_cases hb : b = a <;> simp [upR, hb, aJ]
/-- numbers as Int32 -/
theorem nI_nm {a : Nat} (h : a < 2 ^ 31) : nI a ≠ -1 := by
  intro e
  have h1 := congrArg Int32.toInt e
  rw [nI_toInt h] at h1
  have h2 : (-1 : Int32).toInt = -1 := by decide
  rw [h2] at h1
  omega
theorem c40 (l p : Nat) : 40 * nI l + nI p = nI (40 * l + p) := by
  rw [show (40 : Int32) = nI 40 from rfl, pk_mul, nI_add]
theorem c24 (l p : Nat) : 24 * nI l + nI p = nI (24 * l + p) := by
  rw [show (24 : Int32) = nI 24 from rfl, pk_mul, nI_add]
theorem c5 (l p : Nat) : 5 * nI l + nI p = nI (5 * l + p) := by
  rw [show (5 : Int32) = nI 5 from rfl, pk_mul, nI_add]
theorem c4 (l p : Nat) : 4 * nI l + nI p = nI (4 * l + p) := by
  rw [show (4 : Int32) = nI 4 from rfl, pk_mul, nI_add]
theorem c2 (l p : Nat) : 2 * nI l + nI p = nI (2 * l + p) := by
  rw [show (2 : Int32) = nI 2 from rfl, pk_mul, nI_add]
theorem c6 (l p : Nat) : 6 * nI l + nI p = nI (6 * l + p) := by
  rw [show (6 : Int32) = nI 6 from rfl, pk_mul, nI_add]
