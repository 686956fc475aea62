/-! the class: maker -/
/-- is it a step: as the class asks it -/
def isB (o : Bool) (c v : Int32) : Bool := decide (f_X0_isStep h00 (bI o) c v = some 1)
def tkV (c : Int32) : Nat := tkN c.toNatClampNeg
def gvV (c : Int32) : Nat := gvN c.toNatClampNeg
/-- the fault of collected steps from s on, with d numbers lying there -/
def flG (o : Bool) (C : List (Int32 × Int32)) : List (Int32 × Int32) → Nat → Nat → Int32
  | [], _, d => if d = 1 then 0 else -1 - nI C.length
  | (c, v) :: r, s, d => if isB o c v = true ∧ tkV c ≤ d ∧ d - tkV c + gvV c ≤ 8 then flG o C r (s + 1) (d - tkV c + gvV c) else -1 - nI s
def mkB (B : BK) (k : Nat) (C : List (Int32 × Int32)) : BK := (B.1, B.2.1, fun j => if j = k then C.length else B.2.2.1 j, fun j s => if j = k then ((C[s]?).getD (0, 0)).1.toNatClampNeg else B.2.2.2.1 j s, fun j s => if j = k then ((C[s]?).getD (0, 0)).2 else B.2.2.2.2 j s)
def oMaker (S : SX) (k : Int32) : Except Nat Int32 × SX := if tO S = true then (.error 0, S) else match dcN k 9 with
  | none => (.error 1, S)
  | some k => if flG (decide (k < 6)) (tC S) (tC S) 0 0 = 0 then (.ok 0, seB S (mkB (tB S) k (tC S)) [] (tA S) (tP S)) else (.ok (flG (decide (k < 6)) (tC S) (tC S) 0 0), seB S (tB S) [] (tA S) (tP S))
/-- numbers, as far as steps ask of them -/
def vrN (v : Int32) : Int32 := if v < 0 then -1 else if nI 9 ≤ v then 9 else v
theorem vr_or (v : Int32) : (v < 0 ∧ vrN v = -1) ∨ (nI 9 ≤ v ∧ ¬ v < 0 ∧ vrN v = 9) ∨ ∃ k, k < 9 ∧ v = nI k ∧ vrN v = nI k := by
  unfold vrN
  by_cases q : v < 0
  · exact Or.inl ⟨q, if_pos q⟩
  · obtain ⟨j, hj, e⟩ := nI_of q
    rw [if_neg q]
    by_cases q2 : j < 9
    · exact Or.inr (Or.inr ⟨j, q2, e, by rw [e, if_neg (nI_ge q2 (by decide))]⟩)
    · have q3 : nI 9 ≤ v := by rw [e]; exact nI_le (by omega) hj
      exact Or.inr (Or.inl ⟨q3, q, if_pos q3⟩)
theorem ti0 : (0 : Int32).toInt = 0 := by decide
theorem v_lt {v : Int32} (n : Int32) (hn : 0 ≤ n.toInt ∧ n.toInt ≤ 9) : (v < n) = (vrN v < n) := by
  apply propext
  rcases vr_or v with ⟨q, e⟩ | ⟨q, -, e⟩ | ⟨k, -, e1, e⟩
  · rw [e, Int32.lt_iff_toInt_lt, Int32.lt_iff_toInt_lt]
    have h1 := Int32.lt_iff_toInt_lt.mp q
    have h2 : (-1 : Int32).toInt = -1 := by decide
    rw [ti0] at h1
    omega
  · rw [e, Int32.lt_iff_toInt_lt, Int32.lt_iff_toInt_lt]
    have h1 := Int32.le_iff_toInt_le.mp q
    have h2 : (nI 9).toInt = 9 := by decide
    have h3 : (9 : Int32).toInt = 9 := by decide
    omega
  · rw [e, e1]
theorem v_le {v : Int32} (n : Int32) (hn : 0 ≤ n.toInt ∧ n.toInt ≤ 9) : (n ≤ v) = (n ≤ vrN v) := by
  apply propext
  rcases vr_or v with ⟨q, e⟩ | ⟨q, -, e⟩ | ⟨k, -, e1, e⟩
  · rw [e, Int32.le_iff_toInt_le, Int32.le_iff_toInt_le]
    have h1 := Int32.lt_iff_toInt_lt.mp q
    have h2 : (-1 : Int32).toInt = -1 := by decide
    rw [ti0] at h1
    omega
  · rw [e, Int32.le_iff_toInt_le, Int32.le_iff_toInt_le]
    have h1 := Int32.le_iff_toInt_le.mp q
    have h2 : (nI 9).toInt = 9 := by decide
    have h3 : (9 : Int32).toInt = 9 := by decide
    omega
  · rw [e, e1]
theorem v_gt {v : Int32} (n : Int32) (hn : 0 ≤ n.toInt ∧ n.toInt ≤ 8) : (n < v) = (n < vrN v) := by
  apply propext
  rcases vr_or v with ⟨q, e⟩ | ⟨q, -, e⟩ | ⟨k, -, e1, e⟩
  · rw [e, Int32.lt_iff_toInt_lt, Int32.lt_iff_toInt_lt]
    have h1 := Int32.lt_iff_toInt_lt.mp q
    have h2 : (-1 : Int32).toInt = -1 := by decide
    rw [ti0] at h1
    omega
  · rw [e, Int32.lt_iff_toInt_lt, Int32.lt_iff_toInt_lt]
    have h1 := Int32.le_iff_toInt_le.mp q
    have h2 : (nI 9).toInt = 9 := by decide
    have h3 : (9 : Int32).toInt = 9 := by decide
    omega
  · rw [e, e1]
theorem v_eq {v : Int32} (n : Int32) (hn : 0 ≤ n.toInt ∧ n.toInt ≤ 8) : (v = n) = (vrN v = n) := by
  apply propext
  rw [← Int32.toInt_inj, ← Int32.toInt_inj]
  rcases vr_or v with ⟨q, e⟩ | ⟨q, -, e⟩ | ⟨k, -, e1, e⟩
  · rw [e]
    have h1 := Int32.lt_iff_toInt_lt.mp q
    have h2 : (-1 : Int32).toInt = -1 := by decide
    rw [ti0] at h1
    omega
  · rw [e]
    have h1 := Int32.le_iff_toInt_le.mp q
    have h2 : (nI 9).toInt = 9 := by decide
    have h3 : (9 : Int32).toInt = 9 := by decide
    omega
  · rw [e, e1]
theorem st_v (h : AH) (o c v : Int32) : f_X0_isStep h o c v = f_X0_isStep h o c (vrN v) := by
  unfold f_X0_isStep f_X8_isThingKind f_X8_isListKind
  by_cases q : o = 0
  · simp only [if_pos q, bs, v_lt (v := v) 0 (by decide), v_le (v := v) 2 (by decide), v_le (v := v) 6 (by decide), v_le (v := v) 9 (by decide), v_lt (v := v) 6 (by decide), v_eq (v := v) 0 (by decide), v_eq (v := v) 1 (by decide)]
  · simp only [if_neg q, bs, v_lt (v := v) 0 (by decide), v_le (v := v) 2 (by decide), v_le (v := v) 4 (by decide), v_le (v := v) 6 (by decide), v_le (v := v) 9 (by decide), v_lt (v := v) 6 (by decide), v_eq (v := v) 0 (by decide), v_eq (v := v) 1 (by decide)]
theorem sr_v (h : AH) (o c v : Int32) : f_X9_isStep h c v o = f_X9_isStep h c (vrN v) o := by
  unfold f_X9_isStep
  by_cases q : o = 0
  · simp only [if_pos q, bs, v_lt (v := v) 0 (by decide), v_gt (v := v) 1 (by decide), v_gt (v := v) 5 (by decide), v_gt (v := v) 8 (by decide), v_lt (v := v) 6 (by decide), v_eq (v := v) 0 (by decide), v_eq (v := v) 1 (by decide)]
  · simp only [if_neg q, bs, v_lt (v := v) 0 (by decide), v_gt (v := v) 3 (by decide), v_gt (v := v) 5 (by decide), v_gt (v := v) 8 (by decide), v_lt (v := v) 6 (by decide), v_eq (v := v) 0 (by decide), v_eq (v := v) 1 (by decide)]
/-- codes -/
theorem cd_or (c : Int32) : (∃ k, k < 25 ∧ c = nI k) ∨ ((∀ k, k < 25 → ¬ c = nI k) ∧ (c < 14 ∨ 24 < c)) := by
  by_cases q : c < 0
  · refine Or.inr ⟨fun k hk e => ?_, Or.inl ?_⟩
    · rw [e] at q; exact nI_nn (by omega) q
    · have h1 := Int32.lt_iff_toInt_lt.mp q
      refine Int32.lt_iff_toInt_lt.mpr ?_
      have h3 : (14 : Int32).toInt = 14 := by decide
      rw [ti0] at h1
      omega
  · obtain ⟨j, hj, e⟩ := nI_of q
    by_cases q2 : j < 25
    · exact Or.inl ⟨j, q2, e⟩
    · refine Or.inr ⟨fun k hk e2 => ?_, Or.inr ?_⟩
      · rw [e] at e2
        have := (nI_eq hj (by omega)).mp e2
        omega
      · rw [e]; exact nI_lt (a := 24) (by omega) hj
theorem st_far (h : AH) (o c v : Int32) (n : ∀ k, k < 25 → ¬ c = nI k) (hc : c < 14 ∨ 24 < c) : f_X0_isStep h o c v = some 0 := by
  have e : ∀ k : Int32, (∃ j, j < 25 ∧ k = nI j) → (c = k) = False := fun k ⟨j, hj, ej⟩ => by rw [ej]; exact eq_false (n j hj)
  unfold f_X0_isStep
  simp only [e 0 ⟨0, by decide, rfl⟩, e 1 ⟨1, by decide, rfl⟩, e 2 ⟨2, by decide, rfl⟩, e 3 ⟨3, by decide, rfl⟩, e 4 ⟨4, by decide, rfl⟩, e 5 ⟨5, by decide, rfl⟩, e 6 ⟨6, by decide, rfl⟩, e 7 ⟨7, by decide, rfl⟩, e 8 ⟨8, by decide, rfl⟩, e 9 ⟨9, by decide, rfl⟩, e 10 ⟨10, by decide, rfl⟩, e 11 ⟨11, by decide, rfl⟩, e 12 ⟨12, by decide, rfl⟩, e 13 ⟨13, by decide, rfl⟩, if_false, or_false]
  by_cases q : c < 14
  · rw [if_pos q]; rfl
  · rw [if_neg q, if_pos (hc.resolve_left q)]; rfl
theorem sr_far (h : AH) (o c v : Int32) (n : ∀ k, k < 25 → ¬ c = nI k) (hc : c < 14 ∨ 24 < c) : f_X9_isStep h c v o = some 0 := by
  have e : ∀ k : Int32, (∃ j, j < 25 ∧ k = nI j) → (c = k) = False := fun k ⟨j, hj, ej⟩ => by rw [ej]; exact eq_false (n j hj)
  have b : ∀ (p q : Prop) [Decidable p] [Decidable q] (f : Int32 → Option Int32) (r : Option Int32), (∀ x, f x = r) → Option.bind (if p then some 0 else if q then some 0 else some 1) f = r := fun p q _ _ f r hf => by
    by_cases hp : p
    · rw [if_pos hp]; exact hf 0
    · rw [if_neg hp]
      by_cases hq : q
      · rw [if_pos hq]; exact hf 0
      · rw [if_neg hq]; exact hf 1
  unfold f_X9_isStep
  refine b _ _ _ _ (fun x1 => b _ _ _ _ (fun x2 => ?_))
  simp only [e 0 ⟨0, by decide, rfl⟩, e 1 ⟨1, by decide, rfl⟩, e 2 ⟨2, by decide, rfl⟩, e 3 ⟨3, by decide, rfl⟩, e 4 ⟨4, by decide, rfl⟩, e 5 ⟨5, by decide, rfl⟩, e 6 ⟨6, by decide, rfl⟩, e 7 ⟨7, by decide, rfl⟩, e 8 ⟨8, by decide, rfl⟩, e 9 ⟨9, by decide, rfl⟩, e 10 ⟨10, by decide, rfl⟩, e 11 ⟨11, by decide, rfl⟩, e 12 ⟨12, by decide, rfl⟩, e 13 ⟨13, by decide, rfl⟩, if_false, or_false]
  by_cases q : c < 14
  · rw [if_pos q]; rfl
  · rw [if_neg q, if_pos (hc.resolve_left q)]; rfl
def vR (j : Nat) : Int32 := if j = 9 then -1 else if j = 10 then 9 else nI j
theorem vr_j (v : Int32) : ∃ j, j < 11 ∧ vrN v = vR j := by
  rcases vr_or v with ⟨-, e⟩ | ⟨-, -, e⟩ | ⟨k, hk, -, e⟩
  · exact ⟨9, by decide, e⟩
  · exact ⟨10, by decide, e⟩
  · refine ⟨k, by omega, ?_⟩
    unfold vR
    rw [if_neg (by omega), if_neg (by omega), e]
theorem st_all : ∀ k, k < 25 → ∀ j, j < 11 → ∀ o : Bool, f_X0_isStep h00 (bI o) (nI k) (vR j) = some (bI (decide (f_X0_isStep h00 (bI o) (nI k) (vR j) = some 1))) ∧ f_X9_isStep h00 (nI k) (vR j) (bI o) = f_X0_isStep h00 (bI o) (nI k) (vR j) := by decide +kernel
theorem q_isStep (h : AH) (o : Bool) (c v : Int32) : f_X0_isStep h (bI o) c v = some (bI (isB o c v)) := by
  have e0 : f_X0_isStep h (bI o) c v = f_X0_isStep h00 (bI o) c v := rfl
  rw [e0]
  unfold isB
  rcases cd_or c with ⟨k, hk, e⟩ | ⟨n, hc⟩
  · subst e
    obtain ⟨j, hj, ej⟩ := vr_j v
    rw [st_v, ej]
    exact (st_all k hk j hj o).1
  · rw [st_far h00 _ _ _ n hc]
    rfl
theorem qr_isStep (h : AH) (o : Bool) (c v : Int32) : f_X9_isStep h c v (bI o) = some (bI (isB o c v)) := by
  have e0 : f_X9_isStep h c v (bI o) = f_X9_isStep h00 c v (bI o) := rfl
  rw [e0, ← q_isStep h00]
  rcases cd_or c with ⟨k, hk, e⟩ | ⟨n, hc⟩
  · subst e
    obtain ⟨j, hj, ej⟩ := vr_j v
    rw [st_v, sr_v, ej]
    exact (st_all k hk j hj o).2
  · rw [st_far h00 _ _ _ n hc, sr_far h00 _ _ _ n hc]
def okQ (o : Bool) (k j : Nat) : Bool := decide (k = 0) || (decide (14 ≤ k) && decide (k ≤ 24)) || (decide (1 ≤ k) && decide (k ≤ 13) && decide (j < 9) && ((decide (k = 1) && decide (j < (if o = true then 4 else 2))) || (decide (k = 2) && o && decide (j < 2)) || (decide (k = 3) && (decide (j = 1) || (o && decide (j = 0)))) || (decide (k = 4) && ((o && decide (j < 6)) || (!o && decide (6 ≤ j) && decide (j < 9)))) || (decide (5 ≤ k) && decide (k ≤ 7) && o && decide (j < 6)) || (decide (k = 8) && o && decide (6 ≤ j) && decide (j < 9)) || (decide (9 ≤ k) && !o && decide (j < 6))))
theorem st_ok1 : ∀ k, k < 25 → ∀ j, j < 11 → ∀ o : Bool, f_X0_isStep h00 (bI o) (nI k) (vR j) = some 1 → okQ o k j = true := by decide +kernel
theorem okQ_p {o : Bool} {k j : Nat} (h : okQ o k j = true) : k = 0 ∨ (14 ≤ k ∧ k ≤ 24) ∨ (1 ≤ k ∧ k ≤ 13 ∧ j < 9 ∧ ((k = 1 ∧ j < (if o = true then 4 else 2)) ∨ (k = 2 ∧ o = true ∧ j < 2) ∨ (k = 3 ∧ (j = 1 ∨ (o = true ∧ j = 0))) ∨ (k = 4 ∧ (o = true ∧ j < 6 ∨ o = false ∧ 6 ≤ j ∧ j < 9)) ∨ (5 ≤ k ∧ k ≤ 7 ∧ o = true ∧ j < 6) ∨ (k = 8 ∧ o = true ∧ 6 ≤ j ∧ j < 9) ∨ (9 ≤ k ∧ o = false ∧ j < 6))) := by
  unfold okQ at h
  cases o
  · simp at h ⊢; omega
  · simp at h ⊢; omega
/-- what is a step is one -/
theorem is_ok {o : Bool} {c v : Int32} (h : isB o c v = true) : c = nI c.toNatClampNeg ∧ okS o c.toNatClampNeg v := by
  have h1 : f_X0_isStep h00 (bI o) c v = some 1 := of_decide_eq_true h
  rcases cd_or c with ⟨k, hk, e⟩ | ⟨n, hc⟩
  · have ek : c.toNatClampNeg = k := by rw [e, nI_clamp (by omega)]
    rw [ek]
    refine ⟨e, ?_⟩
    subst e
    obtain ⟨j, hj, ej⟩ := vr_j v
    rw [st_v, ej] at h1
    unfold okS
    rcases okQ_p (st_ok1 k hk j hj o h1) with q | q | ⟨q1, q2, q3, q4⟩
    · exact Or.inl q
    · exact Or.inr (Or.inl q)
    · have ev : v = nI j := by
        rcases vr_or v with ⟨-, e⟩ | ⟨-, -, e⟩ | ⟨m, hm, e, e2⟩
        · rw [ej] at e
          unfold vR at e
          rw [if_neg (by omega), if_neg (by omega)] at e
          exact absurd e (nI_nm (by omega))
        · rw [ej] at e
          unfold vR at e
          rw [if_neg (by omega), if_neg (by omega)] at e
          have := (nI_eq (a := j) (b := 9) (by omega) (by decide)).mp e
          omega
        · rw [ej] at e2
          unfold vR at e2
          rw [if_neg (by omega), if_neg (by omega)] at e2
          rw [e, e2]
      have ev2 : v.toNatClampNeg = j := by rw [ev, nI_clamp (by omega)]
      rw [ev2]
      refine Or.inr (Or.inr ⟨q1, q2, ev, ?_⟩)
      cases o
      · simp at q4 ⊢; omega
      · simp at q4 ⊢; omega
  · rw [st_far h00 _ _ _ n hc] at h1
    cases h1
