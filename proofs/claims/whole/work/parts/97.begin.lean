/-! THE BEGINNING: both stand as the empty state says -/
def rA (h : AH) (a n : Nat) (v : Int32) : Bool := (List.range n).all (fun i => aI h a i == v)
def chB1 (h : AH) : Bool := aN h == 77 && (List.range 77).all (fun a => aK h a == kS a && aE h a == eS a) && pS.all (fun x => aP h x.1 x.2.1 == some x.2.2)
def chB2 (h : AH) : Bool := aI h 1 6 == 0 && aI h 1 7 == 0 && rA h 4 9 0 && aI h 1 5 == 0 && rA h 8 160 0 && rA h 9 12 0 && rA h 10 40 (-1) && rA h 11 40 (-1) && rA h 12 40 (-1) && rA h 14 6 0 && rA h 15 6 0 && rA h 17 160 0 && rA h 18 12 0 && rA h 19 40 (-1) && rA h 20 40 (-1) && rA h 21 40 (-1) && rA h 23 6 0 && rA h 24 6 0
def chB3 (h : AH) : Bool := (List.range 258).all (fun i => aJ h 25 i == 0) && aI h 26 1 == 0 && aI h 28 1 == 0 && aI h 45 1 == 0 && aI h 30 5 == 0 && aI h 30 6 == (-1) && aI h 30 7 == (-1) && aI h 30 8 == (-1) && aI h 0 8 == 0 && aI h 0 9 == 0 && aI h 0 10 == 0 && aI h 0 11 == 0 && aI h 0 12 == 0 && aI h 51 1 == 0 && aI h 51 2 == 0 && (List.range 60).all (fun i => aP h 52 i == none)
def rB (h : AH) (b o n : Nat) (v : Int32) : Bool := (List.range n).all (fun i => aI h b (o + i) == v)
def chB4 (h : AH) : Bool := aI h 53 2 == 0 && aI h 53 3 == 0 && rA h 56 9 0 && aI h 53 4 == 0 && rB h 59 0 172 0 && rB h 59 172 80 (-1) && rB h 59 492 12 0 && rB h 60 0 172 0 && rB h 60 172 80 (-1) && rB h 60 492 12 0
def chB5 (h : AH) : Bool := (List.range 258).all (fun i => aJ h 62 i == 0) && aI h 53 20 == 0 && aI h 53 24 == 0 && aI h 53 26 == 0 && aI h 53 27 == (-1) && aI h 53 28 == (-1) && aI h 53 29 == (-1) && aI h 53 1 == 1 && aI h 53 15 == 0 && aI h 53 30 == 0 && aI h 53 31 == 0 && aI h 53 17 == 0
theorem b_1 : hiO.map chB1 = some true := by decide +kernel
theorem b_2 : hiO.map chB2 = some true := by decide +kernel
theorem b_3 : hiO.map chB3 = some true := by decide +kernel
theorem b_4 : hiO.map chB4 = some true := by decide +kernel
theorem b_5 : hiO.map chB5 = some true := by decide +kernel
theorem b_53 : (f_X8_init (nw h00 8 0) 0).map aN = some 53 := by decide +kernel
def B00 : BK := (0, 0, fun _ => 0, fun _ _ => 0, fun _ _ => 0)
def A00 : AP := (fun _ => 0, fun _ => 0, fun _ => -1, fun _ _ => 0, fun _ => 0, fun _ => 0)
def S00 : SX := (B00, [], A00, A00, fun _ => 0, [], [], (0, -1, -1, -1), false, false, 0, 0, 0, [])
theorem hm00 (t : Nat) : hmA A00 t = none ∧ spA A00 t = none := hm_off (fun l k _ hk => absurd hk (Nat.not_lt_zero _))
theorem wf00 : WfS S00 := by
  have fA : WfA A00 (bT B00) (bL B00) := ⟨by decide, by decide, fun l k hk => absurd hk (Nat.not_lt_zero _), fun l k l' k' hk => absurd hk (Nat.not_lt_zero _), fun l _ => rfl, fun l => Nat.zero_le _, fun t _ => Or.inl rfl⟩
  have zA : zfA A00 := fun l => Nat.le_refl _
  refine ⟨⟨by decide, by decide, fun k hk => ⟨Nat.zero_le _, fun s hs => absurd hs (Nat.not_lt_zero _), Or.inl rfl⟩⟩, by decide, fA, zA, fA, zA, fun q => absurd q (by decide), fun _ => ⟨rfl, fun d => rfl, rfl, rfl⟩, fun _ => rfl, by decide⟩
theorem rA_at {h : AH} {a n : Nat} {v : Int32} (e : rA h a n v = true) : ∀ i, i < n → aI h a i = v := fun i hi => by
  unfold rA at e
  rw [List.all_eq_true] at e
  have := e i (List.mem_range.mpr hi)
  exact eq_of_beq this
theorem rB_at {h : AH} {b o n : Nat} {v : Int32} (e : rB h b o n v = true) : ∀ i, i < n → aI h b (o + i) = v := fun i hi => by
  unfold rB at e
  rw [List.all_eq_true] at e
  have := e i (List.mem_range.mpr hi)
  exact eq_of_beq this
theorem all_at {p : Nat → Bool} {n : Nat} (e : (List.range n).all p = true) : ∀ i, i < n → p i = true := fun i hi => by
  rw [List.all_eq_true] at e
  exact e i (List.mem_range.mpr hi)
theorem rp00 {h : AH} {b : Nat} (e1 : rB h b 0 172 0 = true) (e2 : rB h b 172 80 (-1) = true) (e3 : rB h b 492 12 0 = true) : RpR h b 0 A00 := by
  refine ⟨fun i hi => ?_, fun i hi => ?_, fun i hi => ?_, fun t ht => ?_, fun l k hl hk => absurd hk (Nat.not_lt_zero _), fun l hl => ?_, fun l hl => ?_⟩
  · exact rB_at e1 i (by omega)
  · exact rB_at e1 (160 + i) (by omega)
  · rw [Nat.zero_add]; exact rB_at e2 i (by omega)
  · rw [(hm00 t).1, Nat.zero_add, show 212 + t = 172 + (40 + t) by omega]; exact rB_at e2 (40 + t) (by omega)
  · rw [Nat.zero_add]; exact rB_at e3 l (by omega)
  · rw [Nat.zero_add, show 498 + l = 492 + (6 + l) by omega]; exact rB_at e3 (6 + l) (by omega)
theorem b_all : ∃ h3 h6, f_X8_init (nw h00 8 0) 0 = some h3 ∧ aN h3 = 53 ∧ f_X9_init (nw h3 9 0) 53 = some h6 ∧ aN h6 = 76 ∧ JJ (nw h6 11 1) S00 := by
  have e0 := b_53
  cases e3 : f_X8_init (nw h00 8 0) 0 with
  | none => rw [e3] at e0; cases e0
  | some h3 =>
    rw [e3] at e0
    have n3 : aN h3 = 53 := Option.some.inj e0
    cases e6 : f_X9_init (nw h3 9 0) 53 with
    | none =>
      have e1 := b_1
      unfold hiO at e1
      rw [e3] at e1
      simp only [Option.bind] at e1
      rw [e6] at e1
      cases e1
    | some h6 =>
      have hh : hiO = some (nw h6 11 1) := by
        unfold hiO
        rw [e3]
        simp only [Option.bind]
        rw [e6]
      obtain ⟨h7, e7⟩ : ∃ z, z = nw h6 11 1 := ⟨_, rfl⟩
      have c1 := b_1
      have c2 := b_2
      have c3 := b_3
      have c4 := b_4
      have c5 := b_5
      rw [hh, ← e7] at c1 c2 c3 c4 c5
      have c1 : chB1 h7 = true := Option.some.inj c1
      have c2 : chB2 h7 = true := Option.some.inj c2
      have c3 : chB3 h7 = true := Option.some.inj c3
      have c4 : chB4 h7 = true := Option.some.inj c4
      have c5 : chB5 h7 = true := Option.some.inj c5
      unfold chB1 at c1
      unfold chB2 at c2
      unfold chB3 at c3
      unfold chB4 at c4
      unfold chB5 at c5
      simp only [Bool.and_eq_true, beq_iff_eq] at c1 c2 c3 c4 c5
      obtain ⟨⟨n7, k7⟩, p7⟩ := c1
      have n6 : aN h6 = 76 := by
        rw [e7] at n7
        have : aN (nw h6 11 1) = aN h6 + 1 := rfl
        omega
      have Sx : Sh h7 := by
        refine ⟨by omega, fun a ha => ?_, fun x hx => ?_⟩
        · have := all_at k7 a ha
          simp only [Bool.and_eq_true, beq_iff_eq] at this
          exact this
        · rw [List.all_eq_true] at p7
          exact eq_of_beq (p7 x hx)
      obtain ⟨⟨⟨⟨⟨⟨⟨⟨⟨⟨⟨⟨⟨⟨⟨⟨⟨x1, x2⟩, x3⟩, x4⟩, x5⟩, x6⟩, x7⟩, x8⟩, x9⟩, x10⟩, x11⟩, x12⟩, x13⟩, x14⟩, x15⟩, x16⟩, x17⟩, x18⟩ := c2
      obtain ⟨⟨⟨⟨⟨⟨⟨⟨⟨⟨⟨⟨⟨⟨⟨y1, y2⟩, y3⟩, y4⟩, y5⟩, y6⟩, y7⟩, y8⟩, y9⟩, y10⟩, y11⟩, y12⟩, y13⟩, y14⟩, y15⟩, y16⟩ := c3
      obtain ⟨⟨⟨⟨⟨⟨⟨⟨⟨z1, z2⟩, z3⟩, z4⟩, z5⟩, z6⟩, z7⟩, z8⟩, z9⟩, z10⟩ := c4
      obtain ⟨⟨⟨⟨⟨⟨⟨⟨⟨⟨⟨w1, w2⟩, w3⟩, w4⟩, w5⟩, w6⟩, w7⟩, w8⟩, w9⟩, w10⟩, w11⟩, w12⟩ := c5
      have nR : ∀ r, aI h7 r 1 = 0 → Rw h7 r [] := fun r e => ⟨e, by decide, fun c hc => absurd hc (by simp), fun i hi => absurd hi (by simp)⟩
      have rC : ∀ p, rA h7 (p + 1) 160 0 = true → rA h7 (p + 2) 12 0 = true → rA h7 (p + 3) 40 (-1) = true → rA h7 (p + 4) 40 (-1) = true → rA h7 (p + 5) 40 (-1) = true → rA h7 (p + 7) 6 0 = true → rA h7 (p + 8) 6 0 = true → RepC h7 p A00 := fun p q1 q2 q3 q4 q5 q6 q7 => by
        refine ⟨fun i hi => rA_at q1 i hi, fun i hi => rA_at q2 i hi, fun i hi => rA_at q3 i hi, fun t ht => ?_, fun t ht => ?_, fun l k hl hk => absurd hk (Nat.not_lt_zero _), fun l hl => rA_at q6 l hl, fun l hl => rA_at q7 l hl⟩
        · rw [(hm00 t).1]; exact rA_at q4 t ht
        · rw [(hm00 t).2]; exact rA_at q5 t ht
      refine ⟨h3, h6, rfl, n3, e6, n6, ?_⟩
      rw [← e7]
      refine ⟨⟨Sx, ⟨x1, x2, fun k hk => rA_at x3 k hk, fun k s _ hs => absurd hs (Nat.not_lt_zero _)⟩, ⟨x4, fun i hi => absurd hi (by simp [tC, S00])⟩, rC 7 x5 x6 x7 x8 x9 x10 x11, rC 16 x12 x13 x14 x15 x16 x17 x18, fun d hd => eq_of_beq (all_at y1 d hd), nR 26 y2, nR 28 y3, nR 45 y4, ⟨y5, y6, y7, y8⟩, ⟨y9, y10, y11, y12, y13⟩, ⟨0, by decide, y14, y15, by decide, fun i m hi e => ?_, fun i j m m' hi hj hne e => ?_, fun i hi => absurd hi (by simp [tH, S00])⟩⟩, ⟨Sx, ⟨z1, z2, fun k hk => rA_at z3 k hk, fun k s _ hs => absurd hs (Nat.not_lt_zero _)⟩, ⟨z4, by decide, fun i hi => absurd hi (by simp [tC, S00])⟩, rp00 z5 z6 z7, rp00 z8 z9 z10, fun d hd => eq_of_beq (all_at w1 d hd), ⟨w2, by decide, fun i hi => absurd hi (by simp [tW, S00])⟩, ⟨w3, by decide, fun i hi => absurd hi (by simp [tR, S00])⟩, ⟨w4, w5, w6, w7⟩, ⟨w8, w9, fun q => absurd q (by decide), w10, w11⟩, ⟨w12, by decide, fun i hi => absurd hi (by simp [tH, S00])⟩⟩, wf00⟩
      · have := eq_of_beq (all_at y16 i hi)
        rw [this] at e; cases e
      · have := eq_of_beq (all_at y16 i hi)
        rw [this] at e; cases e
theorem pure_law (L : Nat) (xs : Nat → Int32) (hL : L ≤ 2560) : ∃ wh, f_L_law L xs h00 = some wh := by
  obtain ⟨h3, h6, e3, n3, e6, n6, J⟩ := b_all
  obtain ⟨wh, hw⟩ := law_go hL (xs := xs) 512 0 (nw h6 11 1) S00 (by omega) (by omega) J
  refine ⟨wh, ?_⟩
  unfold f_L_law
  have n0 : aN h00 = 0 := rfl
  have hw' : f_L_law_23 L xs 0 53 76 513 (nw h6 11 1) 0 = some wh := hw
  rw [bs, n0, e3, bs, bs, n3, e6, bs, bs, n6]
  exact hw'
