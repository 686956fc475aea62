/-! THE OTHER ONE: what it keeps -/
def ScR (h : AH) (C : List (Int32 × Int32)) : Prop := aI h 53 4 = nI C.length ∧ C.length ≤ 24 ∧ ∀ i (hi : i < C.length), aI h 54 i = C[i].1 ∧ aI h 55 i = C[i].2
def FlR (h : AH) (S : SX) : Prop := aI h 53 1 = bI (!tO S) ∧ aI h 53 15 = bI (tG S) ∧ (tG S = true → aI h 53 16 = nI (tM S)) ∧ aI h 53 30 = nI (tU S) ∧ aI h 53 31 = nI (tF S)
def InvR (h : AH) (S : SX) : Prop := Sh h ∧ RbR h (tB S) ∧ ScR h (tC S) ∧ RpR h 59 0 (tA S) ∧ RpR h 60 0 (tP S) ∧ (∀ d, d < 258 → aJ h 62 d = tN S d) ∧ WdR h (tW S) ∧ RgR h (tR S) ∧ CqR h (tQ S) ∧ FlR h S ∧ PaR h (tH S)
/-- places that hold nothing between calls -/
def QO (a i : Nat) : Prop := a = 61 ∨ a = 63 ∨ a = 67 ∨ (69 ≤ a ∧ a ≤ 76) ∨ (a = 53 ∧ (i = 0 ∨ i = 22 ∨ i = 32 ∨ i = 34 ∨ i = 36))
def QY (a _i : Nat) : Prop := 53 ≤ a ∧ a ≤ 75
section RInv
variable {h h' : AH} {S : SX}
theorem ScR.fg {Q : Nat → Nat → Prop} {C : List (Int32 × Int32)} (x : ScR h C) (f : Fg h h' Q) (h1 : ¬ Q 53 4) (h2 : ∀ i, ¬ Q 54 i) (h3 : ∀ i, ¬ Q 55 i) : ScR h' C :=
  ⟨by rw [f.i h1]; exact x.1, x.2.1, fun i hi => by rw [f.i (h2 i), f.i (h3 i)]; exact x.2.2 i hi⟩
theorem FlR.fg {Q : Nat → Nat → Prop} (x : FlR h S) (f : Fg h h' Q) (h1 : ¬ Q 53 1) (h2 : ¬ Q 53 15) (h3 : ¬ Q 53 16) (h4 : ¬ Q 53 30) (h5 : ¬ Q 53 31) : FlR h' S := by
  unfold FlR
  rw [f.i h1, f.i h2, f.i h3, f.i h4, f.i h5]
  exact x
theorem InvR.fg {Q : Nat → Nat → Prop} (x : InvR h S) (f : Fg h h' Q) (hq : ∀ a i, Q a i → QO a i) : InvR h' S := by
  have n : ∀ a i, ¬ QO a i → ¬ Q a i := fun a i q y => q (hq a i y)
  obtain ⟨a1, a2, a3, a4, a5, a6, a7, a8, a9, a10, a11⟩ := x
  refine ⟨f.S a1, f.B a2 (n _ _ (by unfold QO; omega)) (n _ _ (by unfold QO; omega)) (fun i => n _ _ (by unfold QO; omega)) (fun i => n _ _ (by unfold QO; omega)) (fun i => n _ _ (by unfold QO; omega)), a3.fg f (n _ _ (by unfold QO; omega)) (fun i => n _ _ (by unfold QO; omega)) (fun i => n _ _ (by unfold QO; omega)), f.R a4 (fun i => n _ _ (by unfold QO; omega)), f.R a5 (fun i => n _ _ (by unfold QO; omega)), fun d hd => by rw [f.j (n _ _ (by unfold QO; omega))]; exact a6 d hd, a7.fg f (n _ _ (by unfold QO; omega)) (fun i => n _ _ (by unfold QO; omega)), a8.fg f (n _ _ (by unfold QO; omega)) (fun i => n _ _ (by unfold QO; omega)), a9.fg f (n _ _ (by unfold QO; omega)) (n _ _ (by unfold QO; omega)) (n _ _ (by unfold QO; omega)) (n _ _ (by unfold QO; omega)), a10.fg f (n _ _ (by unfold QO; omega)) (n _ _ (by unfold QO; omega)) (n _ _ (by unfold QO; omega)) (n _ _ (by unfold QO; omega)) (n _ _ (by unfold QO; omega)), a11.fg f (n _ _ (by unfold QO; omega)) (fun i => n _ _ (by unfold QO; omega)) (fun i => n _ _ (by unfold QO; omega))⟩
/-- nothing but cells of the class and new ones changed -/
theorem InvR.fk (x : InvR h S) (f : Fk h h' (fun a => a < 53)) : InvR h' S := by
  have i : ∀ a, 53 ≤ a → a < 77 → aI h' a = aI h a := fun a h1 h2 => f.i h2 (by omega)
  have j : ∀ a, 53 ≤ a → a < 77 → aJ h' a = aJ h a := fun a h1 h2 => f.j h2 (by omega)
  obtain ⟨a1, a2, a3, a4, a5, a6, a7, a8, a9, a10, a11⟩ := x
  unfold InvR RbR ScR RpR WdR RgR CqR FlR PaR RpR
  rw [i 53 (by decide) (by decide), i 54 (by decide) (by decide), i 55 (by decide) (by decide), i 56 (by decide) (by decide), i 57 (by decide) (by decide), i 58 (by decide) (by decide), i 59 (by decide) (by decide), i 60 (by decide) (by decide), j 62 (by decide) (by decide), i 64 (by decide) (by decide), j 65 (by decide) (by decide), i 66 (by decide) (by decide), i 68 (by decide) (by decide)]
  exact ⟨f.S a1, a2, a3, a4, a5, a6, a7, a8, a9, a10, a11⟩
/-- a call of the other one: what it answers, its code, what it keeps -/
def anX (m : Nat → Int32) (h' : AH) (o : Except Nat Int32) (v : Int32) : Prop := match o with
  | .ok a => aI h' 53 0 = 0 ∧ v = a
  | .error k => aI h' 53 0 = m k
def RefOk (m : Nat → Int32) (h : AH) (r : Option (Int32 × AH)) (o : Except Nat Int32 × SX) : Prop := ∃ v h', r = some (v, h') ∧ anX m h' o.1 v ∧ InvR h' o.2 ∧ Fg h h' QY
theorem InvR.c0 (x : InvR h S) (v : Int32) : InvR (sI h 53 0 v) S := x.fg (Fg.si (Q := QO) (by unfold QO; omega)) (fun _ _ q => q)
theorem c0_fg (v : Int32) : Fg h (sI h 53 0 v) QY := Fg.si (by unfold QY; omega)
theorem c0_0 (v : Int32) : aI (sI h 53 0 v) 53 0 = v := by rw [sI_I, if_pos ⟨rfl, rfl⟩]
theorem r_fail (S : Sh h) (v : Int32) : f_X9_fail h 53 v = some (0, sI h 53 0 v) := by
  unfold f_X9_fail
  rw [if_pos (k_53 S), pi_53 S, bs]
theorem ref_e {m : Nat → Int32} (x : InvR h S) (k : Nat) (c : Int32) (hc : m k = c) : RefOk m h (Option.bind (f_X9_fail (sI h 53 0 0) 53 c) fun w => match w with
    | (x8, h9) => some (x8, h9)) (.error k, S) := by
  refine ⟨0, sI (sI h 53 0 0) 53 0 c, ?_, ?_, (x.c0 0).c0 c, (c0_fg 0).tr (c0_fg c)⟩
  · rw [r_fail (x.c0 0).1, bs]
  · show aI _ 53 0 = m k
    rw [c0_0, hc]
theorem ref_s {m : Nat → Int32} (x : InvR h S) (v : Int32) : RefOk m h (some (v, sI h 53 0 0)) (.ok v, S) := ⟨v, _, rfl, ⟨c0_0 0, rfl⟩, x.c0 0, c0_fg 0⟩
theorem r_thing (W : WfS S) (x : InvR h S) (a : Int32) : (dcN a (bT (tB S)) = none ∧ f_X9_isThing h 53 a = some 0) ∨ ∃ t, t < bT (tB S) ∧ t < 40 ∧ a = nI t ∧ dcN a (bT (tB S)) = some t ∧ f_X9_isThing h 53 a = some 1 := by
  have Sx := x.1
  have hT := W.1.1
  unfold f_X9_isThing
  rw [if_pos (k_53 Sx)]
  rcases dc_or a (n := bT (tB S)) (by omega) with ⟨e, q | ⟨q1, q3, q2⟩⟩ | ⟨t, ht, e, e2, q1, q2, q3⟩
  · exact Or.inl ⟨e, by simp [q, gi_53 Sx, bs, x.2.1.1, bz0]⟩
  · exact Or.inl ⟨e, by simp [q1, q2, q3, gi_53 Sx, bs, x.2.1.1, bz0, bz1]⟩
  · exact Or.inr ⟨t, ht, by omega, e, e2, by simp [q1, q2, q3, gi_53 Sx, bs, x.2.1.1, bz0, bz1]⟩
theorem r_list (W : WfS S) (x : InvR h S) (a : Int32) : (dcN a (bL (tB S)) = none ∧ f_X9_isList h 53 a = some 0) ∨ ∃ t, t < bL (tB S) ∧ t < 6 ∧ a = nI t ∧ dcN a (bL (tB S)) = some t ∧ f_X9_isList h 53 a = some 1 := by
  have Sx := x.1
  have hT := W.1.2.1
  unfold f_X9_isList
  rw [if_pos (k_53 Sx)]
  rcases dc_or a (n := bL (tB S)) (by omega) with ⟨e, q | ⟨q1, q3, q2⟩⟩ | ⟨t, ht, e, e2, q1, q2, q3⟩
  · exact Or.inl ⟨e, by simp [q, gi_53 Sx, bs, x.2.1.2.1, bz0]⟩
  · exact Or.inl ⟨e, by simp [q1, q2, q3, gi_53 Sx, bs, x.2.1.2.1, bz0, bz1]⟩
  · exact Or.inr ⟨t, ht, by omega, e, e2, by simp [q1, q2, q3, gi_53 Sx, bs, x.2.1.2.1, bz0, bz1]⟩
/-- judged as a move -/
def jdS (S : SX) (A : AP) : Int32 × SX := match jdA (tB S) (tP S) A (tN S) false with
  | .ok (F, w) => (nI w.length, okA S A F w)
  | .error e => (anS (.error e), noA S A (.error e))
theorem st_jd {A : AP} (hG : tG S = false) : stS S A = jdS S A := by unfold stS jdS; rw [if_neg (by rw [hG]; decide)]; rfl
theorem r_settle {A : AP} (W : WfS S) (hO : tO S = true) (x : InvR h (seA S A)) (fA : WfA A (bT (tB S)) (bL (tB S))) : ∃ h', f_X9_judge h 53 0 = some ((jdS S A).1, h') ∧ InvR h' (jdS S A).2 ∧ Fg h h' QG := by
  obtain ⟨a1, a2, a3, a4, a5, a6, a7, a8, a9, a10, a11⟩ := x
  have a2 : RbR h (tB S) := a2
  have a4 : RpR h 59 0 A := a4
  have a5 : RpR h 60 0 (tP S) := a5
  have a6 : ∀ d, d < 258 → aJ h 62 d = tN S d := a6
  have a3 : ScR h (tC S) := a3
  have a7 : WdR h (tW S) := a7
  have a10 : FlR h S := a10
  have a11 : PaR h (tH S) := a11
  obtain ⟨w1, -, -, -, w5, -, w7, -⟩ := W
  obtain ⟨⟨o1, o2, o3, o4, o5⟩, -⟩ := w7 hO
  obtain ⟨h1, e1, f1, c1, r1, k1, k2⟩ := r_judge a1 w1 a2 a4 a5 w5 fA a6 o4 o3 false (fun q => by cases q) a11
  have e1' : f_X9_judge h 53 0 = some (anS (jdA (tB S) (tP S) A (tN S) false), h1) := e1
  have S1 := f1.S a1
  have b2 := f1.B a2 (fun q => by unfold QG at q; omega) (fun q => by unfold QG at q; omega) (fun i q => by unfold QG at q; omega) (fun i q => by unfold QG at q; omega) (fun i q => by unfold QG at q; omega)
  have b3 := a3.fg f1 (fun q => by unfold QG at q; omega) (fun i q => by unfold QG at q; omega) (fun i q => by unfold QG at q; omega)
  obtain ⟨d1, d2, d3, d4, d5⟩ := a10
  have g1 : aI h1 53 1 = aI h 53 1 := f1.i (fun q => by unfold QG at q; omega)
  have g15 : aI h1 53 15 = aI h 53 15 := f1.i (fun q => by unfold QG at q; omega)
  have g16 : aI h1 53 16 = aI h 53 16 := f1.i (fun q => by unfold QG at q; omega)
  cases ej : jdA (tB S) (tP S) A (tN S) false with
  | ok Fw =>
    obtain ⟨F, w⟩ := Fw
    have hst : jdS S A = (nI w.length, okA S A F w) := by unfold jdS; rw [ej]
    obtain ⟨l1, l2, l3, l4, l5, l6, l7⟩ := k1 F w ej
    rw [hst]
    refine ⟨h1, by rw [e1', ej]; rfl, ⟨S1, b2, b3, l1, l2, l3, l4, by rw [ej] at r1; exact r1, by rw [ej] at c1; exact c1, ⟨?_, ?_, ?_, ?_, ?_⟩, l7⟩, f1⟩
    · rw [g1]; exact d1
    · rw [g15]; exact d2
    · rw [g16]; exact d3
    · rw [l5, d4, nI_add]; rfl
    · rw [l6]; exact d5
  | error e =>
    have hst : jdS S A = (anS (.error e), noA S A (.error e)) := by unfold jdS; rw [ej]
    obtain ⟨l1, l2, l3, ⟨l4, l4'⟩, l5, l6, l7⟩ := k2 e ej
    rw [hst]
    refine ⟨h1, by rw [e1', ej], ⟨S1, b2, b3, l1, l2, l3, ⟨by rw [l4]; exact a7.1, a7.2.1, fun i hi => by rw [l4']; exact a7.2.2 i hi⟩, by rw [ej] at r1; exact r1, by rw [ej] at c1; exact c1, ⟨?_, ?_, ?_, ?_, ?_⟩, l7⟩, f1⟩
    · rw [g1]; exact d1
    · rw [g15]; exact d2
    · rw [g16]; exact d3
    · rw [l5]; exact d4
    · rw [l6, d5, nI_1]; rfl
end RInv
