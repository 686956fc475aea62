/-! the class: open, thing, list, step -/
section Open
variable {h : AH} {S : SX}
theorem q_open (W : WfS S) (x : InvC h S) : CallOk h (f_X8_open h 0) (oOpen S) := by
  have Sx := x.1
  unfold f_X8_open
  rw [if_pos (k_0 Sx), n_open x, bs]
  cases eo : tO S with
  | true =>
    have : oOpen S = (.error 0, S) := by unfold oOpen; rw [if_pos eo]
    rw [this, if_pos rfl]
    exact call_e W x 0
  | false =>
    obtain ⟨-, a2, a3, a4, a5, a6, a7, a8, a9, a10, ⟨b1, b2, b3, b4, b5⟩, a12⟩ := x
    obtain ⟨w1, w2, w3, w4, w5, w6, w7, w8, w9, w10⟩ := W
    obtain ⟨z1, z2, z3, z4⟩ := w8 eo
    rw [if_neg (by decide)]
    simp only []
    rw [g_0_6 Sx, bs, g_0_2 Sx, bs, g_0_1 Sx, bs, g_0_3 Sx, bs]
    obtain ⟨h1, e1, f1, c1, r1, k1⟩ := q_weigh Sx w1 a2 a5 a4 w5 w3 a6 true
    have e1' : f_X1_weigh h 30 16 7 25 1 = some (anS (jdA (tB S) (tP S) (tA S) (tN S) true), h1) := e1
    have S1 := f1.S Sx
    have i0 : aI h1 0 = aI h 0 := f1.i (by omega)
    rw [e1', bs]
    cases ej : jdA (tB S) (tP S) (tA S) (tN S) true with
    | ok Fw =>
      obtain ⟨F, w⟩ := Fw
      rw [ej] at r1 c1
      obtain ⟨k2, k3, k4⟩ := k1 F w ej
      have w8' := k3.2.1
      have hst : oOpen S = (.ok (nI w.length), opY S F w) := by unfold oOpen; rw [if_neg (by rw [eo]; decide), ej]
      have han : anS (.ok (F, w)) = nI w.length := rfl
      rw [hst, han]
      simp only []
      rw [if_pos (show (0 : Int32) ≤ nI w.length from nI_le (a := 0) (by omega) (by omega)), pz_0 S1 8 (Or.inr rfl), bs]
      have f2 : Fr h1 (sI h1 0 8 1) (fun a => a = 0) := Fr.si rfl
      have S2 := f2.S S1
      obtain ⟨h4, e4, f4, n4, w26, w28, u4, z4'⟩ := q_accept S2 (F := F) (O := orA (isC (tB S) (tA S)) (rdB (tB S) (tA S))) (w := w) k2 (f2.w k4 (by omega) (by omega)) (f2.w k3 (by omega) (by omega))
      have f4g := f4.g
      rw [e4, bs]
      have F12 : Fr h (sI h1 0 8 1) (fun a => a = 0 ∨ (30 ≤ a ∧ a ≤ 50)) := (f1.mono (fun a q => by omega)).tr (f2.mono (fun a q => by omega))
      have FF : Fr h h4 (fun a => a = 0 ∨ (25 ≤ a ∧ a ≤ 50)) := (F12.mono (fun a q => by omega)).tr (f4g.mono (fun a q => by omega))
      have j0 : ∀ j, j ≠ 11 → j ≠ 8 → aI h4 0 j = aI h 0 j := fun j q1 q2 => by rw [z4' j q1, sI_I, if_neg (fun q => q2 q.2), i0]
      refine ⟨h4, rfl, ⟨FF.S Sx, FF.B a2 (by omega) (by omega) (by omega) (by omega), a3.fr (FF.i (by omega)) (FF.i (by omega)) (FF.i (by omega)), FF.R a4 (fun a q1 q2 => by omega), FF.R a5 (fun a q1 q2 => by omega), n4, ?_, w28, ?_, ?_, ⟨?_, ?_, ?_, ?_, ?_⟩, a12.fr FF (by omega) (by omega) (fun a q1 q2 => by omega)⟩, ?_, FF.k.mono (fun a _ q => by omega)⟩
      · have : orS (opY S F w) = orA (isC (tB S) (tP S)) (rdB (tB S) (tP S)) := if_pos rfl
        rw [this, ← z1]
        exact w26
      · exact f4g.w (f2.w r1 (by omega) (by omega)) (by omega) (by omega)
      · exact CaR.fr (h := sI h1 0 8 1) (CaR.fr (h := h1) c1 (f2.i (by omega))) (f4.i (by decide))
      · rw [z4' 8 (by decide), sI_I, if_pos ⟨rfl, rfl⟩]; rfl
      · rw [j0 9 (by decide) (by decide)]; exact b2
      · rw [j0 10 (by decide) (by decide)]; exact b3
      · rw [u4, sI_I, if_neg (by decide), i0, b4, nI_add]; rfl
      · rw [j0 12 (by decide) (by decide)]; exact b5
      · obtain ⟨q1, q2, q3, -, -⟩ := jdA_ok w1 w3 (fun d => by rw [z2 d]; exact bd_0) ej
        refine ⟨w1, w2, w3, w4, w5, w6, fun _ => ⟨⟨w5, w6, q1, ?_, ?_⟩, fun y hy => ?_⟩, fun q => absurd (show true = false from q) (by decide), w9, w10⟩
        · rw [z1] at q2; exact q2
        · rw [z1] at q3; exact q3
        · have hy' : y ∈ tH S := hy
          rw [z3] at hy'; cases hy'
    | error e =>
      rw [ej] at r1 c1
      have hneg : ¬ (0 : Int32) ≤ anS (.error e) := by
        cases e with
        | none => decide
        | some t => show ¬ (0 : Int32) ≤ -2; decide
      have hst : oOpen S = (.ok (anS (.error e)), opN S (.error e)) := by unfold oOpen; rw [if_neg (by rw [eo]; decide), ej]
      rw [hst]
      simp only []
      rw [if_neg hneg, gi_0 S1, bs, i0, b5, nI_1, pi_0 S1, bs]
      have f2 : Fr h1 (sI h1 0 12 (nI (tF S + 1))) (fun a => a = 0) := Fr.si rfl
      have FF : Fr h (sI h1 0 12 (nI (tF S + 1))) (fun a => a = 0 ∨ (30 ≤ a ∧ a ≤ 50)) := (f1.mono (fun a q => by omega)).tr (f2.mono (fun a q => by omega))
      have j0 : ∀ j, j ≠ 12 → aI (sI h1 0 12 (nI (tF S + 1))) 0 j = aI h 0 j := fun j q1 => by rw [sI_I, if_neg (fun q => q1 q.2), i0]
      refine ⟨_, rfl, ⟨FF.S Sx, FF.B a2 (by omega) (by omega) (by omega) (by omega), a3.fr (FF.i (by omega)) (FF.i (by omega)) (FF.i (by omega)), FF.R a4 (fun a q1 q2 => by omega), FF.R a5 (fun a q1 q2 => by omega), fun d hd => by rw [FF.j (by omega)]; exact a6 d hd, FF.w a7 (by omega) (by omega), FF.w a8 (by omega) (by omega), f2.w r1 (by omega) (by omega), CaR.fr (h := h1) c1 (f2.i (by omega)), ⟨?_, ?_, ?_, ?_, ?_⟩, a12.fr FF (by omega) (by omega) (fun a q1 q2 => by omega)⟩, ⟨w1, w2, w3, w4, w5, w6, w7, w8, w9, w10⟩, FF.k.mono (fun a _ q => by omega)⟩
      · rw [j0 8 (by decide)]; exact b1
      · rw [j0 9 (by decide)]; exact b2
      · rw [j0 10 (by decide)]; exact b3
      · rw [j0 11 (by decide)]; exact b4
      · rw [sI_I, if_pos ⟨rfl, rfl⟩]; rfl
end Open
/-! the book -/
def s4A (A : AP) (t : Nat) (a b c d : Int32) : AP := seF (seF (seF (seF A (4 * t) a) (4 * t + 1) b) (4 * t + 2) c) (4 * t + 3) d
def s2A (A : AP) (l : Nat) (a b : Int32) : AP := seL (seL A (2 * l) a) (2 * l + 1) b
def buT (B : BK) : BK := (B.1 + 1, B.2)
def buL (B : BK) : BK := (B.1, B.2.1 + 1, B.2.2)
def seB (S : SX) (B : BK) (C : List (Int32 × Int32)) (A P : AP) : SX := (B, C, A, P, tN S, tW S, tR S, tQ S, tO S, tG S, tM S, tU S, tF S, tH S)
def oThing (S : SX) (a b c d : Int32) : Except Nat Int32 × SX := if tO S = true ∨ bT (tB S) = 40 then (.error 0, S) else (.ok (nI (bT (tB S))), seB S (buT (tB S)) (tC S) (s4A (tA S) (bT (tB S)) a b c d) (s4A (tP S) (bT (tB S)) a b c d))
def oList (S : SX) (a b : Int32) : Except Nat Int32 × SX := if tO S = true ∨ bL (tB S) = 6 then (.error 0, S) else (.ok (nI (bL (tB S))), seB S (buL (tB S)) (tC S) (s2A (tA S) (bL (tB S)) a b) (s2A (tP S) (bL (tB S)) a b))
def oStep (S : SX) (c v : Int32) : Except Nat Int32 × SX := if tO S = true ∨ (tC S).length = 24 then (.error 0, S) else (.ok (nI ((tC S).length + 1)), seB S (tB S) (tC S ++ [(c, v)]) (tA S) (tP S))
section Book
variable {h : AH} {S : SX}
theorem rep_Fp {p : Nat} {A : AP} (R : RepC h p A) {i : Nat} (v : Int32) : RepC (sI h (p + 1) i v) p (seF A i v) := by
  obtain ⟨a1, a2⟩ := R
  refine ⟨fun j hj => ?_, ?_⟩
  · show aI (sI h (p + 1) i v) (p + 1) j = if j = i then v else A.1 j
    rw [sI_I]
    by_cases q : j = i
    · rw [if_pos ⟨rfl, q⟩, if_pos q]
    · rw [if_neg (fun y => q y.2), if_neg q]; exact a1 j hj
  · have e : ∀ j, 2 ≤ j → j ≤ 8 → aI (sI h (p + 1) i v) (p + j) = aI h (p + j) := fun j _ _ => by funext k; rw [sI_I, if_neg (by omega)]
    rw [e 2 (by decide) (by decide), e 3 (by decide) (by decide), e 4 (by decide) (by decide), e 5 (by decide) (by decide), e 6 (by decide) (by decide), e 7 (by decide) (by decide), e 8 (by decide) (by decide)]
    exact a2
theorem rep_Lp {p : Nat} {A : AP} (R : RepC h p A) {i : Nat} (v : Int32) : RepC (sI h (p + 2) i v) p (seL A i v) := by
  obtain ⟨a1, a2, a3⟩ := R
  have e : ∀ j, j ≠ 2 → j ≤ 8 → aI (sI h (p + 2) i v) (p + j) = aI h (p + j) := fun j _ _ => by funext k; rw [sI_I, if_neg (by omega)]
  refine ⟨by rw [e 1 (by decide) (by decide)]; exact a1, fun j hj => ?_, ?_⟩
  · show aI (sI h (p + 2) i v) (p + 2) j = if j = i then v else A.2.1 j
    rw [sI_I]
    by_cases q : j = i
    · rw [if_pos ⟨rfl, q⟩, if_pos q]
    · rw [if_neg (fun y => q y.2), if_neg q]; exact a2 j hj
  · rw [e 3 (by decide) (by decide), e 4 (by decide) (by decide), e 5 (by decide) (by decide), e 6 (by decide) (by decide), e 7 (by decide) (by decide), e 8 (by decide) (by decide)]
    exact a3
theorem q_setFacts {p t : Nat} {A : AP} (w : WPl h p) (R : RepC h p A) (ht : t < 40) (a b c d : Int32) : ∃ h', f_X4_setFacts h p (nI t) a b c d = some h' ∧ FrI h h' (fun x => x = p + 1) ∧ RepC h' p (s4A A t a b c d) := by
  have m4 : 4 * nI t = nI (4 * t) := by rw [show (4 : Int32) = nI 4 from rfl, pk_mul]
  have st : ∀ (g : AH) (i : Nat) (v : Int32), WPl g p → i < 160 → stI g (p + 1 + 0) (nI i) v = some (sI g (p + 1) i v) := fun g i v wg hi => stI_n (wg.2.2.1 0 (by decide)) (by rw [wg.2.2.2 0 (by decide)]; exact hi) (by rw [wg.2.2.2 0 (by decide)]; decide)
  refine ⟨sI (sI (sI (sI h (p + 1) (4 * t) a) (p + 1) (4 * t + 1) b) (p + 1) (4 * t + 2) c) (p + 1) (4 * t + 3) d, ?_, ?_, rep_Fp (rep_Fp (rep_Fp (rep_Fp R a) b) c) d⟩
  · unfold f_X4_setFacts
    have w1 : WPl (sI h (p + 1) (4 * t) a) p := w
    have w2 : WPl (sI (sI h (p + 1) (4 * t) a) (p + 1) (4 * t + 1) b) p := w
    have w3 : WPl (sI (sI (sI h (p + 1) (4 * t) a) (p + 1) (4 * t + 1) b) (p + 1) (4 * t + 2) c) p := w
    rw [if_pos w.1, w.p 0 (by decide), bs, m4, st h _ _ w (by omega), bs, w1.p 0 (by decide), bs, show nI (4 * t) + 1 = nI (4 * t + 1) from nI_add _ 1, st _ _ _ w1 (by omega), bs, w2.p 0 (by decide), bs, show nI (4 * t) + 2 = nI (4 * t + 2) from nI_add _ 2, st _ _ _ w2 (by omega), bs, w3.p 0 (by decide), bs, show nI (4 * t) + 3 = nI (4 * t + 3) from nI_add _ 3, st _ _ _ w3 (by omega), bs]
  · exact FrI.tr (S := fun x => x = p + 1) (FrI.tr (S := fun x => x = p + 1) (FrI.st rfl) (FrI.st rfl)) (FrI.tr (S := fun x => x = p + 1) (FrI.st rfl) (FrI.st rfl))
theorem q_setListFacts {p l : Nat} {A : AP} (w : WPl h p) (R : RepC h p A) (hl : l < 6) (a b : Int32) : ∃ h', f_X4_setListFacts h p (nI l) a b = some h' ∧ FrI h h' (fun x => x = p + 2) ∧ RepC h' p (s2A A l a b) := by
  have m4 : 2 * nI l = nI (2 * l) := by rw [show (2 : Int32) = nI 2 from rfl, pk_mul]
  have st : ∀ (g : AH) (i : Nat) (v : Int32), WPl g p → i < 12 → stI g (p + 1 + 1) (nI i) v = some (sI g (p + 2) i v) := fun g i v wg hi => stI_n (wg.2.2.1 1 (by decide)) (by rw [wg.2.2.2 1 (by decide)]; exact hi) (by rw [wg.2.2.2 1 (by decide)]; decide)
  refine ⟨sI (sI h (p + 2) (2 * l) a) (p + 2) (2 * l + 1) b, ?_, ?_, rep_Lp (rep_Lp R a) b⟩
  · unfold f_X4_setListFacts
    have w1 : WPl (sI h (p + 2) (2 * l) a) p := w
    rw [if_pos w.1, w.p 1 (by decide), bs, m4, st h _ _ w (by omega), bs, w1.p 1 (by decide), bs, show nI (2 * l) + 1 = nI (2 * l + 1) from nI_add _ 1, st _ _ _ w1 (by omega), bs]
  · exact FrI.tr (S := fun x => x = p + 2) (FrI.st rfl) (FrI.st rfl)
/-- more things, more lists: plans stay what they are -/
theorem wf_T {A : AP} {T Ls : Nat} (f : WfA A T Ls) (hT : T < 40) : WfA A (T + 1) Ls := by
  obtain ⟨b1, b2, b3, b4, b5, b6, b7⟩ := f
  refine ⟨by omega, b2, fun l k hk => Nat.lt_succ_of_lt (b3 l k hk), b4, b5, b6, fun t ht => (b7 t ht).imp id (fun q => ?_)⟩
  obtain ⟨u, hu, e⟩ := q
  exact ⟨u, by omega, e⟩
theorem wf_L {A : AP} {T Ls : Nat} (f : WfA A T Ls) (hL : Ls < 6) : WfA A T (Ls + 1) := by
  obtain ⟨b1, b2, b3, b4, b5, b6, b7⟩ := f
  exact ⟨b1, by omega, b3, b4, fun l hl => b5 l (by omega), b6, b7⟩
/-- book, collected steps and plans change; the book is open -/
theorem InvC.bk {h1 : AH} {B : BK} {C : List (Int32 × Int32)} {A P : AP} (x : InvC h S) (hO : tO S = false) (f : Fr h h1 (fun a => 1 ≤ a ∧ a ≤ 24)) (RB : RepB h1 B) (RC : ClR h1 C) (RA : RepC h1 7 A) (RP : RepC h1 16 P) : InvC h1 (seB S B C A P) := by
  obtain ⟨a1, a2, a3, a4, a5, a6, a7, a8, a9, a10, a11, a12⟩ := x
  refine ⟨f.S a1, RB, RC, RA, RP, fun d hd => by rw [f.j (by omega)]; exact a6 d hd, ?_, f.w a8 (by omega) (by omega), f.w a9 (by omega) (by omega), a10.fr (f.i (by omega)), ?_, a12.fr f (by omega) (by omega) (fun a q1 q2 => by omega)⟩
  · have e1 : orS (seB S B C A P) = [] := if_neg (by show ¬ tO S = true; rw [hO]; decide)
    have e2 : orS S = [] := if_neg (by rw [hO]; decide)
    rw [e1]
    rw [e2] at a7
    exact f.w a7 (by omega) (by omega)
  · rw [f.i (by omega)]; exact a11
theorem wf_bk {B : BK} {C : List (Int32 × Int32)} {A P : AP} (W : WfS S) (hO : tO S = false) (w1 : WfB B) (w2 : C.length ≤ 24) (w3 : WfA A (bT B) (bL B)) (w4 : zfA A) (w5 : WfA P (bT B) (bL B)) (w6 : zfA P) (w7 : A = P) : WfS (seB S B C A P) := by
  obtain ⟨-, -, -, -, -, -, -, v8, v9, v10⟩ := W
  obtain ⟨z1, z2, z3, z4⟩ := v8 hO
  exact ⟨w1, w2, w3, w4, w5, w6, fun q => absurd (show tO S = true from q) (by rw [hO]; decide), fun _ => ⟨w7, z2, z3, z4⟩, v9, v10⟩
theorem q_thing (W : WfS S) (x : InvC h S) (a b c d : Int32) : CallOk h (f_X8_thing h 0 a b c d) (oThing S a b c d) := by
  have Sx := x.1
  have hT := W.1.1
  unfold f_X8_thing
  rw [if_pos (k_0 Sx), n_open x, bs]
  cases eo : tO S with
  | true =>
    have : oThing S a b c d = (.error 0, S) := by unfold oThing; rw [if_pos (Or.inl eo)]
    rw [this, if_pos rfl]
    exact call_e W x 0
  | false =>
    rw [if_neg (by decide)]
    simp only []
    rw [g_0_0 Sx, bs, gi_1 Sx, bs, x.2.1.1]
    by_cases q : bT (tB S) = 40
    · have : oThing S a b c d = (.error 0, S) := by unfold oThing; rw [if_pos (Or.inr q)]
      rw [this, if_neg (show ¬ nI (bT (tB S)) < 40 from nI_nlt (b := 40) (by omega) (by omega))]
      exact call_e W x 0
    have : oThing S a b c d = (.ok (nI (bT (tB S))), seB S (buT (tB S)) (tC S) (s4A (tA S) (bT (tB S)) a b c d) (s4A (tP S) (bT (tB S)) a b c d)) := by unfold oThing; rw [if_neg (fun y => y.elim (by rw [eo]; decide) q)]
    rw [this, if_pos (show nI (bT (tB S)) < 40 from nI_lt (b := 40) (by omega) (by decide)), bs, gi_1 Sx, bs, bs, gi_1 Sx, bs, x.2.1.1, nI_1, pi_1 Sx, bs]
    obtain ⟨h1, eh1⟩ : ∃ z, z = sI h 1 6 (nI (bT (tB S) + 1)) := ⟨_, rfl⟩
    have f1 : Fr h h1 (fun a => a = 1) := by rw [eh1]; exact Fr.si rfl
    have S1 := f1.S Sx
    rw [← eh1, g_0_1 S1, bs]
    obtain ⟨h2, e2, f2, r2⟩ := q_setFacts (S_7 S1) (f1.R x.2.2.2.1 (fun a q1 q2 => by omega)) (show bT (tB S) < 40 by omega) a b c d
    have f2g := f2.g
    have S2 := f2g.S S1
    rw [e2, bs, g_0_2 S2, bs]
    obtain ⟨h3, e3, f3, r3⟩ := q_setFacts (S_16 S2) (f2g.R (f1.R x.2.2.2.2.1 (fun a q1 q2 => by omega)) (fun a q1 q2 => by omega)) (show bT (tB S) < 40 by omega) a b c d
    have f3g := f3.g
    rw [e3, bs]
    have FF : Fr h h3 (fun a => a = 1 ∨ a = 8 ∨ a = 17) := ((f1.mono (fun a q => by omega)).tr (f2g.mono (fun a q => by omega))).tr (f3g.mono (fun a q => by omega))
    have i1 : ∀ j, aI h3 1 j = if j = 6 then nI (bT (tB S) + 1) else aI h 1 j := fun j => by
      rw [f3g.i (by omega), f2g.i (by omega), eh1, sI_I]
      by_cases q : j = 6
      · rw [if_pos ⟨rfl, q⟩, if_pos q]
      · rw [if_neg (fun y => q y.2), if_neg q]
    have i2 : ∀ b, b ≠ 1 → b ≠ 8 → b ≠ 17 → aI h3 b = aI h b := fun b q1 q2 q3 => FF.i (by omega)
    refine ⟨h3, rfl, x.bk eo (FF.mono (fun a q => by omega)) ⟨?_, ?_, ?_, ?_⟩ ⟨?_, ?_⟩ (f3g.R r2 (fun a q1 q2 => by omega)) r3, ?_, FF.k.mono (fun a _ q => by omega)⟩
    · rw [i1, if_pos rfl]; rfl
    · rw [i1, if_neg (by decide)]; exact x.2.1.2.1
    · rw [i2 4 (by decide) (by decide) (by decide)]; exact x.2.1.2.2.1
    · rw [i2 2 (by decide) (by decide) (by decide), i2 3 (by decide) (by decide) (by decide)]; exact x.2.1.2.2.2
    · rw [i1, if_neg (by decide)]; exact x.2.2.1.1
    · rw [i2 5 (by decide) (by decide) (by decide), i2 6 (by decide) (by decide) (by decide)]; exact x.2.2.1.2
    · refine wf_bk W eo ⟨?_, W.1.2⟩ W.2.1 (wf_T W.2.2.1 (show bT (tB S) < 40 by omega)) W.2.2.2.1 (wf_T W.2.2.2.2.1 (show bT (tB S) < 40 by omega)) W.2.2.2.2.2.1 ?_
      · show bT (tB S) + 1 ≤ 40
        omega
      · rw [(W.2.2.2.2.2.2.2.1 eo).1]
theorem q_list (W : WfS S) (x : InvC h S) (a b : Int32) : CallOk h (f_X8_list h 0 a b) (oList S a b) := by
  have Sx := x.1
  have hT := W.1.2.1
  unfold f_X8_list
  rw [if_pos (k_0 Sx), n_open x, bs]
  cases eo : tO S with
  | true =>
    have : oList S a b = (.error 0, S) := by unfold oList; rw [if_pos (Or.inl eo)]
    rw [this, if_pos rfl]
    exact call_e W x 0
  | false =>
    rw [if_neg (by decide)]
    simp only []
    rw [g_0_0 Sx, bs, gi_1 Sx, bs, x.2.1.2.1]
    by_cases q : bL (tB S) = 6
    · have : oList S a b = (.error 0, S) := by unfold oList; rw [if_pos (Or.inr q)]
      rw [this, if_neg (show ¬ nI (bL (tB S)) < 6 from nI_nlt (b := 6) (by omega) (by omega))]
      exact call_e W x 0
    have : oList S a b = (.ok (nI (bL (tB S))), seB S (buL (tB S)) (tC S) (s2A (tA S) (bL (tB S)) a b) (s2A (tP S) (bL (tB S)) a b)) := by unfold oList; rw [if_neg (fun y => y.elim (by rw [eo]; decide) q)]
    rw [this, if_pos (show nI (bL (tB S)) < 6 from nI_lt (b := 6) (by omega) (by decide)), bs, gi_1 Sx, bs, bs, gi_1 Sx, bs, x.2.1.2.1, nI_1, pi_1 Sx, bs]
    obtain ⟨h1, eh1⟩ : ∃ z, z = sI h 1 7 (nI (bL (tB S) + 1)) := ⟨_, rfl⟩
    have f1 : Fr h h1 (fun a => a = 1) := by rw [eh1]; exact Fr.si rfl
    have S1 := f1.S Sx
    rw [← eh1, g_0_1 S1, bs]
    obtain ⟨h2, e2, f2, r2⟩ := q_setListFacts (S_7 S1) (f1.R x.2.2.2.1 (fun a q1 q2 => by omega)) (show bL (tB S) < 6 by omega) a b
    have f2g := f2.g
    have S2 := f2g.S S1
    rw [e2, bs, g_0_2 S2, bs]
    obtain ⟨h3, e3, f3, r3⟩ := q_setListFacts (S_16 S2) (f2g.R (f1.R x.2.2.2.2.1 (fun a q1 q2 => by omega)) (fun a q1 q2 => by omega)) (show bL (tB S) < 6 by omega) a b
    have f3g := f3.g
    rw [e3, bs]
    have FF : Fr h h3 (fun a => a = 1 ∨ a = 9 ∨ a = 18) := ((f1.mono (fun a q => by omega)).tr (f2g.mono (fun a q => by omega))).tr (f3g.mono (fun a q => by omega))
    have i1 : ∀ j, aI h3 1 j = if j = 7 then nI (bL (tB S) + 1) else aI h 1 j := fun j => by
      rw [f3g.i (by omega), f2g.i (by omega), eh1, sI_I]
      by_cases q : j = 7
      · rw [if_pos ⟨rfl, q⟩, if_pos q]
      · rw [if_neg (fun y => q y.2), if_neg q]
    have i2 : ∀ b, b ≠ 1 → b ≠ 9 → b ≠ 18 → aI h3 b = aI h b := fun b q1 q2 q3 => FF.i (by omega)
    refine ⟨h3, rfl, x.bk eo (FF.mono (fun a q => by omega)) ⟨?_, ?_, ?_, ?_⟩ ⟨?_, ?_⟩ (f3g.R r2 (fun a q1 q2 => by omega)) r3, ?_, FF.k.mono (fun a _ q => by omega)⟩
    · rw [i1, if_neg (by decide)]; exact x.2.1.1
    · rw [i1, if_pos rfl]; rfl
    · rw [i2 4 (by decide) (by decide) (by decide)]; exact x.2.1.2.2.1
    · rw [i2 2 (by decide) (by decide) (by decide), i2 3 (by decide) (by decide) (by decide)]; exact x.2.1.2.2.2
    · rw [i1, if_neg (by decide)]; exact x.2.2.1.1
    · rw [i2 5 (by decide) (by decide) (by decide), i2 6 (by decide) (by decide) (by decide)]; exact x.2.2.1.2
    · refine wf_bk W eo ⟨W.1.1, ?_, W.1.2.2⟩ W.2.1 (wf_L W.2.2.1 (show bL (tB S) < 6 by omega)) W.2.2.2.1 (wf_L W.2.2.2.2.1 (show bL (tB S) < 6 by omega)) W.2.2.2.2.2.1 ?_
      · show bL (tB S) + 1 ≤ 6
        omega
      · rw [(W.2.2.2.2.2.2.2.1 eo).1]
theorem q_step (W : WfS S) (x : InvC h S) (c v : Int32) : CallOk h (f_X8_step h 0 c v) (oStep S c v) := by
  have Sx := x.1
  have hC := W.2.1
  unfold f_X8_step
  rw [if_pos (k_0 Sx), n_open x, bs]
  cases eo : tO S with
  | true =>
    have : oStep S c v = (.error 0, S) := by unfold oStep; rw [if_pos (Or.inl eo)]
    rw [this, if_pos rfl]
    exact call_e W x 0
  | false =>
    rw [if_neg (by decide)]
    simp only []
    rw [g_0_0 Sx, bs, gi_1 Sx, bs, x.2.2.1.1]
    by_cases q : (tC S).length = 24
    · have : oStep S c v = (.error 0, S) := by unfold oStep; rw [if_pos (Or.inr q)]
      rw [this, if_neg (show ¬ nI (tC S).length < 24 from nI_nlt (b := 24) (by omega) (by omega))]
      exact call_e W x 0
    have : oStep S c v = (.ok (nI ((tC S).length + 1)), seB S (tB S) (tC S ++ [(c, v)]) (tA S) (tP S)) := by unfold oStep; rw [if_neg (fun y => y.elim (by rw [eo]; decide) q)]
    rw [this, if_pos (show nI (tC S).length < 24 from nI_lt (b := 24) (by omega) (by decide)), bs]
    unfold f_X0_collect
    obtain ⟨h1, eh1⟩ : ∃ z, z = sI h 5 (tC S).length c := ⟨_, rfl⟩
    have f1 : Fr h h1 (fun a => a = 5) := by rw [eh1]; exact Fr.si rfl
    have S1 := f1.S Sx
    obtain ⟨h2, eh2⟩ : ∃ z, z = sI h1 6 (tC S).length v := ⟨_, rfl⟩
    have f2 : Fr h1 h2 (fun a => a = 6) := by rw [eh2]; exact Fr.si rfl
    have S2 := f2.S S1
    obtain ⟨h3, eh3⟩ : ∃ z, z = sI h2 1 5 (nI ((tC S).length + 1)) := ⟨_, rfl⟩
    have f3 : Fr h2 h3 (fun a => a = 1) := by rw [eh3]; exact Fr.si rfl
    have S3 := f3.S S2
    have l1 : aI h1 1 5 = nI (tC S).length := by rw [f1.i (by decide)]; exact x.2.2.1.1
    have l2 : aI h2 1 5 = nI (tC S).length := by rw [f2.i (by decide)]; exact l1
    have l3 : aI h3 1 5 = nI ((tC S).length + 1) := by rw [eh3, sI_I, if_pos ⟨rfl, rfl⟩]
    rw [if_pos (k_1 Sx), gi_1 Sx, bs, x.2.2.1.1, if_neg (show ¬ (24 : Int32) ≤ nI (tC S).length from nI_ge (b := 24) (by omega) (by decide)), g_1_3 Sx, bs, bs, st_5 Sx (by omega), bs, ← eh1, g_1_4 S1, bs, gi_1 S1, bs, l1, st_6 S1 (by omega), bs, ← eh2, gi_1 S2, bs, l2, nI_1, pi_1 S2, bs, ← eh3, bs, gi_1 S3, bs, l3, bs]
    have FF : Fr h h3 (fun a => a = 1 ∨ a = 5 ∨ a = 6) := ((f1.mono (fun a q => by omega)).tr (f2.mono (fun a q => by omega))).tr (f3.mono (fun a q => by omega))
    have i1 : ∀ j, j ≠ 5 → aI h3 1 j = aI h 1 j := fun j q => by rw [eh3, sI_I, if_neg (fun y => q y.2), f2.i (by decide), f1.i (by decide)]
    refine ⟨h3, rfl, x.bk eo (FF.mono (fun a q => by omega)) ⟨?_, ?_, ?_, ?_⟩ ⟨?_, fun i hi => ?_⟩ (FF.R x.2.2.2.1 (fun a q1 q2 => by omega)) (FF.R x.2.2.2.2.1 (fun a q1 q2 => by omega)), ?_, FF.k.mono (fun a _ q => by omega)⟩
    · rw [i1 6 (by decide)]; exact x.2.1.1
    · rw [i1 7 (by decide)]; exact x.2.1.2.1
    · rw [FF.i (a := 4) (by omega)]; exact x.2.1.2.2.1
    · rw [FF.i (a := 2) (by omega), FF.i (a := 3) (by omega)]; exact x.2.1.2.2.2
    · rw [l3, List.length_append]; rfl
    · rw [List.length_append] at hi
      have e5 : aI h3 5 i = if i = (tC S).length then c else aI h 5 i := by
        rw [f3.i (by decide), f2.i (by decide), eh1, sI_I]
        by_cases q : i = (tC S).length
        · rw [if_pos ⟨rfl, q⟩, if_pos q]
        · rw [if_neg (fun y => q y.2), if_neg q]
      have e6 : aI h3 6 i = if i = (tC S).length then v else aI h 6 i := by
        rw [f3.i (by decide), eh2, sI_I]
        by_cases q : i = (tC S).length
        · rw [if_pos ⟨rfl, q⟩, if_pos q]
        · rw [if_neg (fun y => q y.2), if_neg q, f1.i (by decide)]
      rw [e5, e6]
      by_cases q : i = (tC S).length
      · subst q
        rw [if_pos rfl, if_pos rfl]
        simp
      · have hi2 : i < (tC S).length := by simp at hi; omega
        rw [if_neg q, if_neg q, List.getElem_append_left hi2]
        exact x.2.2.1.2 i hi2
    · refine wf_bk W eo W.1 ?_ W.2.2.1 W.2.2.2.1 W.2.2.2.2.1 W.2.2.2.2.2.1 (W.2.2.2.2.2.2.2.1 eo).1
      rw [List.length_append]
      simp
      omega
end Book
