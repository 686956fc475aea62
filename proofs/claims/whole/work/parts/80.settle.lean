/-! settle -/
def seA (S : SX) (A : AP) : SX := (tB S, tC S, A, tP S, tN S, tW S, tR S, tQ S, tO S, tG S, tM S, tU S, tF S, tH S)
def okA (S : SX) (A : AP) (F : Nat → Int64) (w : List Nat) : SX := (tB S, tC S, A, A, F, w, [], (0, -1, -1, -1), tO S, tG S, tM S, tU S + w.length, tF S, puH (tH S) (tP S, tN S))
def noA (S : SX) (A : AP) (r : Except (Option (Nat × Nat × Nat)) ((Nat → Int64) × List Nat)) : SX := (tB S, tC S, tP S, tP S, tN S, tW S, rgS (tB S) A r, caS r, tO S, tG S, tM S, tU S, tF S + 1, tH S)
def grA (S : SX) (A : AP) : SX := (tB S, tC S, A, tP S, tN S, tW S, tR S, tQ S, tO S, tG S, tM S + 1, tU S, tF S, tH S)
def stS (S : SX) (A : AP) : Int32 × SX := if tG S = true then (0, grA S A) else match jdA (tB S) (tP S) A (tN S) false with
  | .ok (F, w) => (nI w.length, okA S A F w)
  | .error e => (anS (.error e), noA S A (.error e))
section Settle
variable {h : AH} {S : SX} {A : AP}
theorem q_accept (Sx : Sh h) {F : Nat → Int64} {O w : List Nat} (hF : ∀ d, d < 258 → aJ h 33 d = F d) (w43 : Rw h 43 O) (w31 : Rw h 31 w) : ∃ h', f_X8_accept h 0 = some h' ∧ Fq h h' (fun a => a = 0 ∨ a = 25 ∨ a = 26 ∨ a = 27 ∨ a = 28 ∨ a = 29) ∧ (∀ d, d < 258 → aJ h' 25 d = F d) ∧ Rw h' 26 O ∧ Rw h' 28 w ∧ aI h' 0 11 = aI h 0 11 + nI w.length ∧ ∀ j, j ≠ 11 → aI h' 0 j = aI h 0 j := by
  obtain ⟨h1, eh1⟩ : ∃ z, z = rJ h 25 (va_cpy (aJ h 33) (aJ h 25) 0 0 258) := ⟨_, rfl⟩
  have f1 : Fq h h1 (fun a => a = 25) := by rw [eh1]; exact Fq.rj rfl
  have S1 := f1.S Sx
  have c1 : cpJ h 33 0 25 0 258 = some h1 := by
    rw [eh1]
    exact cpJ_n (n := 258) (k_33 Sx) (k_25 Sx) (by rw [e_33 Sx]; decide) (by rw [e_25 Sx]; decide) (by decide)
  obtain ⟨h2, e2, f2, w2⟩ := q_rcopy (S1.r (r := 26) (by decide)) (S1.r (r := 43) (by decide)) (f1.w w43 (by omega) (by omega)) (by decide)
  have S2 := f2.S S1
  obtain ⟨h3, e3, f3, w3⟩ := q_rcopy (S2.r (r := 28) (by decide)) (S2.r (r := 31) (by decide)) (f2.w (f1.w w31 (by omega) (by omega)) (by omega) (by omega)) (by decide)
  have S3 := f3.S S2
  have i0 : aI h3 0 = aI h 0 := by rw [f3.i (by omega), f2.i (by omega), f1.i (by omega)]
  obtain ⟨h4, eh4⟩ : ∃ z, z = sI h3 0 11 (aI h 0 11 + nI w.length) := ⟨_, rfl⟩
  have f4 : Fq h3 h4 (fun a => a = 0) := by rw [eh4]; exact Fq.si rfl
  refine ⟨h4, ?_, (((f1.mono (fun a q => by omega)).tr (f2.mono (fun a q => by omega))).tr (f3.mono (fun a q => by omega))).tr (f4.mono (fun a q => by omega)), fun d hd => ?_, ?_, ?_, ?_, fun j hj => ?_⟩
  · unfold f_X8_accept
    rw [if_pos (k_0 Sx), g_0_6 Sx, bs, g_30_4 Sx, bs, g_0_3 Sx, bs, c1, bs, g_0_4 S1, bs, g_0_6 S1, bs, g_30_1 S1, bs, g_34_9 S1, bs, e2, bs, g_0_5 S2, bs, g_0_6 S2, bs, g_30_3 S2, bs, e3, bs, gi_0 S3, bs, g_0_5 S3, bs, gi_28 S3, bs, w3.1, i0, pi_0 S3, bs, ← eh4]
  · rw [f4.j (by omega), f3.j (by omega), f2.j (by omega), eh1, rJ_J, if_pos rfl, cpyJ_at hd]
    exact hF d hd
  · exact f4.w (f3.w w2 (by omega) (by omega)) (by omega) (by omega)
  · exact f4.w w3 (by omega) (by omega)
  · rw [eh4, sI_I, if_pos ⟨rfl, rfl⟩]
  · rw [eh4, sI_I, if_neg (fun q => hj q.2), i0]
/-- copies of whole plans -/
theorem q_cp716 (Sx : Sh h) {X : AP} (R : RepC h 16 X) (hlen : ∀ l, qS X l ≤ 40) : ∃ h', f_X4_copyFrom h 7 16 = some h' ∧ Fr h h' (fun a => 7 < a ∧ a ≤ 15) ∧ RepC h' 7 X := by
  obtain ⟨h1, e1, f1, c1⟩ := q_copyFrom (S_7 Sx) (S_16 Sx) (by decide)
  exact ⟨h1, e1, f1.g, rep_of R c1 hlen⟩
theorem q_cp167 (Sx : Sh h) {X : AP} (R : RepC h 7 X) (hlen : ∀ l, qS X l ≤ 40) : ∃ h', f_X4_copyFrom h 16 7 = some h' ∧ Fr h h' (fun a => 16 < a ∧ a ≤ 24) ∧ RepC h' 16 X := by
  obtain ⟨h1, e1, f1, c1⟩ := q_copyFrom (S_16 Sx) (S_7 Sx) (by decide)
  exact ⟨h1, e1, f1.g, rep_of R c1 hlen⟩
theorem q_settle (W : WfS S) (hO : tO S = true) (x : InvC h (seA S A)) (fA : WfA A (bT (tB S)) (bL (tB S))) : ∃ h', f_X8_settle h 0 = some ((stS S A).1, h') ∧ InvC h' (stS S A).2 ∧ Fk h h' (fun a => a < 53) := by
  obtain ⟨Sx, a2, a3, a4, a5, a6, a7, a8, a9, a10, ⟨b1, b2, b3, b4, b5⟩, a12⟩ := x
  have a2 : RepB h (tB S) := a2
  have a4 : RepC h 7 A := a4
  have a5 : RepC h 16 (tP S) := a5
  have a6 : ∀ d, d < 258 → aJ h 25 d = tN S d := a6
  have b1 : aI h 0 8 = bI (tO S) := b1
  have b2 : aI h 0 9 = bI (tG S) := b2
  have b3 : aI h 0 10 = nI (tM S) := b3
  have b4 : aI h 0 11 = nI (tU S) := b4
  have b5 : aI h 0 12 = nI (tF S) := b5
  have a12 : PaC h (tH S) := a12
  have a7 : Rw h 26 (orS S) := a7
  have fP : WfA (tP S) (bT (tB S)) (bL (tB S)) := W.2.2.2.2.1
  unfold f_X8_settle
  rw [if_pos (k_0 Sx), gi_0 Sx, bs, b2]
  cases eg : tG S with
  | true =>
    have hst : stS S A = (0, grA S A) := by unfold stS; rw [if_pos eg]
    rw [hst, if_neg (by decide), gi_0 Sx, bs, b3, nI_1, pi_0 Sx, bs]
    have f1 : Fr h (sI h 0 10 (nI (tM S + 1))) (fun a => a = 0) := Fr.si rfl
    refine ⟨_, rfl, ⟨f1.S Sx, f1.B a2 (by decide) (by decide) (by decide) (by decide), ?_, f1.R a4 (fun a q1 q2 => by omega), f1.R a5 (fun a q1 q2 => by omega), a6, f1.w a7 (by decide) (by decide), f1.w a8 (by decide) (by decide), f1.w a9 (by decide) (by decide), ?_, ⟨?_, ?_, ?_, ?_, ?_⟩, a12.fr f1 (by decide) (by decide) (fun a q1 q2 => by omega)⟩, f1.k.mono (fun a _ q => by omega)⟩
    · exact a3.fr (f1.i (by decide)) (f1.i (by decide)) (f1.i (by decide))
    · exact a10.fr (f1.i (by decide))
    · rw [sI_I, if_neg (by decide)]; exact b1
    · rw [sI_I, if_neg (by decide)]; exact b2
    · rw [sI_I, if_pos ⟨rfl, rfl⟩]; rfl
    · rw [sI_I, if_neg (by decide)]; exact b4
    · rw [sI_I, if_neg (by decide)]; exact b5
  | false =>
    rw [if_pos (by decide), g_0_6 Sx, bs, g_0_2 Sx, bs, g_0_1 Sx, bs, g_0_3 Sx, bs]
    obtain ⟨h1, e1, f1, c1, r1, k1⟩ := q_weigh Sx W.1 a2 a5 a4 fP fA a6 false
    have e1' : f_X1_weigh h 30 16 7 25 0 = some (anS (jdA (tB S) (tP S) A (tN S) false), h1) := e1
    have S1 := f1.S Sx
    rw [e1', bs]
    have a2' := f1.B a2 (by omega) (by omega) (by omega) (by omega)
    have a4' := f1.R a4 (fun a q1 q2 => by omega)
    have a5' := f1.R a5 (fun a q1 q2 => by omega)
    have a6' : ∀ d, d < 258 → aJ h1 25 d = tN S d := fun d hd => by rw [f1.j (by omega)]; exact a6 d hd
    have a12' := a12.fr f1 (by omega) (by omega) (fun a q1 q2 => by omega)
    cases ej : jdA (tB S) (tP S) A (tN S) false with
    | ok Fw =>
      obtain ⟨F, w⟩ := Fw
      rw [ej] at r1 c1
      obtain ⟨k2, k3, k4⟩ := k1 F w ej
      have w8 := k3.2.1
      have hst : stS S A = (nI w.length, okA S A F w) := by unfold stS; rw [if_neg (by rw [eg]; decide), ej]
      have han : anS (.ok (F, w)) = nI w.length := rfl
      rw [hst, han]
      simp only []
      rw [if_pos (show (0 : Int32) ≤ nI w.length from nI_le (a := 0) (by omega) (by omega)), g_0_7 S1, bs, g_0_2 S1, bs, g_0_3 S1, bs]
      obtain ⟨h2, e2, f2, p2⟩ := q_keep S1 a12' a5' (fun l => fP.len l) a6'
      have S2 := f2.S S1
      have a4'' : RepC h2 7 A := f2.R a4' (by decide) (fun a q1 q2 => by omega)
      obtain ⟨h3, e3, f3, r3⟩ := q_cp167 S2 a4'' (fun l => fA.len l)
      have S3 := f3.S S2
      obtain ⟨h4, e4, f4, n4, w26, w28, u4, z4⟩ := q_accept S3 (F := F) (O := orA (isC (tB S) A) (rdB (tB S) A)) (w := w) (fun d hd => by rw [f3.j (by omega), f2.j (by decide) (by decide)]; exact k2 d hd) (f3.w (f2.w k4 (by decide) (by decide) (by decide)) (by decide) (by decide)) (f3.w (f2.w k3 (by decide) (by decide) (by decide)) (by decide) (by decide))
      have f4g := f4.g
      have i0 : aI h3 0 = aI h 0 := by rw [f3.i (by omega), f2.i (by decide) (by decide), f1.i (by omega)]
      refine ⟨h4, by rw [e2, bs, g_0_2 S2, bs, g_0_1 S2, bs, e3, bs, e4, bs], ⟨f4g.S S3, ?_, ?_, ?_, ?_, n4, ?_, w28, ?_, ?_, ⟨?_, ?_, ?_, ?_, ?_⟩, ?_⟩, ?_⟩
      · exact f4g.B (f3.B (f2.B a2' (by decide) (by decide) (by decide) (by decide)) (by omega) (by omega) (by omega) (by omega)) (by decide) (by decide) (by decide) (by decide)
      · exact (((a3.fr (f1.i (by omega)) (f1.i (by omega)) (f1.i (by omega))).fr (f2.i (by decide) (by decide)) (f2.i (by decide) (by decide)) (f2.i (by decide) (by decide))).fr (f3.i (by omega)) (f3.i (by omega)) (f3.i (by omega))).fr (f4.i (by decide)) (f4.i (by decide)) (f4.i (by decide))
      · exact f4g.R (f3.R a4'' (fun a q1 q2 => by omega)) (fun a q1 q2 => by omega)
      · exact f4g.R r3 (fun a q1 q2 => by omega)
      · have : orS (okA S A F w) = orA (isC (tB S) A) (rdB (tB S) A) := if_pos hO
        rw [this]
        exact w26
      · exact f4g.w (f3.w (f2.w r1 (by decide) (by decide) (by decide)) (by decide) (by decide)) (by decide) (by decide)
      · exact CaR.fr (h := h3) (CaR.fr (h := h2) (CaR.fr (h := h1) c1 (f2.i (by decide) (by decide))) (f3.i (by omega))) (f4.i (by decide))
      · rw [z4 8 (by decide), i0]; exact b1
      · rw [z4 9 (by decide), i0]; exact b2
      · rw [z4 10 (by decide), i0]; exact b3
      · rw [u4, i0, b4, nI_add]; rfl
      · rw [z4 12 (by decide), i0]; exact b5
      · exact (p2.fr f3 (by omega) (by omega) (fun a q1 q2 => by omega)).fr f4g (by decide) (by decide) (fun a q1 q2 => by omega)
      · exact ((f1.k.mono (fun a _ q => by omega)).tr (f2.mono (fun a _ q => by omega))).tr ((f3.k.mono (fun a _ q => by omega)).tr (f4g.k.mono (fun a _ q => by omega)))
    | error e =>
      rw [ej] at r1 c1
      have hneg : ¬ (0 : Int32) ≤ anS (.error e) := by
        cases e with
        | none => decide
        | some t => show ¬ (0 : Int32) ≤ -2; decide
      have hst : stS S A = (anS (.error e), noA S A (.error e)) := by unfold stS; rw [if_neg (by rw [eg]; decide), ej]
      rw [hst]
      simp only []
      have i0 : aI h1 0 = aI h 0 := f1.i (by omega)
      rw [if_neg hneg, gi_0 S1, bs, i0, b5, nI_1, pi_0 S1, bs]
      obtain ⟨h2, eh2⟩ : ∃ z, z = sI h1 0 12 (nI (tF S + 1)) := ⟨_, rfl⟩
      have f2 : Fr h1 h2 (fun a => a = 0) := by rw [eh2]; exact Fr.si rfl
      have S2 := f2.S S1
      rw [← eh2, g_0_1 S2, bs, g_0_2 S2, bs]
      have a5'' := f2.R a5' (fun a q1 q2 => by omega)
      obtain ⟨h3, e3, f3, r3⟩ := q_cp716 S2 a5'' (fun l => fP.len l)
      have F3 : Fr h h3 (fun a => a = 0 ∨ (7 < a ∧ a ≤ 15) ∨ (30 ≤ a ∧ a ≤ 50)) := (f1.mono (fun a q => by omega)).tr ((f2.mono (fun a q => by omega)).tr (f3.mono (fun a q => by omega)))
      have j0 : ∀ j, j ≠ 12 → aI h3 0 j = aI h 0 j := fun j hj => by rw [f3.i (by omega), eh2, sI_I, if_neg (fun q => hj q.2), i0]
      refine ⟨h3, by rw [e3, bs], ⟨F3.S Sx, F3.B a2 (by omega) (by omega) (by omega) (by omega), ?_, r3, f3.R a5'' (fun a q1 q2 => by omega), fun d hd => by rw [F3.j (by omega)]; exact a6 d hd, ?_, F3.w a8 (by omega) (by omega), ?_, ?_, ⟨?_, ?_, ?_, ?_, ?_⟩, ?_⟩, F3.k.mono (fun a _ q => by omega)⟩
      · exact a3.fr (F3.i (by omega)) (F3.i (by omega)) (F3.i (by omega))
      · exact F3.w a7 (by omega) (by omega)
      · exact (r1.fr (f2.i (by omega)) (f2.i (by omega))).fr (f3.i (by omega)) (f3.i (by omega))
      · exact CaR.fr (h := h2) (CaR.fr (h := h1) c1 (f2.i (by omega))) (f3.i (by omega))
      · rw [j0 8 (by decide)]; exact b1
      · rw [j0 9 (by decide)]; exact b2
      · rw [j0 10 (by decide)]; exact b3
      · rw [j0 11 (by decide)]; exact b4
      · rw [f3.i (by omega), eh2, sI_I, if_pos ⟨rfl, rfl⟩]; rfl
      · exact a12.fr F3 (by omega) (by omega) (fun a q1 q2 => by omega)
end Settle
