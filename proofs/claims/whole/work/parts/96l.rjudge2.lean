/-! THE OTHER ONE: refuse, keep, judge -/
def WdR (h : AH) (w : List Nat) : Prop := aI h 53 20 = nI w.length ∧ w.length ≤ 258 ∧ ∀ i (hi : i < w.length), aI h 66 i = nI w[i]
def CqR (h : AH) (Q : CA) : Prop := aI h 53 26 = Q.1 ∧ aI h 53 27 = Q.2.1 ∧ aI h 53 28 = Q.2.2.1 ∧ aI h 53 29 = Q.2.2.2
def PaR (h : AH) (H : List PN) : Prop := aI h 53 17 = nI H.length ∧ H.length ≤ 60 ∧ ∀ i (hi : i < H.length), (∀ l, qS H[i].1 l ≤ 40) ∧ RpR h 64 (504 * i) H[i].1 ∧ ∀ d, d < 258 → aJ h 65 (258 * i + d) = H[i].2 d
def QP (a i : Nat) : Prop := a = 64 ∨ a = 65 ∨ (a = 53 ∧ i = 17)
def QG (a i : Nat) : Prop := (59 ≤ a ∧ a ≤ 75) ∨ (a = 53 ∧ 17 ≤ i)
theorem RpR.cp {h h' : AH} {a b o p : Nat} {A : AP} (R : RpR h a p A) (hlen : ∀ l, qS A l ≤ 40) (e : ∀ k, k < 504 → aI h' b (o + k) = aI h a (p + k)) : RpR h' b o A := by
  obtain ⟨a1, a2, a3, a4, a5, a6, a7⟩ := R
  refine ⟨fun i hi => ?_, fun i hi => ?_, fun i hi => ?_, fun t ht => ?_, fun l k hl hk => ?_, fun l hl => ?_, fun l hl => ?_⟩
  · rw [e _ (by omega)]; exact a1 i hi
  · rw [e _ (by omega)]; exact a2 i hi
  · rw [e _ (by omega)]; exact a3 i hi
  · rw [e _ (by omega)]; exact a4 t ht
  · have := hlen l
    rw [e _ (by omega)]; exact a5 l k hl hk
  · rw [e _ (by omega)]; exact a6 l hl
  · rw [e _ (by omega)]; exact a7 l hl
section RJudge2
variable {h : AH} {B : BK} {P A : AP} {N : Nat → Int64} {H : List PN}
theorem PaR.fg {h' : AH} {Q : Nat → Nat → Prop} (x : PaR h H) (f : Fg h h' Q) (h1 : ¬ Q 53 17) (h2 : ∀ i, ¬ Q 64 i) (h3 : ∀ i, ¬ Q 65 i) : PaR h' H :=
  ⟨by rw [f.i h1]; exact x.1, x.2.1, fun i hi => ⟨(x.2.2 i hi).1, f.R (x.2.2 i hi).2.1 h2, fun d hd => by rw [f.j (h3 _)]; exact (x.2.2 i hi).2.2 d hd⟩⟩
theorem WdR.fg {h' : AH} {Q : Nat → Nat → Prop} {w : List Nat} (x : WdR h w) (f : Fg h h' Q) (h1 : ¬ Q 53 20) (h2 : ∀ i, ¬ Q 66 i) : WdR h' w :=
  ⟨by rw [f.i h1]; exact x.1, x.2.1, fun i hi => by rw [f.i (h2 i)]; exact x.2.2 i hi⟩
theorem RgR.fg {h' : AH} {Q : Nat → Nat → Prop} {w : List Nat} (x : RgR h w) (f : Fg h h' Q) (h1 : ¬ Q 53 24) (h2 : ∀ i, ¬ Q 68 i) : RgR h' w :=
  ⟨by rw [f.i h1]; exact x.1, x.2.1, fun i hi => by rw [f.i (h2 i)]; exact x.2.2 i hi⟩
theorem CqR.fg {h' : AH} {Q : Nat → Nat → Prop} {c : CA} (x : CqR h c) (f : Fg h h' Q) (h1 : ¬ Q 53 26) (h2 : ¬ Q 53 27) (h3 : ¬ Q 53 28) (h4 : ¬ Q 53 29) : CqR h' c := by
  unfold CqR
  rw [f.i h1, f.i h2, f.i h3, f.i h4]
  exact x
/-- copies between the plans -/
theorem r_cpP (S : Sh h) {a b : Nat} (ha : Bx a) (hb : Bx b) (hab : a ≠ b) {X : AP} (R : RpR h a 0 X) (hlen : ∀ l, qS X l ≤ 40) : ∃ h', f_X9_copyInts h a 0 b 0 504 = some h' ∧ Fg h h' (fun x _ => x = b) ∧ RpR h' b 0 X := by
  have wa := S.b ha
  have wb := S.b hb
  obtain ⟨h1, e1, f1, g1⟩ := r_copyInts (h := h) (a := a) (b := b) (sp := 0) (dp := 0) (n := 504) wa.1 wb.1 (by rw [wa.2]; decide) (by rw [wb.2]; decide) (by rw [wa.2]; decide) (by rw [wb.2]; decide) (Or.inl hab)
  exact ⟨h1, e1, f1.mono (fun x i q => q.1), R.cp hlen g1⟩
theorem r_refuse (S : Sh h) (R : RpR h 60 0 P) (hlen : ∀ l, qS P l ≤ 40) (v : Int32) : ∃ h', f_X9_refuse h 53 v = some (v, h') ∧ Fg h h' (fun a i => a = 59 ∨ (a = 53 ∧ i = 31)) ∧ RpR h' 59 0 P ∧ aI h' 53 31 = aI h 53 31 + 1 := by
  obtain ⟨h1, e1, f1, g1⟩ := r_cpP S (a := 60) (b := 59) (Or.inr (Or.inl rfl)) (Or.inl rfl) (by decide) R hlen
  have S1 := f1.S S
  have f2 : Fg h1 (sI h1 53 31 (aI h 53 31 + 1)) (fun a i => a = 59 ∨ (a = 53 ∧ i = 31)) := Fg.si (Or.inr ⟨rfl, rfl⟩)
  refine ⟨sI h1 53 31 (aI h 53 31 + 1), ?_, (f1.mono (fun a i q => Or.inl q)).tr f2, ?_, by rw [sI_I, if_pos ⟨rfl, rfl⟩]⟩
  · unfold f_X9_refuse
    rw [if_pos (k_53 S), g_53_11 S, bs, g_53_10 S, bs, e1, bs, gi_53 S1, bs, f1.i (by omega), pi_53 S1, bs]
  · refine g1.cp hlen (fun k hk => by rw [sI_I, if_neg (by omega)])
theorem r_keepA (S : Sh h) (p : PaR h H) : ∃ h2 K, (if aI h 53 17 = 60 then Option.bind (gP h 9 53 18) fun x3 => Option.bind (gP h 9 53 18) fun x4 => Option.bind (f_X9_copyInts h x3 504 x4 0 29736) fun h6 => Option.bind (gP h6 9 53 19) fun x7 => Option.bind (gP h6 9 53 19) fun x8 => Option.bind (f_X9_copyLongs h6 x7 258 x8 0 15222) fun h10 => Option.bind (gI h10 9 53 17) fun x11 => Option.bind (pI h10 9 53 17 (x11 - 1)) fun h12 => some h12 else some h) = some h2 ∧ Fg h h2 QP ∧ K.length < 60 ∧ (∀ x, puH H x = K ++ [x]) ∧ PaR h2 K := by
  by_cases q : H.length = 60
  · obtain ⟨h1, e1, f1, g1⟩ := r_copyInts (h := h) (a := 64) (b := 64) (sp := 504) (dp := 0) (n := 29736) (k_64 S) (k_64 S) (by rw [e_64 S]; decide) (by rw [e_64 S]; decide) (by rw [e_64 S]; decide) (by rw [e_64 S]; decide) (Or.inr (by decide))
    have S1 := f1.S S
    obtain ⟨h2, e2, f2, g2⟩ := r_copyLongs (h := h1) (a := 65) (b := 65) (sp := 258) (dp := 0) (n := 15222) (k_65 S1) (k_65 S1) (by rw [e_65 S1]; decide) (by rw [e_65 S1]; decide) (by rw [e_65 S1]; decide) (by rw [e_65 S1]; decide) (Or.inr (by decide))
    have S2 := f2.S S1
    have i17 : aI h2 53 17 = nI 60 := by rw [f2.i (by omega), f1.i (by omega), p.1, q]
    have f3 : Fg h2 (sI h2 53 17 (nI 59)) QP := Fg.si (Or.inr (Or.inr ⟨rfl, rfl⟩))
    have e1' : f_X9_copyInts h 64 504 64 0 29736 = some h1 := e1
    have e2' : f_X9_copyLongs h1 65 258 65 0 15222 = some h2 := e2
    refine ⟨sI h2 53 17 (nI 59), H.tail, ?_, ((f1.mono (fun a i q => Or.inl q.1)).tr (f2.mono (fun a i q => Or.inr (Or.inl q.1)))).tr f3, by rw [List.length_tail]; omega, fun x => by unfold puH; rw [if_pos q], ?_, by rw [List.length_tail]; omega, fun i hi => ?_⟩
    · rw [p.1, q, if_pos (show nI 60 = 60 from rfl), g_53_18 S, bs, bs, e1', bs, g_53_19 S1, bs, bs, e2', bs, gi_53 S2, bs, i17, show nI 60 - 1 = nI 59 from nI_pred 59, pi_53 S2, bs]
    · rw [sI_I, if_pos ⟨rfl, rfl⟩, List.length_tail, q]
    · rw [List.length_tail] at hi
      rw [List.getElem_tail]
      obtain ⟨b1, b2, b3⟩ := p.2.2 (i + 1) (by omega)
      refine ⟨b1, b2.cp b1 (fun k hk => ?_), fun d hd => ?_⟩
      · rw [sI_I, if_neg (by omega), f2.i (by omega)]
        have := g1 (504 * i + k) (by omega)
        rw [Nat.zero_add] at this
        rw [this]
        congr 1
        omega
      · rw [sI_J]
        have := g2 (258 * i + d) (by omega)
        rw [Nat.zero_add] at this
        rw [this, f1.j (by omega), ← b3 d hd]
        congr 1
        omega
  · refine ⟨h, H, ?_, Fg.rf _ _, by have := p.2.1; omega, fun x => by unfold puH; rw [if_neg q], p⟩
    rw [p.1, if_neg (show ¬ nI H.length = 60 from fun e => q ((nI_eq (b := 60) (by have := p.2.1; omega) (by decide)).mp e))]
theorem mm504 (l : Nat) : nI l * 504 = nI (504 * l) := by rw [show (504 : Int32) = nI 504 from rfl, pk_mul, Nat.mul_comm]
theorem mm258 (l : Nat) : nI l * 258 = nI (258 * l) := by rw [show (258 : Int32) = nI 258 from rfl, pk_mul, Nat.mul_comm]
theorem r_keep (S : Sh h) (p : PaR h H) (R : RpR h 60 0 P) (hlen : ∀ l, qS P l ≤ 40) (hN : ∀ d, d < 258 → aJ h 62 d = N d) : ∃ h', f_X9_keep h 53 = some h' ∧ Fg h h' QP ∧ PaR h' (puH H (P, N)) := by
  obtain ⟨h2, K, e2, f2, hK, hpu, p2⟩ := r_keepA S p
  have S2 := f2.S S
  obtain ⟨h3, e3, f3, g3⟩ := r_copyInts (h := h2) (a := 60) (b := 64) (sp := 0) (dp := 504 * K.length) (n := 504) (k_60 S2) (k_64 S2) (by rw [e_60 S2]; decide) (by rw [e_64 S2]; omega) (by rw [e_60 S2]; decide) (by rw [e_64 S2]; decide) (Or.inl (by decide))
  have S3 := f3.S S2
  have e3' : f_X9_copyInts h2 60 0 64 (nI (504 * K.length)) 504 = some h3 := e3
  obtain ⟨h4, e4, f4, g4⟩ := r_copyLongs (h := h3) (a := 62) (b := 65) (sp := 0) (dp := 258 * K.length) (n := 258) (k_62 S3) (k_65 S3) (by rw [e_62 S3]; decide) (by rw [e_65 S3]; omega) (by rw [e_62 S3]; decide) (by rw [e_65 S3]; decide) (Or.inl (by decide))
  have S4 := f4.S S3
  have e4' : f_X9_copyLongs h3 62 0 65 (nI (258 * K.length)) 258 = some h4 := e4
  have i3 : aI h3 53 17 = nI K.length := by rw [f3.i (by omega)]; exact p2.1
  have i4 : aI h4 53 17 = nI K.length := by rw [f4.i (by omega)]; exact i3
  refine ⟨sI h4 53 17 (nI (K.length + 1)), ?_, ((f2.tr (f3.mono (fun a i q => Or.inl q.1))).tr (f4.mono (fun a i q => Or.inr (Or.inl q.1)))).tr (Fg.si (Or.inr (Or.inr ⟨rfl, rfl⟩))), ?_, ?_, fun i hi => ?_⟩
  · unfold f_X9_keep
    rw [if_pos (k_53 S), gi_53 S, bs, e2, bs, g_53_11 S2, bs, g_53_18 S2, bs, gi_53 S2, bs, p2.1, mm504, e3', bs, g_53_13 S3, bs, g_53_19 S3, bs, gi_53 S3, bs, i3, mm258, e4', bs, gi_53 S4, bs, i4, nI_1, pi_53 S4, bs]
  · rw [sI_I, if_pos ⟨rfl, rfl⟩, hpu, List.length_append]
    rfl
  · rw [hpu, List.length_append]
    simp
    omega
  · rw [hpu, List.length_append] at hi
    simp only [hpu]
    by_cases q : i < K.length
    · rw [List.getElem_append_left q]
      obtain ⟨b1, b2, b3⟩ := p2.2.2 i q
      refine ⟨b1, b2.cp b1 (fun k hk => ?_), fun d hd => ?_⟩
      · rw [sI_I, if_neg (by omega), f4.i (by omega), f3.i (by omega)]
      · rw [sI_J, f4.j (by omega), f3.j (by omega)]
        exact b3 d hd
    · have : i = K.length := by simp at hi; omega
      subst this
      have hx : (K ++ [((P, N) : PN)])[K.length]'(by simp) = (P, N) := by simp
      rw [hx]
      refine ⟨hlen, R.cp hlen (fun k hk => ?_), fun d hd => ?_⟩
      · rw [sI_I, if_neg (by omega), f4.i (by omega), g3 k hk, f2.i (by unfold QP; omega)]
      · rw [sI_J, g4 d hd, f3.j (by omega), f2.j (by unfold QP; omega), Nat.zero_add]
        exact hN d hd
end RJudge2
