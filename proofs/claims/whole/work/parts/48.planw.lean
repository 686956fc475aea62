/-! plans: what writes them -/
/-- nothing but the int rows in S has changed -/
def FrI (h h' : AH) (S : Nat → Prop) : Prop := aN h' = aN h ∧ aK h' = aK h ∧ aE h' = aE h ∧ aP h' = aP h ∧ aJ h' = aJ h ∧ ∀ a, ¬ S a → aI h' a = aI h a
theorem FrI.rf (h : AH) (S : Nat → Prop) : FrI h h S := ⟨rfl, rfl, rfl, rfl, rfl, fun _ _ => rfl⟩
theorem FrI.tr {h h1 h2 : AH} {S : Nat → Prop} (a : FrI h h1 S) (b : FrI h1 h2 S) : FrI h h2 S :=
  ⟨b.1.trans a.1, b.2.1.trans a.2.1, b.2.2.1.trans a.2.2.1, b.2.2.2.1.trans a.2.2.2.1, b.2.2.2.2.1.trans a.2.2.2.2.1, fun x hx => (b.2.2.2.2.2 x hx).trans (a.2.2.2.2.2 x hx)⟩
theorem FrI.mono {h h1 : AH} {S S' : Nat → Prop} (a : FrI h h1 S) (hs : ∀ x, S x → S' x) : FrI h h1 S' := ⟨a.1, a.2.1, a.2.2.1, a.2.2.2.1, a.2.2.2.2.1, fun x hx => a.2.2.2.2.2 x (fun q => hx (hs x q))⟩
theorem FrI.st {h : AH} {S : Nat → Prop} {a i : Nat} {v : Int32} (hs : S a) : FrI h (sI h a i v) S := ⟨rfl, rfl, rfl, rfl, rfl, fun x hx => up2_ne _ _ (fun e => hx (e ▸ hs))⟩
theorem FrI.row {h : AH} {S : Nat → Prop} {a : Nat} {g : Nat → Int32} (hs : S a) : FrI h (rI h a g) S := ⟨rfl, rfl, rfl, rfl, rfl, fun x hx => upR_ne _ _ (fun e => hx (e ▸ hs))⟩
theorem FrI.pl {h h' : AH} {S : Nat → Prop} (a : FrI h h' S) {p : Nat} (w : WPl h p) : WPl h' p := by
  obtain ⟨-, e1, e2, e3, -⟩ := a
  unfold WPl
  rw [e1, e2, e3]
  exact w
theorem cpI_n {h : AH} {a b n : Nat} (ka : aK h a = 10) (kb : aK h b = 10) (ha : n ≤ aE h a) (hb : n ≤ aE h b) (hn : n < 2 ^ 31) : cpI h a 0 b 0 (nI n) = some (rI h b (va_cpy (aI h a) (aI h b) 0 0 n)) := by
  unfold cpI
  have z : (0 : Int32).toNatClampNeg = 0 := by decide
  rw [if_pos ⟨⟨ka, kb⟩, ⟨by decide, by decide, nI_nn hn⟩, by rw [z, nI_clamp hn]; omega, by rw [z, nI_clamp hn]; omega⟩, z, nI_clamp hn]
theorem aln_n {h : AH} {a : Nat} (hk : aK h a = 10) : aln h a = some (nI (aE h a)) := if_pos ⟨by omega, by omega⟩
theorem eP_le (j : Nat) : eP j ≤ 240 := by
  unfold eP
  split <;> omega
theorem WPl.cp {h : AH} {p q : Nat} (w : WPl h p) (v : WPl h q) (j : Nat) (hj : j < 8) {n : Nat} (hn : n = eP j) : cpI h (q + 1 + j) 0 (p + 1 + j) 0 (nI n) = some (rI h (p + 1 + j) (va_cpy (aI h (q + 1 + j)) (aI h (p + 1 + j)) 0 0 n)) := by
  subst hn
  have := eP_le j
  exact cpI_n (v.2.2.1 j hj) (w.2.2.1 j hj) (by rw [v.2.2.2 j hj]; exact Nat.le_refl _) (by rw [w.2.2.2 j hj]; exact Nat.le_refl _) (by omega)
theorem WPl.al {h : AH} {p : Nat} (w : WPl h p) (j : Nat) (hj : j < 8) : aln h (p + 1 + j) = some (nI (eP j)) := by rw [aln_n (w.2.2.1 j hj), w.2.2.2 j hj]
theorem rI_w {h : AH} {p a : Nat} {g : Nat → Int32} (w : WPl h p) : WPl (rI h a g) p := w
theorem sI_w {h : AH} {p a i : Nat} {v : Int32} (w : WPl h p) : WPl (sI h a i v) p := w
theorem cpy_at {f g : Nat → Int32} {n i : Nat} (hi : i < n) : va_cpy f g 0 0 n i = f i := by simp [va_cpy, hi]
theorem cp_fr {h : AH} {p q j : Nat} : FrI h (rI h (p + 1 + j) (va_cpy (aI h (q + 1 + j)) (aI h (p + 1 + j)) 0 0 (eP j))) (fun a => a = p + 1 + j) := FrI.row rfl
theorem cp_at {h : AH} {p q j i : Nat} (hi : i < eP j) : aI (rI h (p + 1 + j) (va_cpy (aI h (q + 1 + j)) (aI h (p + 1 + j)) 0 0 (eP j))) (p + 1 + j) i = aI h (q + 1 + j) i := by
  rw [rI_I, if_pos rfl, cpy_at hi]
set_option maxHeartbeats 1000000 in
/-- copyFrom: all rows of another plan -/
theorem q_copyFrom {h : AH} {p q : Nat} (w0 : WPl h p) (v0 : WPl h q) (hpq : p + 8 < q ∨ q + 8 < p) : ∃ h', f_X4_copyFrom h p q = some h' ∧ FrI h h' (fun a => p < a ∧ a ≤ p + 8) ∧ ∀ j, j < 8 → ∀ i, i < eP j → aI h' (p + 1 + j) i = aI h (q + 1 + j) i := by
  unfold f_X4_copyFrom
  rw [if_pos w0.1]
  rw [v0.p 0 (by decide), bs, w0.p 0 (by decide), bs, bs, w0.al 0 (by decide), bs, w0.cp v0 0 (by decide) rfl, bs]
  obtain ⟨h1, e1⟩ : ∃ x, x = rI h (p + 1 + 0) (va_cpy (aI h (q + 1 + 0)) (aI h (p + 1 + 0)) 0 0 (eP 0)) := ⟨_, rfl⟩
  have f1 : FrI h h1 (fun a => a = p + 1 + 0) := by rw [e1]; exact cp_fr
  have g1 : ∀ i, i < eP 0 → aI h1 (p + 1 + 0) i = aI h (q + 1 + 0) i := fun i hi => by rw [e1]; exact cp_at hi
  rw [← e1]
  clear e1
  have w1 : WPl h1 p := f1.pl w0
  have v1 : WPl h1 q := f1.pl v0
  rw [v1.p 1 (by decide), bs, w1.p 1 (by decide), bs, bs, w1.al 1 (by decide), bs, w1.cp v1 1 (by decide) rfl, bs]
  obtain ⟨h2, e2⟩ : ∃ x, x = rI h1 (p + 1 + 1) (va_cpy (aI h1 (q + 1 + 1)) (aI h1 (p + 1 + 1)) 0 0 (eP 1)) := ⟨_, rfl⟩
  have f2 : FrI h1 h2 (fun a => a = p + 1 + 1) := by rw [e2]; exact cp_fr
  have g2 : ∀ i, i < eP 1 → aI h2 (p + 1 + 1) i = aI h1 (q + 1 + 1) i := fun i hi => by rw [e2]; exact cp_at hi
  rw [← e2]
  clear e2
  have w2 : WPl h2 p := f2.pl w1
  have v2 : WPl h2 q := f2.pl v1
  rw [v2.p 2 (by decide), bs, w2.p 2 (by decide), bs, show (40 : Int32) = nI (eP 2) from rfl, w2.cp v2 2 (by decide) rfl, bs]
  obtain ⟨h3, e3⟩ : ∃ x, x = rI h2 (p + 1 + 2) (va_cpy (aI h2 (q + 1 + 2)) (aI h2 (p + 1 + 2)) 0 0 (eP 2)) := ⟨_, rfl⟩
  have f3 : FrI h2 h3 (fun a => a = p + 1 + 2) := by rw [e3]; exact cp_fr
  have g3 : ∀ i, i < eP 2 → aI h3 (p + 1 + 2) i = aI h2 (q + 1 + 2) i := fun i hi => by rw [e3]; exact cp_at hi
  rw [← e3]
  clear e3
  have w3 : WPl h3 p := f3.pl w2
  have v3 : WPl h3 q := f3.pl v2
  rw [v3.p 3 (by decide), bs, w3.p 3 (by decide), bs, show nI (eP 2) = nI (eP 3) from rfl, w3.cp v3 3 (by decide) rfl, bs]
  obtain ⟨h4, e4⟩ : ∃ x, x = rI h3 (p + 1 + 3) (va_cpy (aI h3 (q + 1 + 3)) (aI h3 (p + 1 + 3)) 0 0 (eP 3)) := ⟨_, rfl⟩
  have f4 : FrI h3 h4 (fun a => a = p + 1 + 3) := by rw [e4]; exact cp_fr
  have g4 : ∀ i, i < eP 3 → aI h4 (p + 1 + 3) i = aI h3 (q + 1 + 3) i := fun i hi => by rw [e4]; exact cp_at hi
  rw [← e4]
  clear e4
  have w4 : WPl h4 p := f4.pl w3
  have v4 : WPl h4 q := f4.pl v3
  rw [v4.p 4 (by decide), bs, w4.p 4 (by decide), bs, show nI (eP 3) = nI (eP 4) from rfl, w4.cp v4 4 (by decide) rfl, bs]
  obtain ⟨h5, e5⟩ : ∃ x, x = rI h4 (p + 1 + 4) (va_cpy (aI h4 (q + 1 + 4)) (aI h4 (p + 1 + 4)) 0 0 (eP 4)) := ⟨_, rfl⟩
  have f5 : FrI h4 h5 (fun a => a = p + 1 + 4) := by rw [e5]; exact cp_fr
  have g5 : ∀ i, i < eP 4 → aI h5 (p + 1 + 4) i = aI h4 (q + 1 + 4) i := fun i hi => by rw [e5]; exact cp_at hi
  rw [← e5]
  clear e5
  have w5 : WPl h5 p := f5.pl w4
  have v5 : WPl h5 q := f5.pl v4
  rw [v5.p 5 (by decide), bs, w5.p 5 (by decide), bs, bs, w5.al 5 (by decide), bs, w5.cp v5 5 (by decide) rfl, bs]
  obtain ⟨h6, e6⟩ : ∃ x, x = rI h5 (p + 1 + 5) (va_cpy (aI h5 (q + 1 + 5)) (aI h5 (p + 1 + 5)) 0 0 (eP 5)) := ⟨_, rfl⟩
  have f6 : FrI h5 h6 (fun a => a = p + 1 + 5) := by rw [e6]; exact cp_fr
  have g6 : ∀ i, i < eP 5 → aI h6 (p + 1 + 5) i = aI h5 (q + 1 + 5) i := fun i hi => by rw [e6]; exact cp_at hi
  rw [← e6]
  clear e6
  have w6 : WPl h6 p := f6.pl w5
  have v6 : WPl h6 q := f6.pl v5
  rw [v6.p 6 (by decide), bs, w6.p 6 (by decide), bs, show (6 : Int32) = nI (eP 6) from rfl, w6.cp v6 6 (by decide) rfl, bs]
  obtain ⟨h7, e7⟩ : ∃ x, x = rI h6 (p + 1 + 6) (va_cpy (aI h6 (q + 1 + 6)) (aI h6 (p + 1 + 6)) 0 0 (eP 6)) := ⟨_, rfl⟩
  have f7 : FrI h6 h7 (fun a => a = p + 1 + 6) := by rw [e7]; exact cp_fr
  have g7 : ∀ i, i < eP 6 → aI h7 (p + 1 + 6) i = aI h6 (q + 1 + 6) i := fun i hi => by rw [e7]; exact cp_at hi
  rw [← e7]
  clear e7
  have w7 : WPl h7 p := f7.pl w6
  have v7 : WPl h7 q := f7.pl v6
  rw [v7.p 7 (by decide), bs, w7.p 7 (by decide), bs, show nI (eP 6) = nI (eP 7) from rfl, w7.cp v7 7 (by decide) rfl, bs]
  obtain ⟨h8, e8⟩ : ∃ x, x = rI h7 (p + 1 + 7) (va_cpy (aI h7 (q + 1 + 7)) (aI h7 (p + 1 + 7)) 0 0 (eP 7)) := ⟨_, rfl⟩
  have f8 : FrI h7 h8 (fun a => a = p + 1 + 7) := by rw [e8]; exact cp_fr
  have g8 : ∀ i, i < eP 7 → aI h8 (p + 1 + 7) i = aI h7 (q + 1 + 7) i := fun i hi => by rw [e8]; exact cp_at hi
  rw [← e8]
  clear e8
  have w8 : WPl h8 p := f8.pl w7
  have v8 : WPl h8 q := f8.pl v7
  refine ⟨_, rfl, ?_, ?_⟩
  · exact ((((((((f1.mono (fun a h => by omega)).tr (f2.mono (fun a h => by omega))).tr (f3.mono (fun a h => by omega))).tr (f4.mono (fun a h => by omega))).tr (f5.mono (fun a h => by omega))).tr (f6.mono (fun a h => by omega))).tr (f7.mono (fun a h => by omega))).tr (f8.mono (fun a h => by omega)))
  · intro j hj i hi
    rcases (show j = 0 ∨ j = 1 ∨ j = 2 ∨ j = 3 ∨ j = 4 ∨ j = 5 ∨ j = 6 ∨ j = 7 by omega) with rfl | rfl | rfl | rfl | rfl | rfl | rfl | rfl
    · rw [f8.2.2.2.2.2 (p + 1 + 0) (by omega), f7.2.2.2.2.2 (p + 1 + 0) (by omega), f6.2.2.2.2.2 (p + 1 + 0) (by omega), f5.2.2.2.2.2 (p + 1 + 0) (by omega), f4.2.2.2.2.2 (p + 1 + 0) (by omega), f3.2.2.2.2.2 (p + 1 + 0) (by omega), f2.2.2.2.2.2 (p + 1 + 0) (by omega), g1 i hi]
    · rw [f8.2.2.2.2.2 (p + 1 + 1) (by omega), f7.2.2.2.2.2 (p + 1 + 1) (by omega), f6.2.2.2.2.2 (p + 1 + 1) (by omega), f5.2.2.2.2.2 (p + 1 + 1) (by omega), f4.2.2.2.2.2 (p + 1 + 1) (by omega), f3.2.2.2.2.2 (p + 1 + 1) (by omega), g2 i hi, f1.2.2.2.2.2 (q + 1 + 1) (by omega)]
    · rw [f8.2.2.2.2.2 (p + 1 + 2) (by omega), f7.2.2.2.2.2 (p + 1 + 2) (by omega), f6.2.2.2.2.2 (p + 1 + 2) (by omega), f5.2.2.2.2.2 (p + 1 + 2) (by omega), f4.2.2.2.2.2 (p + 1 + 2) (by omega), g3 i hi, f2.2.2.2.2.2 (q + 1 + 2) (by omega), f1.2.2.2.2.2 (q + 1 + 2) (by omega)]
    · rw [f8.2.2.2.2.2 (p + 1 + 3) (by omega), f7.2.2.2.2.2 (p + 1 + 3) (by omega), f6.2.2.2.2.2 (p + 1 + 3) (by omega), f5.2.2.2.2.2 (p + 1 + 3) (by omega), g4 i hi, f3.2.2.2.2.2 (q + 1 + 3) (by omega), f2.2.2.2.2.2 (q + 1 + 3) (by omega), f1.2.2.2.2.2 (q + 1 + 3) (by omega)]
    · rw [f8.2.2.2.2.2 (p + 1 + 4) (by omega), f7.2.2.2.2.2 (p + 1 + 4) (by omega), f6.2.2.2.2.2 (p + 1 + 4) (by omega), g5 i hi, f4.2.2.2.2.2 (q + 1 + 4) (by omega), f3.2.2.2.2.2 (q + 1 + 4) (by omega), f2.2.2.2.2.2 (q + 1 + 4) (by omega), f1.2.2.2.2.2 (q + 1 + 4) (by omega)]
    · rw [f8.2.2.2.2.2 (p + 1 + 5) (by omega), f7.2.2.2.2.2 (p + 1 + 5) (by omega), g6 i hi, f5.2.2.2.2.2 (q + 1 + 5) (by omega), f4.2.2.2.2.2 (q + 1 + 5) (by omega), f3.2.2.2.2.2 (q + 1 + 5) (by omega), f2.2.2.2.2.2 (q + 1 + 5) (by omega), f1.2.2.2.2.2 (q + 1 + 5) (by omega)]
    · rw [f8.2.2.2.2.2 (p + 1 + 6) (by omega), g7 i hi, f6.2.2.2.2.2 (q + 1 + 6) (by omega), f5.2.2.2.2.2 (q + 1 + 6) (by omega), f4.2.2.2.2.2 (q + 1 + 6) (by omega), f3.2.2.2.2.2 (q + 1 + 6) (by omega), f2.2.2.2.2.2 (q + 1 + 6) (by omega), f1.2.2.2.2.2 (q + 1 + 6) (by omega)]
    · rw [g8 i hi, f7.2.2.2.2.2 (q + 1 + 7) (by omega), f6.2.2.2.2.2 (q + 1 + 7) (by omega), f5.2.2.2.2.2 (q + 1 + 7) (by omega), f4.2.2.2.2.2 (q + 1 + 7) (by omega), f3.2.2.2.2.2 (q + 1 + 7) (by omega), f2.2.2.2.2.2 (q + 1 + 7) (by omega), f1.2.2.2.2.2 (q + 1 + 7) (by omega)]
