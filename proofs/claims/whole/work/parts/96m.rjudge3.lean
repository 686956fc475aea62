/-! THE OTHER ONE: judge -/
section RJudge3
variable {h : AH} {B : BK} {P A : AP} {N : Nat → Int64} {H : List PN}
def QB (a i : Nat) : Prop := a = 53 ∧ (i = 22 ∨ i = 24 ∨ i = 26 ∨ i = 27 ∨ i = 28 ∨ i = 29)
theorem r_jd0 (S : Sh h) (k : AH → Option (Int32 × AH)) : ∃ h6, (Option.bind (pI h 9 53 24 0) fun h1 => Option.bind (pI h1 9 53 26 0) fun h2 => Option.bind (pI h2 9 53 27 (-1)) fun h3 => Option.bind (pI h3 9 53 28 (-1)) fun h4 => Option.bind (pI h4 9 53 29 (-1)) fun h5 => Option.bind (pI h5 9 53 22 0) k) = k h6 ∧ Fg h h6 QB ∧ CqR h6 (0, -1, -1, -1) ∧ RgR h6 [] ∧ NoR h6 [] := by
  have S1 : Sh (sI h 53 24 0) := S.sI
  have S2 : Sh (sI (sI h 53 24 0) 53 26 0) := S1.sI
  have S3 : Sh (sI (sI (sI h 53 24 0) 53 26 0) 53 27 (-1)) := S2.sI
  have S4 : Sh (sI (sI (sI (sI h 53 24 0) 53 26 0) 53 27 (-1)) 53 28 (-1)) := S3.sI
  have S5 : Sh (sI (sI (sI (sI (sI h 53 24 0) 53 26 0) 53 27 (-1)) 53 28 (-1)) 53 29 (-1)) := S4.sI
  refine ⟨sI (sI (sI (sI (sI (sI h 53 24 0) 53 26 0) 53 27 (-1)) 53 28 (-1)) 53 29 (-1)) 53 22 0, ?_, ?_, ⟨?_, ?_, ?_, ?_⟩, ⟨?_, by decide, fun i hi => absurd hi (by simp)⟩, ⟨?_, by decide, fun i hi => absurd hi (by simp)⟩⟩
  · rw [pi_53 S, bs, pi_53 S1, bs, pi_53 S2, bs, pi_53 S3, bs, pi_53 S4, bs, pi_53 S5, bs]
  · exact ((((Fg.si (by unfold QB; omega)).tr (Fg.si (by unfold QB; omega))).tr (Fg.si (by unfold QB; omega))).tr ((Fg.si (by unfold QB; omega)).tr (Fg.si (by unfold QB; omega)))).tr (Fg.si (by unfold QB; omega))
  · rw [sI_I, if_neg (by decide), sI_I, if_neg (by decide), sI_I, if_neg (by decide), sI_I, if_neg (by decide), sI_I, if_pos ⟨rfl, rfl⟩]
  · rw [sI_I, if_neg (by decide), sI_I, if_neg (by decide), sI_I, if_neg (by decide), sI_I, if_pos ⟨rfl, rfl⟩]
  · rw [sI_I, if_neg (by decide), sI_I, if_neg (by decide), sI_I, if_pos ⟨rfl, rfl⟩]
  · rw [sI_I, if_neg (by decide), sI_I, if_pos ⟨rfl, rfl⟩]
  · rw [sI_I, if_neg (by decide), sI_I, if_neg (by decide), sI_I, if_neg (by decide), sI_I, if_neg (by decide), sI_I, if_neg (by decide), sI_I, if_pos ⟨rfl, rfl⟩]; rfl
  · rw [sI_I, if_pos ⟨rfl, rfl⟩]; rfl
/-- the end of a good judgement -/
theorem r_jdE (S : Sh h) (op : Bool) (RA : RpR h 59 0 A) (RP : RpR h 60 0 P) (lA : ∀ l, qS A l ≤ 40) (lP : ∀ l, qS P l ≤ 40) (hN : ∀ d, d < 258 → aJ h 62 d = N d) {F : Nat → Int64} {w : List Nat} (hF : ∀ d, d < 258 → aJ h 63 d = F d) (hw : NoR h w) (p : PaR h H) : ∃ h', (Option.bind (pI h 9 53 29 (-1)) fun h46 => Option.bind (if bI op = 0 then Option.bind (f_X9_keep h46 53) fun h49 => some h49 else some h46) fun h47 => Option.bind (gP h47 9 53 10) fun x50 => Option.bind (gP h47 9 53 11) fun x51 => Option.bind (f_X9_copyInts h47 x50 0 x51 0 504) fun h53 => Option.bind (gP h53 9 53 14) fun x54 => Option.bind (gP h53 9 53 13) fun x55 => Option.bind (f_X9_copyLongs h53 x54 0 x55 0 258) fun h57 => Option.bind (gI h57 9 53 22) fun x58 => Option.bind (pI h57 9 53 20 x58) fun h59 => Option.bind (gP h59 9 53 23) fun x60 => Option.bind (gP h59 9 53 21) fun x61 => Option.bind (gI h59 9 53 22) fun x62 => Option.bind (f_X9_copyInts h59 x60 0 x61 0 x62) fun h64 => Option.bind (gI h64 9 53 30) fun x65 => Option.bind (gI h64 9 53 22) fun x66 => Option.bind (pI h64 9 53 30 (x65 + x66)) fun h67 => Option.bind (gI h67 9 53 22) fun x68 => some (x68, h67)) = some (nI w.length, h') ∧ Fg h h' (fun a i => QP a i ∨ a = 60 ∨ a = 62 ∨ a = 66 ∨ (a = 53 ∧ (i = 20 ∨ i = 29 ∨ i = 30))) ∧ RpR h' 60 0 A ∧ (∀ d, d < 258 → aJ h' 62 d = F d) ∧ WdR h' w ∧ aI h' 53 29 = -1 ∧ aI h' 53 30 = aI h 53 30 + nI w.length ∧ PaR h' (if op = true then H else puH H (P, N)) := by
  obtain ⟨h1, eh1⟩ : ∃ z, z = sI h 53 29 (-1) := ⟨_, rfl⟩
  have f1 : Fg h h1 (fun a i => a = 53 ∧ i = 29) := by rw [eh1]; exact Fg.si ⟨rfl, rfl⟩
  have S1 := f1.S S
  have p1 : PaR h1 H := p.fg f1 (by omega) (by omega) (by omega)
  have key : ∃ h2, (if bI op = 0 then Option.bind (f_X9_keep h1 53) fun h49 => some h49 else some h1) = some h2 ∧ Fg h1 h2 QP ∧ PaR h2 (if op = true then H else puH H (P, N)) := by
    cases op with
    | true => exact ⟨h1, by rw [if_neg (by decide)], Fg.rf _ _, by rw [if_pos rfl]; exact p1⟩
    | false =>
      obtain ⟨h2, e2, f2, p2⟩ := r_keep (N := N) S1 p1 (f1.R RP (fun i q => by omega)) lP (fun d hd => by rw [f1.j (by omega)]; exact hN d hd)
      exact ⟨h2, by rw [if_pos (by decide), e2, bs], f2, by rw [if_neg (by decide)]; exact p2⟩
  obtain ⟨h2, e2, f2, p2⟩ := key
  have S2 := f2.S S1
  obtain ⟨h3, e3, f3, r3⟩ := r_cpP S2 (a := 59) (b := 60) (Or.inl rfl) (Or.inr (Or.inl rfl)) (by decide) (f2.R (f1.R RA (fun i q => by omega)) (fun i q => by unfold QP at q; omega)) lA
  have S3 := f3.S S2
  obtain ⟨h4, e4, f4, g4⟩ := r_copyLongs (h := h3) (a := 63) (b := 62) (sp := 0) (dp := 0) (n := 258) (k_63 S3) (k_62 S3) (by rw [e_63 S3]; decide) (by rw [e_62 S3]; decide) (by rw [e_63 S3]; decide) (by rw [e_62 S3]; decide) (Or.inl (by decide))
  have S4 := f4.S S3
  have e4' : f_X9_copyLongs h3 63 0 62 0 258 = some h4 := e4
  have w22 : aI h4 53 22 = nI w.length := by rw [f4.i (by omega), f3.i (by omega), f2.i (by unfold QP; omega), f1.i (by omega)]; exact hw.1
  obtain ⟨h5, eh5⟩ : ∃ z, z = sI h4 53 20 (nI w.length) := ⟨_, rfl⟩
  have f5 : Fg h4 h5 (fun a i => a = 53 ∧ i = 20) := by rw [eh5]; exact Fg.si ⟨rfl, rfl⟩
  have S5 := f5.S S4
  have h8 := hw.2.1
  have w22' : aI h5 53 22 = nI w.length := by rw [f5.i (by omega)]; exact w22
  obtain ⟨h6, e6, f6, g6⟩ := r_copyInts (h := h5) (a := 67) (b := 66) (sp := 0) (dp := 0) (n := w.length) (k_67 S5) (k_66 S5) (by rw [e_67 S5]; omega) (by rw [e_66 S5]; omega) (by rw [e_67 S5]; decide) (by rw [e_66 S5]; decide) (Or.inl (by decide))
  have e6' : f_X9_copyInts h5 67 0 66 0 (nI w.length) = some h6 := e6
  have S6 := f6.S S5
  have w22'' : aI h6 53 22 = nI w.length := by rw [f6.i (by omega)]; exact w22'
  have w30 : aI h6 53 30 = aI h 53 30 := by rw [f6.i (by omega), f5.i (by omega), f4.i (by omega), f3.i (by omega), f2.i (by unfold QP; omega), f1.i (by omega)]
  obtain ⟨h7, eh7⟩ : ∃ z, z = sI h6 53 30 (aI h 53 30 + nI w.length) := ⟨_, rfl⟩
  have f7 : Fg h6 h7 (fun a i => a = 53 ∧ i = 30) := by rw [eh7]; exact Fg.si ⟨rfl, rfl⟩
  have S7 := f7.S S6
  have w22''' : aI h7 53 22 = nI w.length := by rw [f7.i (by omega)]; exact w22''
  refine ⟨h7, ?_, ?_, ?_, fun d hd => ?_, ⟨?_, h8, fun i hi => ?_⟩, ?_, ?_, ?_⟩
  · rw [pi_53 S, bs, ← eh1, e2, bs, g_53_10 S2, bs, g_53_11 S2, bs, e3, bs, g_53_14 S3, bs, g_53_13 S3, bs, e4', bs, gi_53 S4, bs, w22, pi_53 S4, bs, ← eh5, g_53_23 S5, bs, g_53_21 S5, bs, gi_53 S5, bs, w22', e6', bs, gi_53 S6, bs, gi_53 S6, bs, w22'', w30, pi_53 S6, bs, ← eh7, gi_53 S7, bs, w22''']
  · exact ((((((f1.mono (fun a i q => by omega)).tr (f2.mono (fun a i q => Or.inl q))).tr (f3.mono (fun a i q => by omega))).tr (f4.mono (fun a i q => by omega))).tr (f5.mono (fun a i q => by omega))).tr (f6.mono (fun a i q => by omega))).tr (f7.mono (fun a i q => by omega))
  · exact f7.R (f6.R (f5.R (f4.R r3 (fun i q => by omega)) (fun i q => by omega)) (fun i q => by omega)) (fun i q => by omega)
  · have := g4 d hd
    rw [Nat.zero_add] at this
    rw [f7.j (by omega), f6.j (by omega), f5.j (by omega), this, f3.j (by omega), f2.j (by unfold QP; omega), f1.j (by omega)]
    exact hF d hd
  · rw [f7.i (by omega), f6.i (by omega), eh5, sI_I, if_pos ⟨rfl, rfl⟩]
  · have := g6 i hi
    rw [Nat.zero_add] at this
    rw [f7.i (by omega), this, f5.i (by omega), f4.i (by omega), f3.i (by omega), f2.i (by unfold QP; omega), f1.i (by omega)]
    exact hw.2.2 i hi
  · rw [f7.i (by omega), f6.i (by omega), f5.i (by omega), f4.i (by omega), f3.i (by omega), f2.i (by unfold QP; omega), eh1, sI_I, if_pos ⟨rfl, rfl⟩]
  · rw [eh7, sI_I, if_pos ⟨rfl, rfl⟩]
  · exact ((((p2.fg f3 (by omega) (by omega) (by omega)).fg f4 (by omega) (by omega) (by omega)).fg f5 (by omega) (by omega) (by omega)).fg f6 (by omega) (by omega) (by omega)).fg f7 (by omega) (by omega) (by omega)
theorem r_judge (S : Sh h) (W : WfB B) (RB : RbR h B) (RA : RpR h 59 0 A) (RP : RpR h 60 0 P) (fP : WfA P (bT B) (bL B)) (fA : WfA A (bT B) (bL B)) (hN : ∀ d, d < 258 → aJ h 62 d = N d) (hz : ∀ d, isC B P d = false → N d = 0) (hb : ∀ d, bdJ (N d)) (op : Bool) (hop : op = true → ∀ d, N d = 0) (p : PaR h H) :
    ∃ h', f_X9_judge h 53 (bI op) = some (anS (jdA B P A N op), h') ∧ Fg h h' QG ∧ CqR h' (caS (jdA B P A N op)) ∧ RgR h' (rgS B A (jdA B P A N op)) ∧
    (∀ F w, jdA B P A N op = .ok (F, w) → RpR h' 59 0 A ∧ RpR h' 60 0 A ∧ (∀ d, d < 258 → aJ h' 62 d = F d) ∧ WdR h' w ∧ aI h' 53 30 = aI h 53 30 + nI w.length ∧ aI h' 53 31 = aI h 53 31 ∧ PaR h' (if op = true then H else puH H (P, N))) ∧
    (∀ e, jdA B P A N op = .error e → RpR h' 59 0 P ∧ RpR h' 60 0 P ∧ (∀ d, d < 258 → aJ h' 62 d = N d) ∧ (aI h' 53 20 = aI h 53 20 ∧ ∀ i, aI h' 66 i = aI h 66 i) ∧ aI h' 53 30 = aI h 53 30 ∧ aI h' 53 31 = aI h 53 31 + 1 ∧ PaR h' H) := by
  have lA : ∀ l, qS A l ≤ 40 := fun l => fA.len l
  have lP : ∀ l, qS P l ≤ 40 := fun l => fP.len l
  obtain ⟨K, hK⟩ : ∃ K : AH → Option (Int32 × AH), K = (fun h6 => Option.bind (gP h6 9 53 10) fun x7 => Option.bind (f_X9_arrange h6 53 x7) fun w => match w with
    | (x8, h9) => if x8 = 0 then Option.bind (gP h9 9 53 10) fun x69 => Option.bind (f_X9_findRing h9 53 x69) fun h71 => Option.bind (pI h71 9 53 26 1) fun h72 => Option.bind (f_X9_refuse h72 53 (-1)) fun w => match w with
        | (x73, h74) => some (x73, h74) else Option.bind (f_X9_judge_62 53 (bI op) FU h9 0) fun h21 => Option.bind (f_X9_judge_121 53 (bI op) FU h21 0) fun w => match w with
      | .inl r9 => some r9
      | .inr h45 => Option.bind (pI h45 9 53 29 (-1)) fun h46 => Option.bind (if bI op = 0 then Option.bind (f_X9_keep h46 53) fun h49 => some h49 else some h46) fun h47 => Option.bind (gP h47 9 53 10) fun x50 => Option.bind (gP h47 9 53 11) fun x51 => Option.bind (f_X9_copyInts h47 x50 0 x51 0 504) fun h53 => Option.bind (gP h53 9 53 14) fun x54 => Option.bind (gP h53 9 53 13) fun x55 => Option.bind (f_X9_copyLongs h53 x54 0 x55 0 258) fun h57 => Option.bind (gI h57 9 53 22) fun x58 => Option.bind (pI h57 9 53 20 x58) fun h59 => Option.bind (gP h59 9 53 23) fun x60 => Option.bind (gP h59 9 53 21) fun x61 => Option.bind (gI h59 9 53 22) fun x62 => Option.bind (f_X9_copyInts h59 x60 0 x61 0 x62) fun h64 => Option.bind (gI h64 9 53 30) fun x65 => Option.bind (gI h64 9 53 22) fun x66 => Option.bind (pI h64 9 53 30 (x65 + x66)) fun h67 => Option.bind (gI h67 9 53 22) fun x68 => some (x68, h67)) := ⟨_, rfl⟩
  obtain ⟨h6, e6, f6, c6, r6, n6⟩ := r_jd0 S K
  have hu : f_X9_judge h 53 (bI op) = K h6 := by
    rw [← e6, hK]
    unfold f_X9_judge
    rw [if_pos (k_53 S)]
    rfl
  rw [hu, hK]
  have S6 := f6.S S
  have RB6 := f6.B RB (fun q => by unfold QB at q; omega) (fun q => by unfold QB at q; omega) (fun i q => by unfold QB at q; omega) (fun i q => by unfold QB at q; omega) (fun i q => by unfold QB at q; omega)
  have RA6 := f6.R RA (fun i q => by unfold QB at q; omega)
  have RP6 := f6.R RP (fun i q => by unfold QB at q; omega)
  have xA6 : Cr h6 B A 59 := ⟨S6, RB6, S6.b (Or.inl rfl), RA6⟩
  obtain ⟨h9, e9, f9, rd9, od9⟩ := r_arrange W (Or.inl rfl) fA xA6
  have S9 := f9.S S6
  have xA9 : Cr h9 B A 59 := xA6.qa (Or.inl rfl) f9
  have xP9 : Cr h9 B P 60 := Cr.qa ⟨S6, RB6, S6.b (Or.inr (Or.inl rfl)), RP6⟩ (Or.inr (Or.inl rfl)) f9
  have F9 : Fg h h9 QG := (f6.mono (fun a i q => by unfold QB at q; unfold QG; omega)).tr (f9.mono (fun a i q => by unfold QA at q; unfold QG; omega))
  have k9 : ∀ i, i = 17 ∨ i = 20 ∨ i = 30 ∨ i = 31 → aI h9 53 i = aI h 53 i := fun i hi => by rw [f9.i (by unfold QA; omega), f6.i (by unfold QB; omega)]
  have k66 : ∀ i, aI h9 66 i = aI h 66 i := fun i => by rw [f9.i (by unfold QA; omega), f6.i (by unfold QB; omega)]
  have j62 : ∀ d, d < 258 → aJ h9 62 d = N d := fun d hd => by rw [f9.j (by unfold QA; omega), f6.j (by unfold QB; omega)]; exact hN d hd
  have p9 : PaR h9 H := (p.fg f6 (by unfold QB; omega) (by unfold QB; omega) (by unfold QB; omega)).fg f9 (by unfold QA; omega) (by unfold QA; omega) (by unfold QA; omega)
  have c9 : CqR h9 (0, -1, -1, -1) := c6.fg f9 (by unfold QA; omega) (by unfold QA; omega) (by unfold QA; omega) (by unfold QA; omega)
  have r9 : RgR h9 [] := r6.fg f9 (by unfold QA; omega) (by unfold QA; omega)
  have n9 : NoR h9 [] := ⟨by rw [f9.i (by unfold QA; omega)]; exact n6.1, by decide, fun i hi => absurd hi (by simp)⟩
  simp only []
  rw [g_53_10 S6, bs, e9, bs]
  simp only []
  cases al : alB B A with
  | false =>
    have ej : jdA B P A N op = .error none := by
      unfold jdA
      rw [if_neg (by rw [al]; decide)]
    obtain ⟨h10, e10, f10, r10⟩ := r_findRing W (Or.inl rfl) fA xA9 rd9 al
    have S10 := f10.S S9
    obtain ⟨h11, eh11⟩ : ∃ z, z = sI h10 53 26 1 := ⟨_, rfl⟩
    have f11 : Fg h10 h11 (fun a i => a = 53 ∧ i = 26) := by rw [eh11]; exact Fg.si ⟨rfl, rfl⟩
    have S11 := f11.S S10
    have RP11 : RpR h11 60 0 P := f11.R (f10.R xP9.2.2.2 (fun i q => by unfold QR at q; omega)) (fun i q => by omega)
    obtain ⟨h12, e12, f12, r12, g12⟩ := r_refuse S11 RP11 lP (-1)
    rw [if_pos (show bI false = 0 from rfl), g_53_10 S9, bs, e10, bs, pi_53 S10, bs, ← eh11, e12, bs, ej]
    have nn : ∀ a i, a = 62 ∨ a = 64 ∨ a = 65 ∨ a = 66 ∨ (a = 53 ∧ (i = 17 ∨ i = 20 ∨ i = 27 ∨ i = 28 ∨ i = 29 ∨ i = 30)) → aI h12 a i = aI h9 a i ∧ aJ h12 a i = aJ h9 a i := fun a i q => by
      rw [f12.i (by omega), f11.i (by omega), f10.i (by unfold QR; omega), f12.j (by omega), f11.j (by omega), f10.j (by unfold QR; omega)]
      exact ⟨rfl, rfl⟩
    refine ⟨h12, rfl, F9.tr (((f10.mono (fun a i q => by unfold QR at q; unfold QG; omega)).tr (f11.mono (fun a i q => by unfold QG; omega))).tr (f12.mono (fun a i q => by unfold QG; omega))), ⟨?_, ?_, ?_, ?_⟩, ?_, (fun F w e => by cases e), fun e _ => ⟨r12, ?_, fun d hd => ?_, ⟨?_, fun i => ?_⟩, ?_, ?_, ?_⟩⟩
    · rw [f12.i (by omega), eh11, sI_I, if_pos ⟨rfl, rfl⟩]; rfl
    · rw [(nn 53 27 (by omega)).1]; exact c9.2.1
    · rw [(nn 53 28 (by omega)).1]; exact c9.2.2.1
    · rw [(nn 53 29 (by omega)).1]; exact c9.2.2.2
    · exact (r10.fg f11 (by omega) (by omega)).fg f12 (by omega) (by omega)
    · exact f12.R RP11 (fun i q => by omega)
    · rw [(nn 62 d (by omega)).2]; exact j62 d hd
    · rw [(nn 53 20 (by omega)).1]; exact k9 20 (by omega)
    · rw [(nn 66 i (by omega)).1]; exact k66 i
    · rw [(nn 53 30 (by omega)).1]; exact k9 30 (by omega)
    · rw [g12, f11.i (by omega), f10.i (by unfold QR; omega), k9 31 (by omega)]
    · exact ((p9.fg f10 (by unfold QR; omega) (by unfold QR; omega) (by unfold QR; omega)).fg f11 (by omega) (by omega) (by omega)).fg f12 (by omega) (by omega) (by omega)
  | true =>
    have x9 : Cg h9 B P A N (aJ h9 63) := ⟨xP9, xA9, j62, fun _ _ => rfl⟩
    obtain ⟨h10, e10, f10, x10⟩ := ju62 W fP fA hz op hop 258 FU h9 0 _ rfl (by unfold FU; omega) x9 (fun d hd => by omega)
    have S10 := f10.S S9
    have g := or_gd (C := isC B A) (R := rdB B A) (fun c d q => rdB_c c d q)
    have od10 : OdR h10 (orA (isC B A) (rdB B A)) := ⟨by rw [f10.i (by omega)]; exact od9.1, od9.2.1, fun i hi => by rw [f10.i (by omega)]; exact od9.2.2.1 i hi⟩
    have n10 : NoR h10 [] := ⟨by rw [f10.i (by omega)]; exact n9.1, by decide, fun i hi => absurd hi (by simp)⟩
    have h8 := od9.2.1
    obtain ⟨h11, f11, r11⟩ := ju121 W fP fA hz op (O := orA (isC B A) (rdB B A)) (fun c hc => g.2.1 c hc) (orA (isC B A) (rdB B A)).length FU h10 0 (stF B A N) [] (by omega) (by unfold FU; omega) (by simp) x10 (fun d hd => by unfold stF; rw [hd]; rfl) (fun d => by
      unfold stF
      split
      · exact hb d
      · exact bd_0) od10 n10 (by rw [f10.i (by omega)]; exact c9.2.2.1)
    rw [List.drop_zero] at r11
    have S11 := f11.S S10
    have e10' : f_X9_judge_62 53 (bI op) FU h9 0 = some h10 := e10
    rw [if_neg (show ¬ bI true = 0 by decide), e10', bs]
    have nn : ∀ a i, a = 59 ∨ a = 60 ∨ a = 62 ∨ a = 64 ∨ a = 65 ∨ a = 66 ∨ a = 68 ∨ (a = 53 ∧ (i = 17 ∨ i = 20 ∨ i = 24 ∨ i = 30 ∨ i = 31)) → aI h11 a i = aI h9 a i ∧ aJ h11 a i = aJ h9 a i := fun a i q => by
      rw [f11.i (by unfold QX; omega), f10.i (by omega), f11.j (by unfold QX; omega), f10.j (by omega)]
      exact ⟨rfl, rfl⟩
    have RP11 : RpR h11 60 0 P := xP9.2.2.2.cp lP (fun k hk => (nn 60 _ (by omega)).1)
    have RA11 : RpR h11 59 0 A := xA9.2.2.2.cp lA (fun k hk => (nn 59 _ (by omega)).1)
    have p11 : PaR h11 H := (p9.fg f10 (by omega) (by omega) (by omega)).fg f11 (by unfold QX; omega) (by unfold QX; omega) (by unfold QX; omega)
    have rg11 : RgR h11 [] := (r9.fg f10 (by omega) (by omega)).fg f11 (by unfold QX; omega) (by unfold QX; omega)
    have F11 : Fg h h11 QG := F9.tr ((f10.mono (fun a i q => by unfold QG; omega)).tr (f11.mono (fun a i q => by unfold QX at q; unfold QG; omega)))
    rcases r11 with ⟨c, y, s, j1, j2, j3, j4, j5, j6⟩ | ⟨F', w', j1, j2, j3, j4, j5, j6, j7⟩
    · have ej : jdA B P A N op = .error (some (c, y, s)) := by
        unfold jdA
        rw [if_pos al, j1]
      obtain ⟨h12, e12, f12, r12, g12⟩ := r_refuse S11 RP11 lP (-2)
      have j2' : f_X9_judge_121 53 (bI op) FU h10 0 = some (.inl (-2, h12)) := by
        rw [e12, bs] at j2
        exact j2
      rw [j2', bs, ej]
      refine ⟨h12, rfl, F11.tr (f12.mono (fun a i q => by unfold QG; omega)), ⟨?_, ?_, ?_, ?_⟩, rg11.fg f12 (by omega) (by omega), (fun F w e => by cases e), fun e _ => ⟨r12, f12.R RP11 (fun i q => by omega), fun d hd => ?_, ⟨?_, fun i => ?_⟩, ?_, ?_, p11.fg f12 (by omega) (by omega) (by omega)⟩⟩
      · rw [f12.i (by omega)]; exact j3
      · rw [f12.i (by omega)]; exact j4
      · rw [f12.i (by omega)]; exact j5
      · rw [f12.i (by omega)]; exact j6
      · rw [f12.j (by omega), (nn 62 d (by omega)).2]; exact j62 d hd
      · rw [f12.i (by omega), (nn 53 20 (by omega)).1]; exact k9 20 (by omega)
      · rw [f12.i (by omega), (nn 66 i (by omega)).1]; exact k66 i
      · rw [f12.i (by omega), (nn 53 30 (by omega)).1]; exact k9 30 (by omega)
      · rw [g12, (nn 53 31 (by omega)).1, k9 31 (by omega)]
    · have ej : jdA B P A N op = .ok (F', w') := by
        unfold jdA
        rw [if_pos al, j1]
      have j2' : f_X9_judge_121 53 (bI op) FU h10 0 = some (.inr h11) := j2
      obtain ⟨h12, e12, f12, g1, g2, g3, g4, g5, g6⟩ := r_jdE S11 op RA11 RP11 lA lP (N := N) (fun d hd => by rw [(nn 62 d (by omega)).2]; exact j62 d hd) j6 j7 p11
      rw [j2', bs]
      simp only []
      rw [e12, ej]
      refine ⟨h12, rfl, F11.tr (f12.mono (fun a i q => by unfold QP at q; unfold QG; omega)), ⟨?_, ?_, ?_, g4⟩, rg11.fg f12 (by unfold QP; omega) (by unfold QP; omega), (fun F w e => ?_), fun e q => by cases q⟩
      · rw [f12.i (by unfold QP; omega), j3, f10.i (by omega)]; exact c9.1
      · rw [f12.i (by unfold QP; omega), j4, f10.i (by omega)]; exact c9.2.1
      · rw [f12.i (by unfold QP; omega)]; exact j5
      · cases e
        refine ⟨f12.R RA11 (fun i q => by unfold QP at q; omega), g1, g2, g3, ?_, ?_, g6⟩
        · rw [g5, (nn 53 30 (by omega)).1, k9 30 (by omega)]
        · rw [f12.i (by unfold QP; omega), (nn 53 31 (by omega)).1, k9 31 (by omega)]
end RJudge3
