/-! the Judge: weigh, agrees -/
def alB (B : BK) (A : AP) : Bool := decide ((orA (isC B A) (rdB B A)).length = mnG (isC B A) 258)
theorem al_iff {B : BK} {A : AP} : alB B A = true ↔ alG (isC B A) (rdB B A) := by
  unfold alB
  rw [decide_eq_true_iff]
  exact (or_len (fun c d q => rdB_c c d q)).2
def jdA (B : BK) (P A : AP) (N : Nat → Int64) (op : Bool) : Except (Option (Nat × Nat × Nat)) ((Nat → Int64) × List Nat) := if alB B A = true then (match jdF B P A N op (orA (isC B A) (rdB B A)) (stF B A N) [] with
    | .error e => .error (some e)
    | .ok r => .ok r) else .error none
def caS (r : Except (Option (Nat × Nat × Nat)) ((Nat → Int64) × List Nat)) : Int32 × Int32 × Int32 × Int32 := match r with
  | .ok _ => (0, -1, -1, -1)
  | .error none => (1, -1, -1, -1)
  | .error (some (c, y, s)) => (2, nI c, nI y, nI s)
def rgS (B : BK) (A : AP) (r : Except (Option (Nat × Nat × Nat)) ((Nat → Int64) × List Nat)) : List Nat := match r with
  | .error none => rgA B A
  | _ => []
def anS (r : Except (Option (Nat × Nat × Nat)) ((Nat → Int64) × List Nat)) : Int32 := match r with
  | .ok (_, w) => nI w.length
  | .error none => -1
  | .error (some _) => -2
section Weigh2
variable {h : AH} {B : BK} {P A : AP} {N F : Nat → Int64} {p T Ls : Nat}
theorem fresh2 (W : WfB B) : ∀ (m n : Nat) (h : AH) (i : Nat) (F : Nat → Int64), i + m = 258 → m < n → Cj h B P A N F → (∀ d, d < i → F d = stF B A N d) →
    ∃ h', f_X1_startFresh_2 30 n h (nI i) = some h' ∧ Fq h h' (fun a => a = 33) ∧ Cj h' B P A N (stF B A N) := by
  intro m
  induction m with
  | zero =>
    intro n h i F hi hn x hF
    obtain ⟨n, rfl⟩ : ∃ j, n = j + 1 := ⟨n - 1, by omega⟩
    refine ⟨h, ?_, Fq.rf _ _, x.1, x.2.1, x.2.2.1, x.2.2.2.1, x.2.2.2.2.1, x.2.2.2.2.2.1, fun d hd => by rw [x.2.2.2.2.2.2 d hd, hF d (by omega)]⟩
    unfold f_X1_startFresh_2
    rw [if_pos (show (258 : Int32) ≤ nI i from nI_le (a := 258) (by omega) (by omega))]
  | succ m ih =>
    intro n h i F hi hn x hF
    obtain ⟨n, rfl⟩ : ∃ j, n = j + 1 := ⟨n - 1, by omega⟩
    have S := x.1
    have hi8 : i < 258 := by omega
    have hu : f_X1_startFresh_2 30 (n + 1) h (nI i) = f_X1_startFresh_2 30 n (sJ h 33 i (stF B A N i)) (nI (i + 1)) := by
      conv => lhs; unfold f_X1_startFresh_2
      rw [if_neg (show ¬ (258 : Int32) ≤ nI i from nI_ge (b := 258) hi8 (by decide)), g_30_4 S, bs, g_30_0 S, bs, x.a, bs, q_isCell S W x.2.1 (S_7 S) x.2.2.2.1 hi8, bs, nI_1]
      unfold stF
      cases e : isC B A i with
      | false => rw [if_pos (by decide), bs, st_33 S hi8, bs]; rfl
      | true => rw [if_neg (by decide), x.n, bs, ld_25 S hi8, bs, bs, st_33 S hi8, bs, x.2.2.2.2.2.1 i hi8]; rfl
    have x1 : Cj (sJ h 33 i (stF B A N i)) B P A N (upF F i (stF B A N i)) := by
      obtain ⟨c1, c2, c3, c4, c5, c6, c7⟩ := x
      refine ⟨c1.sJ, c2, c3, c4, c5, fun d hd => by rw [sJ_J, if_neg (by omega)]; exact c6 d hd, fun d hd => ?_⟩
      rw [sJ_J]
      unfold upF
      by_cases q : d = i
      · rw [if_pos ⟨rfl, q⟩, if_pos q]
      · rw [if_neg (fun y => q y.2), if_neg q]; exact c7 d hd
    obtain ⟨h', e1, f1, x2⟩ := ih n _ (i + 1) _ (by omega) (by omega) x1 (fun d hd => by
      unfold upF
      by_cases q : d = i
      · rw [if_pos q, q]
      · rw [if_neg q]; exact hF d (by omega))
    exact ⟨h', by rw [hu, e1], Fq.tr (S := fun a => a = 33) (Fq.sj rfl) f1, x2⟩
theorem q_forget (S : Sh h) : ∃ h', f_X1_forget h 30 = some h' ∧ Fq h h' (fun a => a = 30 ∨ a = 31 ∨ a = 45) ∧ Rw h' 31 [] ∧ Rw h' 45 [] ∧ aI h' 30 5 = 0 ∧ aI h' 30 6 = -1 ∧ aI h' 30 7 = -1 ∧ aI h' 30 8 = -1 := by
  obtain ⟨h1, e1, f1, w1⟩ := q_clear (S.r (r := 31) (by decide))
  have S1 := f1.S S
  obtain ⟨h2, e2, f2, w2⟩ := q_clear (S1.r (r := 45) (by decide))
  have S2 := f2.S S1
  have S3 : Sh (sI h2 30 5 0) := S2.sI
  have S4 : Sh (sI (sI h2 30 5 0) 30 6 (-1)) := S3.sI
  have S5 : Sh (sI (sI (sI h2 30 5 0) 30 6 (-1)) 30 7 (-1)) := S4.sI
  have f3 : Fq h2 (sI (sI (sI (sI h2 30 5 0) 30 6 (-1)) 30 7 (-1)) 30 8 (-1)) (fun a => a = 30) := Fq.tr (S := fun a => a = 30) (Fq.tr (S := fun a => a = 30) (Fq.si rfl) (Fq.si rfl)) (Fq.tr (S := fun a => a = 30) (Fq.si rfl) (Fq.si rfl))
  refine ⟨sI (sI (sI (sI h2 30 5 0) 30 6 (-1)) 30 7 (-1)) 30 8 (-1), ?_, ((f1.mono (fun a q => by omega)).tr (f2.mono (fun a q => by omega))).tr (f3.mono (fun a q => by omega)), ?_, ?_, ?_, ?_, ?_, ?_⟩
  · unfold f_X1_forget
    rw [if_pos (k_30 S), g_30_3 S, bs, e1, bs, g_30_1 S1, bs, g_34_10 S1, bs, e2, bs, pi_30 S2, bs, pi_30 S3, bs, pi_30 S4, bs, pi_30 S5, bs]
  · exact f3.w (f2.w w1 (by omega) (by omega)) (by omega) (by omega)
  · exact f3.w w2 (by omega) (by omega)
  · rw [sI_I, if_neg (by decide), sI_I, if_neg (by decide), sI_I, if_neg (by decide), sI_I, if_pos ⟨rfl, rfl⟩]
  · rw [sI_I, if_neg (by decide), sI_I, if_neg (by decide), sI_I, if_pos ⟨rfl, rfl⟩]
  · rw [sI_I, if_neg (by decide), sI_I, if_pos ⟨rfl, rfl⟩]
  · rw [sI_I, if_pos ⟨rfl, rfl⟩]
theorem q_weigh (S : Sh h) (W : WfB B) (RB : RepB h B) (RP : RepC h 16 P) (RA : RepC h 7 A) (fP : WfA P T Ls) (fA : WfA A T Ls) (hN : ∀ d, d < 258 → aJ h 25 d = N d) (op : Bool) :
    ∃ h', f_X1_weigh h 30 16 7 25 (bI op) = some (anS (jdA B P A N op), h') ∧ Fr h h' (fun a => 30 ≤ a ∧ a ≤ 50) ∧ (aI h' 30 5 = (caS (jdA B P A N op)).1 ∧ aI h' 30 6 = (caS (jdA B P A N op)).2.1 ∧ aI h' 30 7 = (caS (jdA B P A N op)).2.2.1 ∧ aI h' 30 8 = (caS (jdA B P A N op)).2.2.2) ∧ Rw h' 45 (rgS B A (jdA B P A N op)) ∧ ∀ F w, jdA B P A N op = .ok (F, w) → (∀ d, d < 258 → aJ h' 33 d = F d) ∧ Rw h' 31 w ∧ Rw h' 43 (orA (isC B A) (rdB B A)) := by
  obtain ⟨h1, eh1⟩ : ∃ z, z = sP h 30 9 (some 16) := ⟨_, rfl⟩
  obtain ⟨h2, eh2⟩ : ∃ z, z = sP h1 30 10 (some 7) := ⟨_, rfl⟩
  obtain ⟨h3, eh3⟩ : ∃ z, z = sP h2 30 11 (some 25) := ⟨_, rfl⟩
  have f1 : Fr h h1 (fun a => 30 ≤ a ∧ a ≤ 50) := by rw [eh1]; exact Fr.sp ⟨by decide, by decide⟩ (by decide)
  have f2 : Fr h1 h2 (fun a => 30 ≤ a ∧ a ≤ 50) := by rw [eh2]; exact Fr.sp ⟨by decide, by decide⟩ (by decide)
  have f3 : Fr h2 h3 (fun a => 30 ≤ a ∧ a ≤ 50) := by rw [eh3]; exact Fr.sp ⟨by decide, by decide⟩ (by decide)
  have S1 := f1.S S
  have S2 := f2.S S1
  have S3 := f3.S S2
  have p9 : aP h3 30 9 = some 16 := by rw [eh3, sP_P, if_neg (by decide), eh2, sP_P, if_neg (by decide), eh1, sP_P, if_pos ⟨rfl, rfl⟩]
  have p10 : aP h3 30 10 = some 7 := by rw [eh3, sP_P, if_neg (by decide), eh2, sP_P, if_pos ⟨rfl, rfl⟩]
  have p11 : aP h3 30 11 = some 25 := by rw [eh3, sP_P, if_pos ⟨rfl, rfl⟩]
  obtain ⟨h4, e4, f4, w31, w45, c5, c6, c7, c8⟩ := q_forget S3
  have S4 := f4.S S3
  have f14 : Fr h h4 (fun a => 30 ≤ a ∧ a ≤ 50) := ((f1.tr f2).tr f3).tr (f4.g.mono (fun a q => by omega))
  have RB4 : RepB h4 B := by
    unfold RepB
    rw [f14.i (a := 1) (by omega), f14.i (a := 2) (by omega), f14.i (a := 3) (by omega), f14.i (a := 4) (by omega)]
    exact RB
  have RA4 := f14.R RA (fun a q1 q2 => by omega)
  have RP4 := f14.R RP (fun a q1 q2 => by omega)
  obtain ⟨h5, b5, e5, f5, x5, bt5, w43, cm5, r5⟩ := q_arrange S4 W RB4 fA (S_7 S4) RA4 (by decide)
  have S5 := x5.1
  have f45 : Fr h4 h5 (fun a => a = 34 ∨ a = 35 ∨ a = 36 ∨ a = 39 ∨ a = 40 ∨ a = 41 ∨ a = 43 ∨ a = 44) := by
    have q1 : Fr h4 (sP h4 34 12 (some 7)) (fun a => a = 34 ∨ a = 35 ∨ a = 36 ∨ a = 39 ∨ a = 40 ∨ a = 41 ∨ a = 43 ∨ a = 44) := Fr.sp (Or.inl rfl) (by decide)
    exact q1.tr f5.g
  have i30 : aI h5 30 = aI h4 30 := f45.i (by omega)
  have g := or_gd (C := isC B A) (R := rdB B A) (fun c d q => rdB_c c d q)
  have hu : f_X1_weigh h 30 16 7 25 (bI op) = if b5 = 0 then Option.bind (gP h5 1 30 1) fun x53 => Option.bind (f_X5_findRing h5 x53) fun h55 => Option.bind (pI h55 1 30 5 1) fun h56 => some ((-1), h56) else Option.bind (f_X1_startFresh h5 30) fun h11 => Option.bind (gP h11 1 30 1) fun x12 => Option.bind (gP h11 5 x12 9) fun x13 => Option.bind (f_X1_weigh_63 30 (bI op) x13 FU h11 0) fun w => match w with
      | .inl r9 => some r9
      | .inr h50 => Option.bind (gP h50 1 30 3) fun x51 => Option.bind (gI h50 6 x51 1) fun x52 => some (x52, h50) := by
    unfold f_X1_weigh
    have q10 : gP h4 1 30 10 = some 7 := gP_n (k_30 S4) (by rw [f4.p]; exact p10)
    rw [if_pos (k_30 S), pp_30 S, bs, ← eh1, pp_30 S1, bs, ← eh2, pp_30 S2, bs, ← eh3, e4, bs, g_30_1 S4, bs, q10, bs, e5, bs]
    rfl
  rw [hu]
  rcases r5 with ⟨rfl, al⟩ | ⟨rfl, al⟩
  · have hal : alB B A = true := al_iff.mpr al
    have x5' : Cj h5 B P A N (aJ h5 33) := by
      refine ⟨S5, x5.2.1, f45.R RP4 (fun a q1 q2 => by omega), f45.R RA4 (fun a q1 q2 => by omega), ⟨?_, ?_, ?_⟩, fun d hd => ?_, fun d _ => rfl⟩
      · rw [f45.p (by omega), f4.p]; exact p9
      · rw [f45.p (by omega), f4.p]; exact p10
      · rw [f45.p (by omega), f4.p]; exact p11
      · rw [f45.j (by omega), f14.j (by omega)]; exact hN d hd
    obtain ⟨h6, e6, f6, x6⟩ := fresh2 W 258 FU h5 0 _ rfl (by unfold FU; omega) x5' (fun d hd => by omega)
    have S6 := f6.S S5
    have w43' := f6.w w43 (by omega) (by omega)
    have w31' := f6.w (w31.fr (f45.i (by omega)) (f45.i (by omega))) (by omega) (by omega)
    have h8 := w43.2.1
    obtain ⟨h7, f7, r7⟩ := wei63 W fP fA op (O := orA (isC B A) (rdB B A)) (fun c hc => (g.2.1 c hc).2) (orA (isC B A) (rdB B A)).length FU h6 0 (stF B A N) [] (by omega) (by unfold FU; omega) (by simp) x6 w43' w31'
    rw [List.drop_zero] at r7
    have S7 := f7.S S6
    have ff : Fr h h7 (fun a => 30 ≤ a ∧ a ≤ 50) := ((f14.tr (f45.mono (fun a q => by omega))).tr (f6.g.mono (fun a q => by omega))).tr (f7.mono (fun a q => by omega))
    have w45' : Rw h7 45 [] := ((w45.fr (f45.i (by omega)) (f45.i (by omega))).fr (f6.i (by omega)) (f6.i (by omega))).fr (f7.i (by omega)) (f7.i (by omega))
    have hsf : f_X1_startFresh h5 30 = some h6 := by
      unfold f_X1_startFresh
      rw [if_pos (k_30 S5), show (0 : Int32) = nI 0 from rfl, e6, bs]
    rw [if_neg (by decide), hsf, bs, g_30_1 S6, bs, g_34_9 S6, bs, show (0 : Int32) = nI 0 from rfl]
    rcases r7 with ⟨c, y, s, j1, j2, j3, j4, j5, j6⟩ | ⟨F', w', j1, j2, j3, j4, j5⟩
    · have ej : jdA B P A N op = .error (some (c, y, s)) := by
        unfold jdA
        rw [if_pos hal, j1]
      rw [ej]
      exact ⟨h7, by rw [j2, bs]; rfl, ff, ⟨j3, j4, j5, j6⟩, w45', fun F w e => by cases e⟩
    · have ej : jdA B P A N op = .ok (F', w') := by
        unfold jdA
        rw [if_pos hal, j1]
      rw [ej]
      refine ⟨h7, ?_, ff, ⟨?_, ?_, ?_, ?_⟩, w45', fun F w e => ?_⟩
      · rw [j2, bs]
        show (Option.bind (gP h7 1 30 3) fun x51 => Option.bind (gI h7 6 x51 1) fun x52 => some (x52, h7)) = _
        rw [g_30_3 S7, bs, gi_31 S7, bs, j5.1]
        rfl
      · rw [j3, f6.i (by omega), i30]; exact c5
      · rw [j3, f6.i (by omega), i30]; exact c6
      · rw [j3, f6.i (by omega), i30]; exact c7
      · rw [j3, f6.i (by omega), i30]; exact c8
      · cases e
        exact ⟨j4, j5, w43'.fr (f7.i (by omega)) (f7.i (by omega))⟩
  · have hal : ¬ alB B A = true := fun q => al (al_iff.mp q)
    have ej : jdA B P A N op = .error none := by
      unfold jdA
      rw [if_neg hal]
    obtain ⟨h6, e6, f6, w6⟩ := q_findRing W fA (by decide) g x5 bt5 cm5
    have S6 := f6.S S5
    have i6 : aI h6 30 = aI h4 30 := by rw [f6.i (by omega), i30]
    rw [if_pos rfl, g_30_1 S5, bs, e6, bs, pi_30 S6, bs, ej]
    refine ⟨sI h6 30 5 1, rfl, ((f14.tr (f45.mono (fun a q => by omega))).tr (f6.g.mono (fun a q => by omega))).tr (Fr.si ⟨by decide, by decide⟩), ⟨?_, ?_, ?_, ?_⟩, w6.fr (by funext j; rw [sI_I, if_neg (by omega)]) (by funext j; rw [sI_I, if_neg (by omega)]), fun F w e => by cases e⟩
    · rw [sI_I, if_pos ⟨rfl, rfl⟩]; rfl
    · rw [sI_I, if_neg (by decide), i6]; exact c6
    · rw [sI_I, if_neg (by decide), i6]; exact c7
    · rw [sI_I, if_neg (by decide), i6]; exact c8
/-! agrees -/
def agF (B : BK) (A : AP) (N : Nat → Int64) : List Nat → (Nat → Int64) → Bool
  | [], _ => true
  | c :: r, F => if fzC A c = true then agF B A N r F else match wkA B A F c with
    | .error _ => false
    | .ok v => if v = N c then agF B A N r (upF F c v) else false
theorem agr16 (W : WfB B) (fA : WfA A T Ls) {O : List Nat} (hO : ∀ c, c ∈ O → isC B A c = true) : ∀ (m n : Nat) (h : AH) (k : Nat) (F : Nat → Int64), k + m = O.length → m < n → Sh h → RepB h B → RepC h 16 A → (∀ d, d < 258 → aJ h 25 d = N d) → (∀ d, d < 258 → aJ h 33 d = F d) → Rw h 26 O →
    ∃ h', Fr h h' (fun a => a = 33 ∨ a = 49 ∨ a = 50) ∧ ((agF B A N (O.drop k) F = true ∧ f_X1_agrees_16 30 16 25 26 n h (nI k) = some (.inr h')) ∨ (agF B A N (O.drop k) F = false ∧ f_X1_agrees_16 30 16 25 26 n h (nI k) = some (.inl (0, h')))) := by
  intro m
  induction m with
  | zero =>
    intro n h k F hk hn S RB RA hN hF R26
    obtain ⟨n, rfl⟩ : ∃ j, n = j + 1 := ⟨n - 1, by omega⟩
    have h8 := R26.2.1
    refine ⟨h, Fr.rf _ _, Or.inl ⟨?_, ?_⟩⟩
    · rw [List.drop_eq_nil_of_le (by omega)]
      rfl
    · unfold f_X1_agrees_16
      rw [gi_26 S, bs, R26.1, if_pos (nI_le (by omega) (by omega))]
  | succ m ih =>
    intro n h k F hk hn S RB RA hN hF R26
    obtain ⟨n, rfl⟩ : ∃ j, n = j + 1 := ⟨n - 1, by omega⟩
    have h8 := R26.2.1
    have hkl : k < O.length := by omega
    obtain ⟨c, ec⟩ : ∃ z, z = O[k] := ⟨_, rfl⟩
    have hc : c < 258 := by rw [ec]; exact R26.2.2.1 _ (List.getElem_mem hkl)
    have hC : isC B A c = true := by rw [ec]; exact hO _ (List.getElem_mem hkl)
    have hdrop : O.drop k = c :: O.drop (k + 1) := by rw [ec]; exact List.drop_eq_getElem_cons hkl
    have hget : f_X6_get h 26 (nI k) = some (nI c) := by rw [ec]; exact q_get (S.r (by decide)) R26 hkl
    have hfz : f_X4_isFrozenCell h 16 (nI c) = some (bI (fzC A c)) := by rw [q_isFrozenCell (S_16 S) RA fA hc, fz_if]
    rw [hdrop]
    show ∃ h', _ ∧ (((if fzC A c = true then agF B A N (O.drop (k + 1)) F else match wkA B A F c with
      | .error _ => false
      | .ok v => if v = N c then agF B A N (O.drop (k + 1)) (upF F c v) else false) = true ∧ _) ∨ ((if fzC A c = true then agF B A N (O.drop (k + 1)) F else match wkA B A F c with
      | .error _ => false
      | .ok v => if v = N c then agF B A N (O.drop (k + 1)) (upF F c v) else false) = false ∧ _))
    cases e : fzC A c with
    | true =>
      rw [if_pos rfl]
      have hu : f_X1_agrees_16 30 16 25 26 (n + 1) h (nI k) = f_X1_agrees_16 30 16 25 26 n h (nI (k + 1)) := by
        conv => lhs; unfold f_X1_agrees_16
        rw [gi_26 S, bs, R26.1, if_neg (nI_ge hkl (by omega)), hget, bs, hfz, bs, e, if_neg (by decide), nI_1]
      rw [hu]
      exact ih n h (k + 1) F (by omega) (by omega) S RB RA hN hF R26
    | false =>
      rw [if_neg (by decide)]
      obtain ⟨h1, b, e1, f1, r1⟩ := q_work S W RB (by decide) (S_16 S) RA fA hF hc hC
      have S1 := f1.S S
      have hu : f_X1_agrees_16 30 16 25 26 (n + 1) h (nI k) = if b = 0 then some (.inl (0, h1)) else Option.bind (gP h1 1 30 4) fun x12 => Option.bind (gP h1 1 30 2) fun x13 => Option.bind (gJ h1 7 x13 5) fun x14 => Option.bind (stJ h1 x12 (nI c) x14) fun h15 => Option.bind (gP h15 1 30 4) fun x16 => Option.bind (ldJ h15 x16 (nI c)) fun x17 => Option.bind (ldJ h15 25 (nI c)) fun x18 => if (lg_cmp x17 x18) = 0 then f_X1_agrees_16 30 16 25 26 n h15 (nI (k + 1)) else some (.inl (0, h15)) := by
        conv => lhs; unfold f_X1_agrees_16
        rw [gi_26 S, bs, R26.1, if_neg (nI_ge hkl (by omega)), hget, bs, hfz, bs, e, if_pos (by decide), g_30_2 S, bs, g_30_4 S, bs, e1, bs, nI_1]
      rw [hu]
      rcases r1 with ⟨y, s, a1, a2, a3, a4⟩ | ⟨v, a1, a2, a3, -⟩
      · refine ⟨h1, f1.mono (fun a q => by omega), Or.inr ⟨by rw [a1], by rw [a2, if_pos rfl]⟩⟩
      · obtain ⟨h2, eh2⟩ : ∃ z, z = sJ h1 33 c v := ⟨_, rfl⟩
        have f2 : Fr h1 h2 (fun a => a = 33) := by rw [eh2]; exact Fr.sj rfl
        have S2 := f2.S S1
        have f12 : Fr h h2 (fun a => a = 33 ∨ a = 49 ∨ a = 50) := (f1.mono (fun a q => by omega)).tr (f2.mono (fun a q => by omega))
        have v33 : aJ h2 33 c = v := by rw [eh2, sJ_J, if_pos ⟨rfl, rfl⟩]
        have v25 : aJ h2 25 c = N c := by rw [f12.j (by omega)]; exact hN c hc
        rw [a1]
        simp only []
        rw [a2, if_neg (show ¬ (1 : Int32) = 0 by decide), g_30_4 S1, bs, g_30_2 S1, bs, gj_49 S1, bs, a3, st_33 S1 hc, bs, ← eh2, g_30_4 S2, bs, ld_33 S2 hc, bs, ld_25 S2 hc, bs, v33, v25]
        by_cases q : v = N c
        · rw [if_pos ((cmp_eq _ _).mpr q), if_pos q]
          have RB2 : RepB h2 B := by
            unfold RepB
            rw [f12.i (a := 1) (by omega), f12.i (a := 2) (by omega), f12.i (a := 3) (by omega), f12.i (a := 4) (by omega)]
            exact RB
          obtain ⟨h3, f3, r3⟩ := ih n h2 (k + 1) (upF F c v) (by omega) (by omega) S2 RB2 (f12.R RA (fun a q1 q2 => by omega)) (fun d hd => by rw [f12.j (by omega)]; exact hN d hd) (fun d hd => by
            rw [eh2, sJ_J]
            unfold upF
            by_cases qd : d = c
            · rw [if_pos ⟨rfl, qd⟩, if_pos qd]
            · rw [if_neg (fun y => qd y.2), if_neg qd, f1.j (by omega)]; exact hF d hd) (R26.fr (f12.i (by omega)) (f12.i (by omega)))
          exact ⟨h3, f12.tr f3, r3⟩
        · rw [if_neg (fun e => q ((cmp_eq _ _).mp e)), if_neg q]
          exact ⟨h2, f12, Or.inr ⟨rfl, rfl⟩⟩
theorem q_agrees (S : Sh h) (W : WfB B) (RB : RepB h B) (RA : RepC h 16 A) (fA : WfA A T Ls) (hN : ∀ d, d < 258 → aJ h 25 d = N d) {O : List Nat} (hO : ∀ c, c ∈ O → isC B A c = true) (R26 : Rw h 26 O) :
    ∃ h', f_X1_agrees h 30 16 25 26 = some (bI (agF B A N O N), h') ∧ Fr h h' (fun a => a = 33 ∨ a = 49 ∨ a = 50) := by
  obtain ⟨h1, eh1⟩ : ∃ z, z = rJ h 33 (va_cpy (aJ h 25) (aJ h 33) 0 0 258) := ⟨_, rfl⟩
  have f1 : Fr h h1 (fun a => a = 33 ∨ a = 49 ∨ a = 50) := by rw [eh1]; exact Fr.rj (Or.inl rfl)
  have S1 := f1.S S
  have h8 := R26.2.1
  have RB1 : RepB h1 B := by
    unfold RepB
    rw [f1.i (a := 1) (by omega), f1.i (a := 2) (by omega), f1.i (a := 3) (by omega), f1.i (a := 4) (by omega)]
    exact RB
  obtain ⟨h2, f2, r2⟩ := agr16 (N := N) W fA hO O.length FU h1 0 N (by omega) (by unfold FU; omega) S1 RB1 (f1.R RA (fun a q1 q2 => by omega)) (fun d hd => by rw [f1.j (by omega)]; exact hN d hd) (fun d hd => by rw [eh1, rJ_J, if_pos rfl, cpyJ_at hd]; exact hN d hd) (R26.fr (f1.i (by omega)) (f1.i (by omega)))
  rw [List.drop_zero] at r2
  refine ⟨h2, ?_, f1.tr f2⟩
  unfold f_X1_agrees
  rw [if_pos (k_30 S), g_30_4 S, bs, show (258 : Int32) = nI 258 from rfl, cpJ_n (k_25 S) (k_33 S) (by rw [e_25 S]; decide) (by rw [e_33 S]; decide) (by decide), bs, ← eh1, show (0 : Int32) = nI 0 from rfl]
  rcases r2 with ⟨a, b⟩ | ⟨a, b⟩
  · rw [b, bs, a]; rfl
  · rw [b, bs, a]; rfl
end Weigh2
