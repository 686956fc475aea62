/-! THE OTHER ONE: done -/
def saM (A D : AP) (t : Nat) : Prop := hmA D t = hmA A t ∧ qK D t = qK A t ∧ spA D t = spA A t ∧ ∀ k, k < 4 → qF D (4 * t + k) = qF A (4 * t + k)
def keC (T : Nat) (A D : AP) : Prop := ∃ t, t < T ∧ fzA A t = true ∧ ¬ saM A D t
def QD (a i : Nat) : Prop := (59 ≤ a ∧ a ≤ 75) ∨ (a = 53 ∧ 15 ≤ i)
theorem i4t (t k : Nat) : ((0 : Int32) + 4 * nI t) + nI k = nI (4 * t + k) := by
  rw [show (4 : Int32) = nI 4 from rfl, pk_mul, show (0 : Int32) = nI 0 from rfl, nI_add, nI_add, Nat.zero_add]
theorem ov_eq {a b : Option Nat} (ha : ∀ x, a = some x → x < 2 ^ 31) (hb : ∀ x, b = some x → x < 2 ^ 31) : ov a = ov b ↔ a = b := by
  cases a with
  | none =>
    cases b with
    | none => simp
    | some y => exact ⟨fun e => absurd e.symm (nI_nm (hb y rfl)), fun e => by cases e⟩
  | some x =>
    cases b with
    | none => exact ⟨fun e => absurd e (nI_nm (ha x rfl)), fun e => by cases e⟩
    | some y => exact ⟨fun e => by rw [(nI_eq (ha x rfl) (hb y rfl)).mp e], fun e => by rw [e]⟩
theorem b_and (a b : Bool) : bI a &&& bI b = bI (a && b) := by cases a <;> cases b <;> decide
section RDone
variable {h : AH} {S : SX} {A D : AP} {T Ls : Nat}
theorem dn97 (Sx : Sh h) (RA : RpR h 59 0 A) (RD : RpR h 61 0 D) {t : Nat} (ht : t < 40) : ∀ (m n k : Nat) (b : Bool), k + m = 4 → m < n → ∃ b' : Bool, f_X9_done_97 53 (nI t) n h (bI b) (nI k) = some (bI b') ∧ (b' = true ↔ b = true ∧ ∀ j, j < 4 → k ≤ j → qF D (4 * t + j) = qF A (4 * t + j)) := by
  intro m
  induction m with
  | zero =>
    intro n k b hk hn
    obtain ⟨n, rfl⟩ : ∃ j, n = j + 1 := ⟨n - 1, by omega⟩
    refine ⟨b, ?_, (fun q => ⟨q, fun j h1 h2 => by omega⟩), fun q => q.1⟩
    unfold f_X9_done_97
    rw [if_pos (show (4 : Int32) ≤ nI k from nI_le (a := 4) (by omega) (by omega))]
  | succ m ih =>
    intro n k b hk hn
    obtain ⟨n, rfl⟩ : ∃ j, n = j + 1 := ⟨n - 1, by omega⟩
    have v1 : aI h 61 (4 * t + k) = qF D (4 * t + k) := by have := RD.1 (4 * t + k) (by omega); rwa [Nat.zero_add] at this
    have v2 : aI h 59 (4 * t + k) = qF A (4 * t + k) := by have := RA.1 (4 * t + k) (by omega); rwa [Nat.zero_add] at this
    have hx : (if qF D (4 * t + k) = qF A (4 * t + k) then some (1 : Int32) else some 0) = some (bI (decide (qF D (4 * t + k) = qF A (4 * t + k)))) := by
      by_cases q : qF D (4 * t + k) = qF A (4 * t + k)
      · rw [if_pos q, decide_eq_true q]; rfl
      · rw [if_neg q, decide_eq_false q]; rfl
    obtain ⟨b', e', i'⟩ := ih n (k + 1) (b && decide (qF D (4 * t + k) = qF A (4 * t + k))) (by omega) (by omega)
    refine ⟨b', ?_, ?_⟩
    · unfold f_X9_done_97
      rw [if_neg (show ¬ (4 : Int32) ≤ nI k from nI_ge (b := 4) (by omega) (by decide)), g_53_12 Sx, bs, i4t, ld_61 Sx (by omega), bs, g_53_10 Sx, bs, ld_59 Sx (by omega), bs, v1, v2, hx, bs, b_and, nI_1, e']
    · rw [i', Bool.and_eq_true, decide_eq_true_iff]
      constructor
      · rintro ⟨⟨q0, q1⟩, q2⟩
        refine ⟨q0, fun j h1 h2 => ?_⟩
        rcases Nat.lt_or_ge k j with q | q
        · exact q2 j h1 q
        · have : j = k := by omega
          rw [this]; exact q1
      · rintro ⟨q0, q⟩
        exact ⟨⟨q0, q k (by omega) (Nat.le_refl _)⟩, fun j h1 h2 => q j h1 (by omega)⟩
theorem dn2 (Sx : Sh h) (hT : aI h 53 2 = nI T) (fA : WfA A T Ls) (fD : WfA D T Ls) (RA : RpR h 59 0 A) (RD : RpR h 61 0 D) : ∀ (m n k : Nat), k + m = T → m < n →
    (f_X9_done_2 53 n h (nI k) = some (.inr ()) ∧ ∀ t, k ≤ t → t < T → fzA A t = true → saM A D t) ∨ (f_X9_done_2 53 n h (nI k) = some (.inl (-3, h)) ∧ keC T A D) := by
  have T40 := fA.1
  have wA := Sx.b (b := 59) (Or.inl rfl)
  have wD := Sx.b (b := 61) (Or.inr (Or.inr rfl))
  intro m
  induction m with
  | zero =>
    intro n k hk hn
    obtain ⟨n, rfl⟩ : ∃ j, n = j + 1 := ⟨n - 1, by omega⟩
    refine Or.inl ⟨?_, fun t h1 h2 => by omega⟩
    unfold f_X9_done_2
    rw [gi_53 Sx, bs, hT, if_pos (nI_le (by omega) (by omega))]
  | succ m ih =>
    intro n k hk hn
    obtain ⟨n, rfl⟩ : ∃ j, n = j + 1 := ⟨n - 1, by omega⟩
    have hk4 : k < 40 := by omega
    cases ez : fzA A k with
    | false =>
      have hu : f_X9_done_2 53 (n + 1) h (nI k) = f_X9_done_2 53 n h (nI (k + 1)) := by
        conv => lhs; unfold f_X9_done_2
        rw [gi_53 Sx, bs, hT, if_neg (nI_ge (by omega) (by omega)), g_53_10 Sx, bs, r_isFrozenThing wA RA fA hk4, bs, ez, if_pos (show bI false = 0 from rfl), nI_1]
      rw [hu]
      rcases ih n (k + 1) (by omega) (by omega) with ⟨e, g⟩ | ⟨e, g⟩
      · refine Or.inl ⟨e, fun t h1 h2 h3 => ?_⟩
        rcases Nat.lt_or_ge k t with q | q
        · exact g t q h2 h3
        · have : t = k := by omega
          rw [this, ez] at h3; cases h3
      · exact Or.inr ⟨e, g⟩
    | true =>
      obtain ⟨l, p, hl, hp, ep, hmk, spk⟩ : ∃ l p, l < 6 ∧ p < qS A l ∧ qR A l p = k ∧ hmA A k = some l ∧ spA A k = some p := by
        rcases hm_or fA k with ⟨e1, -, -⟩ | ⟨l, p, -, h2, h3, h4, h5, h6⟩
        · rw [fz_off e1] at ez; cases ez
        · exact ⟨l, p, h2, h3, h4, h5, h6⟩
      have k1 : aI h 61 (172 + k) = qK D k := by have := RD.2.2.1 k hk4; rwa [Nat.zero_add] at this
      have key : ∃ b : Bool, (if ov (hmA D k) = ov (hmA A k) then Option.bind (gP h 9 53 12) fun x10 => Option.bind (ldI h x10 (172 + nI k)) fun x11 => Option.bind (gP h 9 53 10) fun x12 => Option.bind (ldI h x12 (172 + nI k)) fun x13 => if x11 = x13 then Option.bind (gP h 9 53 12) fun x14 => Option.bind (f_X9_placeOf h x14 (nI k)) fun x15 => Option.bind (gP h 9 53 10) fun x17 => Option.bind (f_X9_placeOf h x17 (nI k)) fun x18 => if x15 = x18 then some (1 : Int32) else some 0 else some 0 else some 0) = some (bI b) ∧ (b = true ↔ hmA D k = hmA A k ∧ qK D k = qK A k ∧ spA D k = spA A k) := by
        by_cases q1 : hmA D k = hmA A k
        · rw [if_pos (by rw [q1]), g_53_12 Sx, bs, RD.lk wD hk4, bs, g_53_10 Sx, bs, RA.lk wA hk4, bs]
          by_cases q2 : qK D k = qK A k
          · obtain ⟨p', hp', ep', sp'⟩ : ∃ p', p' < qS D l ∧ qR D l p' = k ∧ spA D k = some p' := by
              rcases hm_or fD k with ⟨e1, -, -⟩ | ⟨l', p', -, h2, h3, h4, h5, h6⟩
              · rw [q1, hmk] at e1; cases e1
              · rw [q1, hmk] at h5
                cases h5
                exact ⟨p', h3, h4, h6⟩
            have l1 := fA.len l
            have l2 := fD.len l
            rw [if_pos q2, bs, r_placeOf wD RD fD hk4 (q1.trans hmk) hp' ep', bs, bs, r_placeOf wA RA fA hk4 hmk hp ep, bs]
            by_cases q3 : p' = p
            · refine ⟨true, by rw [if_pos (by rw [q3])]; rfl, fun _ => ⟨q1, q2, by rw [sp', spk, q3]⟩, fun _ => rfl⟩
            · refine ⟨false, by rw [if_neg (fun e => q3 ((nI_eq (by omega) (by omega)).mp e))]; rfl, (fun e => by cases e), fun e => ?_⟩
              have := e.2.2
              rw [sp', spk] at this
              cases this
              exact absurd rfl q3
          · exact ⟨false, by rw [if_neg q2]; rfl, (fun e => by cases e), fun e => absurd e.2.1 q2⟩
        · refine ⟨false, by rw [if_neg (fun e => q1 ((ov_eq (fun x e => by have := hm6 e; omega) (fun x e => by have := hm6 e; omega)).mp e))]; rfl, (fun e => by cases e), fun e => absurd e.1 q1⟩
      obtain ⟨b, eb, ib⟩ := key
      obtain ⟨b2, h97, i97⟩ := dn97 Sx RA RD hk4 4 FU 0 b (by omega) (by unfold FU; omega)
      have h97' : f_X9_done_97 53 (nI k) FU h (bI b) 0 = some (bI b2) := h97
      have ib2 : b2 = true ↔ saM A D k := by
        rw [i97, ib]
        unfold saM
        constructor
        · rintro ⟨⟨z1, z2, z3⟩, z4⟩
          exact ⟨z1, z2, z3, fun j hj => z4 j hj (Nat.zero_le _)⟩
        · rintro ⟨z1, z2, z3, z4⟩
          exact ⟨⟨z1, z2, z3⟩, fun j hj _ => z4 j hj⟩
      have hu : f_X9_done_2 53 (n + 1) h (nI k) = if bI b2 = 0 then some (.inl (-3, h)) else f_X9_done_2 53 n h (nI (k + 1)) := by
        conv => lhs; unfold f_X9_done_2
        rw [gi_53 Sx, bs, hT, if_neg (nI_ge (by omega) (by omega)), g_53_10 Sx, bs, r_isFrozenThing wA RA fA hk4, bs, ez, if_neg (show ¬ bI true = 0 by decide), g_53_12 Sx, bs, RD.hm wD hk4, bs, bs, RA.hm wA hk4, bs]
        rw [g_53_10 Sx, g_53_12 Sx] at eb
        rw [eb, bs, h97', bs, nI_1]
      rw [hu]
      cases e2 : b2 with
      | true =>
        rw [if_neg (by decide)]
        have hs := ib2.mp e2
        rcases ih n (k + 1) (by omega) (by omega) with ⟨e, g⟩ | ⟨e, g⟩
        · refine Or.inl ⟨e, fun t h1 h2 h3 => ?_⟩
          rcases Nat.lt_or_ge k t with q | q
          · exact g t q h2 h3
          · have : t = k := by omega
            rw [this]; exact hs
        · exact Or.inr ⟨e, g⟩
      | false =>
        rw [if_pos (show bI false = 0 from rfl)]
        refine Or.inr ⟨rfl, k, by omega, ez, fun y => ?_⟩
        rw [ib2.mpr y] at e2; cases e2
theorem InvR.of {S' : SX} (a1 : Sh h) (a2 : RbR h (tB S)) (a3 : ScR h (tC S)) (a4 : RpR h 59 0 A) (a5 : RpR h 60 0 (tP S)) (a6 : ∀ d, d < 258 → aJ h 62 d = tN S d) (a7 : WdR h (tW S)) (a8 : RgR h (tR S)) (a9 : CqR h (tQ S)) (a10 : FlR h S') (a11 : PaR h (tH S)) (e1 : tB S' = tB S) (e2 : tC S' = tC S) (e3 : tA S' = A) (e4 : tP S' = tP S) (e5 : tN S' = tN S) (e6 : tW S' = tW S) (e7 : tR S' = tR S) (e8 : tQ S' = tQ S) (e9 : tH S' = tH S) : InvR h S' := by
  unfold InvR
  rw [e1, e2, e3, e4, e5, e6, e7, e8, e9]
  exact ⟨a1, a2, a3, a4, a5, a6, a7, a8, a9, a10, a11⟩
theorem InvR.to (x : InvR h (seA S D)) : Sh h ∧ RbR h (tB S) ∧ ScR h (tC S) ∧ RpR h 59 0 D ∧ RpR h 60 0 (tP S) ∧ (∀ d, d < 258 → aJ h 62 d = tN S d) ∧ WdR h (tW S) ∧ RgR h (tR S) ∧ CqR h (tQ S) ∧ FlR h S ∧ PaR h (tH S) := x
theorem inv_gr {h' : AH} (x1 : InvR h (seA S D)) (f2 : Fg h h' (fun a i => a = 53 ∧ i = 16)) (e : aI h' 53 16 = nI (tM S + 1)) : InvR h' (grA S D) := by
  obtain ⟨a1, a2, a3, a4, a5, a6, a7, a8, a9, ⟨d1, d2, d3, d4, d5⟩, a11⟩ := x1.to
  have c1 : tO (grA S D) = tO S := rfl
  have c2 : tG (grA S D) = tG S := rfl
  have c3 : tM (grA S D) = tM S + 1 := rfl
  have c4 : tU (grA S D) = tU S := rfl
  have c5 : tF (grA S D) = tF S := rfl
  refine InvR.of (f2.S a1) (f2.B a2 (by omega) (by omega) (by omega) (by omega) (by omega)) (a3.fg f2 (by omega) (by omega) (by omega)) (f2.R a4 (by omega)) (f2.R a5 (by omega)) (fun d hd => by rw [f2.j (by omega)]; exact a6 d hd) (a7.fg f2 (by omega) (by omega)) (a8.fg f2 (by omega) (by omega)) (a9.fg f2 (by omega) (by omega) (by omega) (by omega)) ?_ (a11.fg f2 (by omega) (by omega) (by omega)) rfl rfl rfl rfl rfl rfl rfl rfl rfl
  unfold FlR
  rw [c1, c2, c3, c4, c5, f2.i (a := 53) (i := 1) (by omega), f2.i (a := 53) (i := 15) (by omega), f2.i (a := 53) (i := 30) (by omega), f2.i (a := 53) (i := 31) (by omega)]
  exact ⟨d1, d2, fun _ => e, d4, d5⟩
theorem r_done (W : WfS S) (hO : tO S = true) (x : InvR h S) (RD : RpR h 61 0 D) (fD : WfA D (bT (tB S)) (bL (tB S))) : (keC (bT (tB S)) (tA S) D ∧ f_X9_done h 53 = some (-3, h)) ∨ (¬ keC (bT (tB S)) (tA S) D ∧ ∃ h', f_X9_done h 53 = some ((stS S D).1, h') ∧ InvR h' (stS S D).2 ∧ Fg h h' QD) := by
  have Sx := x.1
  have fA : WfA (tA S) (bT (tB S)) (bL (tB S)) := W.2.2.1
  have T40 := fA.1
  have ld : ∀ l, qS D l ≤ 40 := fun l => fD.len l
  rcases dn2 Sx x.2.1.1 fA fD x.2.2.2.1 RD (bT (tB S)) FU 0 (by omega) (by unfold FU; omega) with ⟨e, g⟩ | ⟨e, g⟩
  · refine Or.inr ⟨fun ⟨t, h1, h2, h3⟩ => h3 (g t (Nat.zero_le _) h1 h2), ?_⟩
    have e' : f_X9_done_2 53 FU h 0 = some (.inr ()) := e
    obtain ⟨h1, e1, f1, r1⟩ := r_cpP Sx (a := 61) (b := 59) (Or.inr (Or.inr rfl)) (Or.inl rfl) (by decide) RD ld
    have S1 := f1.S Sx
    have x1 : InvR h1 (seA S D) := by
      obtain ⟨a1, a2, a3, a4, a5, a6, a7, a8, a9, a10, a11⟩ := x
      exact ⟨S1, f1.B a2 (by omega) (by omega) (by omega) (by omega) (by omega), a3.fg f1 (by omega) (by omega) (by omega), r1, f1.R a5 (by omega), fun d hd => by rw [f1.j (by omega)]; exact a6 d hd, a7.fg f1 (by omega) (by omega), a8.fg f1 (by omega) (by omega), a9.fg f1 (by omega) (by omega) (by omega) (by omega), FlR.fg (S := S) a10 f1 (by omega) (by omega) (by omega) (by omega) (by omega), a11.fg f1 (by omega) (by omega) (by omega)⟩
    have i15 : aI h1 53 15 = bI (tG S) := x1.2.2.2.2.2.2.2.2.2.1.2.1
    unfold f_X9_done
    rw [if_pos (k_53 Sx), e', bs]
    simp only []
    rw [g_53_12 Sx, bs, g_53_10 Sx, bs, e1, bs, gi_53 S1, bs, i15]
    cases eg : tG S with
    | true =>
      have hst : stS S D = (0, grA S D) := by unfold stS; rw [if_pos eg]
      have i16 : aI h1 53 16 = nI (tM S) := x1.2.2.2.2.2.2.2.2.2.1.2.2.1 eg
      rw [if_neg (show ¬ bI true = 0 by decide), gi_53 S1, bs, i16, nI_1, pi_53 S1, bs, hst]
      have f2 : Fg h1 (sI h1 53 16 (nI (tM S + 1))) (fun a i => a = 53 ∧ i = 16) := Fg.si ⟨rfl, rfl⟩
      refine ⟨_, rfl, ?_, (f1.mono (fun a i q => by unfold QD; omega)).tr (f2.mono (fun a i q => by unfold QD; omega))⟩
      exact inv_gr x1 f2 (by rw [sI_I, if_pos ⟨rfl, rfl⟩])
    | false =>
      obtain ⟨h2, e2, x2, f2⟩ := r_settle W hO x1 fD
      rw [if_pos (show bI false = 0 from rfl), e2, bs, st_jd eg]
      exact ⟨h2, rfl, x2, (f1.mono (fun a i q => by unfold QD; omega)).tr (f2.mono (fun a i q => by unfold QG at q; unfold QD; omega))⟩
  · refine Or.inl ⟨g, ?_⟩
    have e' : f_X9_done_2 53 FU h 0 = some (.inl (-3, h)) := e
    unfold f_X9_done
    rw [if_pos (k_53 Sx), e', bs]
theorem ref_m {m : Nat → Int32} (W : WfS S) (hO : tO S = true) (x : InvR h S) {h1 : AH} (f : Fg (sI h 53 0 0) h1 (fun a _ => a = 61)) (RD : RpR h1 61 0 D) (fD : WfA D (bT (tB S)) (bL (tB S))) {o : Except Nat Int32 × SX} (o1 : keC (bT (tB S)) (tA S) D → o = (.ok (-3), S)) (o2 : ¬ keC (bT (tB S)) (tA S) D → o = mvO S D) : RefOk m h (Option.bind (f_X9_done h1 53) fun w => match w with
    | (x19, h20) => some (x19, h20)) o := by
  have x0 := x.c0 0
  have x1 : InvR h1 S := x0.fg f (fun a i q => by unfold QO; omega)
  have i0 : aI h1 53 0 = 0 := by rw [f.i (by omega)]; exact c0_0 0
  have ff : Fg h h1 QY := (c0_fg 0).tr (f.mono (fun a i q => by unfold QY; omega))
  rcases r_done W hO x1 RD fD with ⟨q, e⟩ | ⟨q, h2, e, x2, f2⟩
  · rw [o1 q, e, bs]
    exact ⟨-3, h1, rfl, ⟨i0, rfl⟩, x1, ff⟩
  · rw [o2 q, e, bs]
    refine ⟨_, h2, rfl, ⟨?_, rfl⟩, x2, ff.tr (f2.mono (fun a i q => by unfold QD at q; unfold QY; omega))⟩
    rw [f2.i (by unfold QD; omega)]
    exact i0
theorem r_begun (x : InvR h S) (lA : ∀ l, qS (tA S) l ≤ 40) : ∃ h', f_X9_begun h 53 = some h' ∧ Fg h h' (fun a _ => a = 61) ∧ RpR h' 61 0 (tA S) ∧ RpR h' 59 0 (tA S) := by
  have Sx := x.1
  obtain ⟨h1, e1, f1, r1⟩ := r_cpP Sx (a := 59) (b := 61) (Or.inl rfl) (Or.inr (Or.inr rfl)) (by decide) x.2.2.2.1 lA
  refine ⟨h1, ?_, f1, r1, f1.R x.2.2.2.1 (by omega)⟩
  unfold f_X9_begun
  rw [if_pos (k_53 Sx), g_53_10 Sx, bs, g_53_12 Sx, bs, e1, bs]
end RDone
