/-! THE OTHER ONE: thing, list, step, maker -/
def mMk (k : Nat) : Int32 := if k = 0 then 1 else 2
theorem i4z (t : Nat) : (0 : Int32) + 4 * nI t = nI (4 * t) := by
  rw [show (4 : Int32) = nI 4 from rfl, pk_mul, show (0 : Int32) = nI 0 from rfl, nI_add, Nat.zero_add]
theorem i160z (t : Nat) : (160 : Int32) + 2 * nI t = nI (160 + 2 * t) := by
  rw [show (2 : Int32) = nI 2 from rfl, pk_mul, show (160 : Int32) = nI 160 from rfl, nI_add]
section RBook
variable {h : AH} {S : SX}
theorem InvR.t2 (x : InvR h S) : aI h 53 2 = nI (bT (tB S)) := x.2.1.1
theorem InvR.l3 (x : InvR h S) : aI h 53 3 = nI (bL (tB S)) := x.2.1.2.1
theorem r_thingC (W : WfS S) (x : InvR h S) (a b c d : Int32) : RefOk mZ h (f_X9_thing h 53 a b c d) (oThing S a b c d) := by
  have Sx := x.1
  have x0 := x.c0 0
  have S0 := x0.1
  have hT := W.1.1
  unfold f_X9_thing oThing
  rw [if_pos (k_53 Sx), pi_53 Sx, bs, gi_53 S0, bs, x0.f1]
  cases eo : tO S with
  | true => rw [if_pos (show bI (!true) = 0 from rfl), if_pos (Or.inl rfl)]; exact ref_e x 0 1 rfl
  | false =>
    rw [if_neg (show ¬ bI (!false) = 0 by decide), gi_53 S0, bs, x0.t2]
    by_cases q : bT (tB S) = 40
    · rw [if_pos (show nI (bT (tB S)) = 40 by rw [q]; rfl), if_pos (Or.inr q)]; exact ref_e x 0 1 rfl
    have hz := (W.2.2.2.2.2.2.2.1 eo).1
    obtain ⟨t, et⟩ : ∃ z, z = bT (tB S) := ⟨_, rfl⟩
    rw [if_neg (show ¬ nI (bT (tB S)) = 40 from fun e => q ((nI_eq (b := 40) (by omega) (by decide)).mp e)), if_neg (fun y => y.elim (fun y => by cases y) q)]
    have y1 := x0.f1
    have y2 := x0.t2
    have y15 := x0.f15
    have y16 := x0.f16
    have y30 := x0.f30
    have y31 := x0.f31
    obtain ⟨-, a2, a3, a4, a5, a6, a7, a8, a9, -, a11⟩ := x0
    rw [← et] at y2 ⊢
    have ht : t < 40 := by omega
    have F : ∀ {g : AH} (i : Nat) (v : Int32), Fg g (sI g 59 i v) (fun a _ => a = 59) := fun i v => Fg.si rfl
    obtain ⟨h1, eh1⟩ : ∃ z, z = sI (sI h 53 0 0) 59 (4 * t) a := ⟨_, rfl⟩
    obtain ⟨h2, eh2⟩ : ∃ z, z = sI h1 59 (4 * t + 1) b := ⟨_, rfl⟩
    obtain ⟨h3, eh3⟩ : ∃ z, z = sI h2 59 (4 * t + 2) c := ⟨_, rfl⟩
    obtain ⟨h4, eh4⟩ : ∃ z, z = sI h3 59 (4 * t + 3) d := ⟨_, rfl⟩
    obtain ⟨h5, eh5⟩ : ∃ z, z = sI h4 53 2 (nI (t + 1)) := ⟨_, rfl⟩
    have f1 : Fg (sI h 53 0 0) h1 (fun a _ => a = 59) := by rw [eh1]; exact F _ _
    have f2 : Fg h1 h2 (fun a _ => a = 59) := by rw [eh2]; exact F _ _
    have f3 : Fg h2 h3 (fun a _ => a = 59) := by rw [eh3]; exact F _ _
    have f4 : Fg h3 h4 (fun a _ => a = 59) := by rw [eh4]; exact F _ _
    have f5 : Fg h4 h5 (fun a i => a = 53 ∧ i = 2) := by rw [eh5]; exact Fg.si ⟨rfl, rfl⟩
    have S1 := f1.S S0
    have S2 := f2.S S1
    have S3 := f3.S S2
    have S4 := f4.S S3
    have S5 := f5.S S4
    have r4 : RpR h4 59 0 (s4A (tA S) t a b c d) := by
      rw [eh4, eh3, eh2, eh1]
      exact rp_F (rp_F (rp_F (rp_F a4 (by omega) a) (by omega) b) (by omega) c) (by omega) d
    have r5 := f5.R r4 (by omega)
    have lA : ∀ l, qS (s4A (tA S) t a b c d) l ≤ 40 := fun l => W.2.2.1.len l
    obtain ⟨h6, e6, f6, r6⟩ := r_cpP S5 (a := 59) (b := 60) (Or.inl rfl) (Or.inr (Or.inl rfl)) (by decide) r5 lA
    have S6 := f6.S S5
    have i1 : aI h1 53 2 = nI t := by rw [f1.i (by omega)]; exact y2
    have i2 : aI h2 53 2 = nI t := by rw [f2.i (by omega)]; exact i1
    have i3 : aI h3 53 2 = nI t := by rw [f3.i (by omega)]; exact i2
    have i4 : aI h4 53 2 = nI t := by rw [f4.i (by omega)]; exact i3
    have i6 : aI h6 53 2 = nI (t + 1) := by rw [f6.i (by omega), eh5, sI_I, if_pos ⟨rfl, rfl⟩]
    have FF : Fg (sI h 53 0 0) h6 (fun a i => a = 59 ∨ a = 60 ∨ (a = 53 ∧ i = 2)) := ((((f1.mono (fun a i q => by omega)).tr (f2.mono (fun a i q => by omega))).tr (f3.mono (fun a i q => by omega))).tr (f4.mono (fun a i q => by omega))).tr ((f5.mono (fun a i q => by omega)).tr (f6.mono (fun a i q => by omega)))
    rw [g_53_10 S0, bs, bs, i4z, st_59 S0 (by omega), bs, ← eh1, g_53_10 S1, bs, gi_53 S1, bs, i1, i4z, nI_1, st_59 S1 (by omega), bs, ← eh2, g_53_10 S2, bs, gi_53 S2, bs, i2, i4z, show (2 : Int32) = nI 2 from rfl, nI_add, st_59 S2 (by omega), bs, ← eh3, g_53_10 S3, bs, gi_53 S3, bs, i3, i4z, show (3 : Int32) = nI 3 from rfl, nI_add, st_59 S3 (by omega), bs, ← eh4, gi_53 S4, bs, i4, nI_1, pi_53 S4, bs, ← eh5, g_53_10 S5, bs, g_53_11 S5, bs, e6, bs, gi_53 S6, bs, i6, show nI (t + 1) - 1 = nI t from nI_pred t]
    refine ⟨_, h6, rfl, ⟨?_, rfl⟩, InvR.mk S6 (B := buT (tB S)) ⟨?_, ?_, fun k hk => ?_, fun k s hk hs => ?_⟩ (a3.fg FF (by omega) (by omega) (by omega)) (f6.R r5 (by omega)) r6 (fun d hd => by rw [FF.j (by omega)]; exact a6 d hd) (a7.fg FF (by omega) (by omega)) (a8.fg FF (by omega) (by omega)) (a9.fg FF (by omega) (by omega) (by omega) (by omega)) (FlR.mk (o := tO S) (g := tG S) (m := tM S) (u := tU S) (f := tF S) ?_ ?_ (fun q => ?_) ?_ ?_ rfl rfl rfl rfl rfl) (a11.fg FF (by omega) (by omega) (by omega)) rfl rfl rfl (by rw [hz]; rfl) rfl rfl rfl rfl rfl, (c0_fg 0).tr (FF.mono (fun a i q => by unfold QY; omega))⟩
    · rw [FF.i (by omega)]; exact c0_0 0
    · rw [i6, et]; rfl
    · rw [FF.i (by omega)]; exact a2.2.1
    · rw [FF.i (by omega)]; exact a2.2.2.1 k hk
    · rw [FF.i (by omega), FF.i (by omega)]; exact a2.2.2.2 k s hk hs
    · rw [FF.i (by omega)]; exact y1
    · rw [FF.i (by omega)]; exact y15
    · rw [FF.i (by omega)]; exact y16 q
    · rw [FF.i (by omega)]; exact y30
    · rw [FF.i (by omega)]; exact y31
theorem r_listC (W : WfS S) (x : InvR h S) (a b : Int32) : RefOk mZ h (f_X9_list h 53 a b) (oList S a b) := by
  have Sx := x.1
  have x0 := x.c0 0
  have S0 := x0.1
  have hT := W.1.2.1
  unfold f_X9_list oList
  rw [if_pos (k_53 Sx), pi_53 Sx, bs, gi_53 S0, bs, x0.f1]
  cases eo : tO S with
  | true => rw [if_pos (show bI (!true) = 0 from rfl), if_pos (Or.inl rfl)]; exact ref_e x 0 1 rfl
  | false =>
    rw [if_neg (show ¬ bI (!false) = 0 by decide), gi_53 S0, bs, x0.l3]
    by_cases q : bL (tB S) = 6
    · rw [if_pos (show nI (bL (tB S)) = 6 by rw [q]; rfl), if_pos (Or.inr q)]; exact ref_e x 0 1 rfl
    have hz := (W.2.2.2.2.2.2.2.1 eo).1
    obtain ⟨t, et⟩ : ∃ z, z = bL (tB S) := ⟨_, rfl⟩
    rw [if_neg (show ¬ nI (bL (tB S)) = 6 from fun e => q ((nI_eq (b := 6) (by omega) (by decide)).mp e)), if_neg (fun y => y.elim (fun y => by cases y) q)]
    have y1 := x0.f1
    have y2 := x0.l3
    have y15 := x0.f15
    have y16 := x0.f16
    have y30 := x0.f30
    have y31 := x0.f31
    obtain ⟨-, a2, a3, a4, a5, a6, a7, a8, a9, -, a11⟩ := x0
    rw [← et] at y2 ⊢
    have ht : t < 6 := by omega
    have F : ∀ {g : AH} (i : Nat) (v : Int32), Fg g (sI g 59 i v) (fun a _ => a = 59) := fun i v => Fg.si rfl
    obtain ⟨h1, eh1⟩ : ∃ z, z = sI (sI h 53 0 0) 59 (160 + 2 * t) a := ⟨_, rfl⟩
    obtain ⟨h2, eh2⟩ : ∃ z, z = sI h1 59 (160 + (2 * t + 1)) b := ⟨_, rfl⟩
    obtain ⟨h5, eh5⟩ : ∃ z, z = sI h2 53 3 (nI (t + 1)) := ⟨_, rfl⟩
    have f1 : Fg (sI h 53 0 0) h1 (fun a _ => a = 59) := by rw [eh1]; exact F _ _
    have f2 : Fg h1 h2 (fun a _ => a = 59) := by rw [eh2]; exact F _ _
    have f5 : Fg h2 h5 (fun a i => a = 53 ∧ i = 3) := by rw [eh5]; exact Fg.si ⟨rfl, rfl⟩
    have S1 := f1.S S0
    have S2 := f2.S S1
    have S5 := f5.S S2
    have r4 : RpR h2 59 0 (s2A (tA S) t a b) := by
      rw [eh2, eh1]
      exact rp_L (rp_L a4 (by omega) a) (by omega) b
    have r5 := f5.R r4 (by omega)
    have lA : ∀ l, qS (s2A (tA S) t a b) l ≤ 40 := fun l => W.2.2.1.len l
    obtain ⟨h6, e6, f6, r6⟩ := r_cpP S5 (a := 59) (b := 60) (Or.inl rfl) (Or.inr (Or.inl rfl)) (by decide) r5 lA
    have S6 := f6.S S5
    have i1 : aI h1 53 3 = nI t := by rw [f1.i (by omega)]; exact y2
    have i2 : aI h2 53 3 = nI t := by rw [f2.i (by omega)]; exact i1
    have i6 : aI h6 53 3 = nI (t + 1) := by rw [f6.i (by omega), eh5, sI_I, if_pos ⟨rfl, rfl⟩]
    have FF : Fg (sI h 53 0 0) h6 (fun a i => a = 59 ∨ a = 60 ∨ (a = 53 ∧ i = 3)) := ((f1.mono (fun a i q => by omega)).tr (f2.mono (fun a i q => by omega))).tr ((f5.mono (fun a i q => by omega)).tr (f6.mono (fun a i q => by omega)))
    rw [g_53_10 S0, bs, bs, i160z, st_59 S0 (by omega), bs, ← eh1, g_53_10 S1, bs, gi_53 S1, bs, i1, i160z, nI_1, st_59 S1 (by omega), bs, show 160 + 2 * t + 1 = 160 + (2 * t + 1) by omega, ← eh2, gi_53 S2, bs, i2, nI_1, pi_53 S2, bs, ← eh5, g_53_10 S5, bs, g_53_11 S5, bs, e6, bs, gi_53 S6, bs, i6, show nI (t + 1) - 1 = nI t from nI_pred t]
    refine ⟨_, h6, rfl, ⟨?_, rfl⟩, InvR.mk S6 (B := buL (tB S)) ⟨?_, ?_, fun k hk => ?_, fun k s hk hs => ?_⟩ (a3.fg FF (by omega) (by omega) (by omega)) (f6.R r5 (by omega)) r6 (fun d hd => by rw [FF.j (by omega)]; exact a6 d hd) (a7.fg FF (by omega) (by omega)) (a8.fg FF (by omega) (by omega)) (a9.fg FF (by omega) (by omega) (by omega) (by omega)) (FlR.mk (o := tO S) (g := tG S) (m := tM S) (u := tU S) (f := tF S) ?_ ?_ (fun q => ?_) ?_ ?_ rfl rfl rfl rfl rfl) (a11.fg FF (by omega) (by omega) (by omega)) rfl rfl rfl (by rw [hz]; rfl) rfl rfl rfl rfl rfl, (c0_fg 0).tr (FF.mono (fun a i q => by unfold QY; omega))⟩
    · rw [FF.i (by omega)]; exact c0_0 0
    · rw [FF.i (by omega)]; exact a2.1
    · rw [i6, et]; rfl
    · rw [FF.i (by omega)]; exact a2.2.2.1 k hk
    · rw [FF.i (by omega), FF.i (by omega)]; exact a2.2.2.2 k s hk hs
    · rw [FF.i (by omega)]; exact y1
    · rw [FF.i (by omega)]; exact y15
    · rw [FF.i (by omega)]; exact y16 q
    · rw [FF.i (by omega)]; exact y30
    · rw [FF.i (by omega)]; exact y31
theorem r_stepC (W : WfS S) (x : InvR h S) (c v : Int32) : RefOk mZ h (f_X9_step h 53 c v) (oStep S c v) := by
  have Sx := x.1
  have x0 := x.c0 0
  have S0 := x0.1
  have hC := W.2.1
  unfold f_X9_step oStep
  rw [if_pos (k_53 Sx), pi_53 Sx, bs, gi_53 S0, bs, x0.f1]
  cases eo : tO S with
  | true => rw [if_pos (show bI (!true) = 0 from rfl), if_pos (Or.inl rfl)]; exact ref_e x 0 1 rfl
  | false =>
    have y4 : aI (sI h 53 0 0) 53 4 = nI (tC S).length := x0.2.2.1.1
    rw [if_neg (show ¬ bI (!false) = 0 by decide), gi_53 S0, bs, y4]
    by_cases q : (tC S).length = 24
    · rw [if_pos (show nI (tC S).length = 24 by rw [q]; rfl), if_pos (Or.inr q)]; exact ref_e x 0 1 rfl
    rw [if_neg (show ¬ nI (tC S).length = 24 from fun e => q ((nI_eq (b := 24) (by omega) (by decide)).mp e)), if_neg (fun y => y.elim (fun y => by cases y) q)]
    have y1 := x0.f1
    have y15 := x0.f15
    have y16 := x0.f16
    have y30 := x0.f30
    have y31 := x0.f31
    obtain ⟨-, a2, a3, a4, a5, a6, a7, a8, a9, -, a11⟩ := x0
    obtain ⟨n, en⟩ : ∃ z, z = (tC S).length := ⟨_, rfl⟩
    obtain ⟨h1, eh1⟩ : ∃ z, z = sI (sI h 53 0 0) 54 (tC S).length c := ⟨_, rfl⟩
    obtain ⟨h2, eh2⟩ : ∃ z, z = sI h1 55 (tC S).length v := ⟨_, rfl⟩
    obtain ⟨h3, eh3⟩ : ∃ z, z = sI h2 53 4 (nI ((tC S).length + 1)) := ⟨_, rfl⟩
    have f1 : Fg (sI h 53 0 0) h1 (fun a i => a = 54 ∧ i = (tC S).length) := by rw [eh1]; exact Fg.si ⟨rfl, rfl⟩
    have f2 : Fg h1 h2 (fun a i => a = 55 ∧ i = (tC S).length) := by rw [eh2]; exact Fg.si ⟨rfl, rfl⟩
    have f3 : Fg h2 h3 (fun a i => a = 53 ∧ i = 4) := by rw [eh3]; exact Fg.si ⟨rfl, rfl⟩
    have S1 := f1.S S0
    have S2 := f2.S S1
    have S3 := f3.S S2
    have i1 : aI h1 53 4 = nI (tC S).length := by rw [f1.i (by omega)]; exact y4
    have i2 : aI h2 53 4 = nI (tC S).length := by rw [f2.i (by omega)]; exact i1
    have i3 : aI h3 53 4 = nI ((tC S).length + 1) := by rw [eh3, sI_I, if_pos ⟨rfl, rfl⟩]
    have FF : Fg (sI h 53 0 0) h3 (fun a i => (a = 54 ∧ i = (tC S).length) ∨ (a = 55 ∧ i = (tC S).length) ∨ (a = 53 ∧ i = 4)) := ((f1.mono (fun a i q => by omega)).tr (f2.mono (fun a i q => by omega))).tr (f3.mono (fun a i q => by omega))
    rw [g_53_5 S0, bs, bs, st_54 S0 (by omega), bs, ← eh1, g_53_6 S1, bs, gi_53 S1, bs, i1, st_55 S1 (by omega), bs, ← eh2, gi_53 S2, bs, i2, nI_1, pi_53 S2, bs, ← eh3, gi_53 S3, bs, i3]
    refine ⟨_, h3, rfl, ⟨?_, rfl⟩, InvR.mk S3 (FF.B a2 (by omega) (by omega) (by omega) (by omega) (by omega)) (C := tC S ++ [(c, v)]) ⟨?_, by rw [List.length_append]; simp; omega, fun i hi => ?_⟩ (FF.R a4 (by omega)) (FF.R a5 (by omega)) (fun d hd => by rw [FF.j (by omega)]; exact a6 d hd) (a7.fg FF (by omega) (by omega)) (a8.fg FF (by omega) (by omega)) (a9.fg FF (by omega) (by omega) (by omega) (by omega)) (FlR.mk (o := tO S) (g := tG S) (m := tM S) (u := tU S) (f := tF S) ?_ ?_ (fun q => ?_) ?_ ?_ rfl rfl rfl rfl rfl) (a11.fg FF (by omega) (by omega) (by omega)) rfl rfl rfl rfl rfl rfl rfl rfl rfl, (c0_fg 0).tr (FF.mono (fun a i q => by unfold QY; omega))⟩
    · rw [FF.i (by omega)]; exact c0_0 0
    · rw [i3, List.length_append]; rfl
    · rw [List.length_append] at hi
      by_cases qi : i = (tC S).length
      · subst qi
        rw [f3.i (by omega), f3.i (by omega), f2.i (by omega), eh2, sI_I, if_pos ⟨rfl, rfl⟩, eh1, sI_I, if_pos ⟨rfl, rfl⟩]
        simp
      · have hi' : i < (tC S).length := by simp at hi; omega
        rw [FF.i (by omega), FF.i (by omega), List.getElem_append_left hi']
        exact a3.2.2 i hi'
    · rw [FF.i (by omega)]; exact y1
    · rw [FF.i (by omega)]; exact y15
    · rw [FF.i (by omega)]; exact y16 q
    · rw [FF.i (by omega)]; exact y30
    · rw [FF.i (by omega)]; exact y31
theorem takes_n (h : AH) {k : Nat} (hk : k < 25) : f_X9_takes h (nI k) = some (nI (tkN k)) := (show ∀ k, k < 25 → f_X9_takes h00 (nI k) = some (nI (tkN k)) by decide +kernel) k hk
theorem gives_n (h : AH) {k : Nat} (hk : k < 25) : f_X9_gives h (nI k) = some (nI (gvN k)) := (show ∀ k, k < 25 → f_X9_gives h00 (nI k) = some (nI (gvN k)) by decide +kernel) k hk
theorem mk49 (Sx : Sh h) {C : List (Int32 × Int32)} (x : ∀ i (hi : i < C.length), aI h 54 i = C[i].1 ∧ aI h 55 i = C[i].2) (hC : C.length ≤ 24) {k : Nat} (hk : k < 9) : ∀ (r : List (Int32 × Int32)) (n s d : Nat), C.drop s = r → s ≤ C.length → r.length < n → d ≤ 8 →
    (∃ d', d' ≤ 8 ∧ f_X9_maker_49 53 (nI k) (nI C.length) n h (nI d) (nI s) = some (.inr (nI d')) ∧ flG (decide (k < 6)) C r s d = (if d' = 1 then 0 else -1 - nI C.length)) ∨ (f_X9_maker_49 53 (nI k) (nI C.length) n h (nI d) (nI s) = some (.inl (flG (decide (k < 6)) C r s d, h)) ∧ flG (decide (k < 6)) C r s d ≠ 0) := by
  intro r
  induction r with
  | nil =>
    intro n s d hr hs hn hd
    obtain ⟨n, rfl⟩ : ∃ j, n = j + 1 := ⟨n - 1, by omega⟩
    have hl : C.length ≤ s := List.drop_eq_nil_iff.mp hr
    refine Or.inl ⟨d, hd, ?_, rfl⟩
    unfold f_X9_maker_49
    rw [if_pos (nI_le hl (by omega))]
  | cons cv r ih =>
    intro n s d hr hs hn hd
    obtain ⟨n, rfl⟩ : ∃ j, n = j + 1 := ⟨n - 1, by omega⟩
    obtain ⟨c, v⟩ := cv
    rw [List.length_cons] at hn
    have hl : s < C.length := by
      rcases Nat.lt_or_ge s C.length with q | q
      · exact q
      · rw [List.drop_eq_nil_of_le q] at hr; cases hr
    have h2 := List.drop_eq_getElem_cons hl
    rw [hr] at h2
    have e1 : C[s] = (c, v) := (List.cons.inj h2).1.symm
    have e2 : C.drop (s + 1) = r := (List.cons.inj h2).2.symm
    have l5 : aI h 54 s = c := by rw [(x s hl).1, e1]
    have l6 : aI h 55 s = v := by rw [(x s hl).2, e1]
    have tk : (if 5 < nI k then some (0 : Int32) else some 1) = some (bI (decide (k < 6))) := by
      by_cases q : k < 6
      · rw [if_neg (show ¬ (5 : Int32) < nI k from nI_nlt (a := 5) (by omega) (by decide)), decide_eq_true q]; rfl
      · rw [if_pos (show (5 : Int32) < nI k from nI_lt (a := 5) (by omega) (by omega)), decide_eq_false q]; rfl
    have hu : f_X9_maker_49 53 (nI k) (nI C.length) (n + 1) h (nI d) (nI s) = if bI (isB (decide (k < 6)) c v) = 0 then some (.inl (-1 - nI s, h)) else Option.bind (f_X9_takes h c) fun x14 => if nI d < x14 then some (.inl (-1 - nI s, h)) else Option.bind (f_X9_takes h c) fun x16 => Option.bind (f_X9_gives h c) fun x18 => if (nI d - x16) + x18 ≤ 8 then Option.bind (f_X9_gives h c) fun x20 => Option.bind (f_X9_takes h c) fun x22 => f_X9_maker_49 53 (nI k) (nI C.length) n h (nI d + (x20 - x22)) (nI (s + 1)) else some (.inl (-1 - nI s, h)) := by
      conv => lhs; unfold f_X9_maker_49
      rw [if_neg (nI_ge hl (by omega)), g_53_5 Sx, bs, ld_54 Sx (by omega), bs, l5, g_53_6 Sx, bs, ld_55 Sx (by omega), bs, l6, tk, bs, qr_isStep, bs, nI_1]
    rw [hu]
    show (∃ d', d' ≤ 8 ∧ _ ∧ (if isB (decide (k < 6)) c v = true ∧ tkV c ≤ d ∧ d - tkV c + gvV c ≤ 8 then flG (decide (k < 6)) C r (s + 1) (d - tkV c + gvV c) else -1 - nI s) = _) ∨ (_ = some (Sum.inl ((if isB (decide (k < 6)) c v = true ∧ tkV c ≤ d ∧ d - tkV c + gvV c ≤ 8 then flG (decide (k < 6)) C r (s + 1) (d - tkV c + gvV c) else -1 - nI s), h)) ∧ (if isB (decide (k < 6)) c v = true ∧ tkV c ≤ d ∧ d - tkV c + gvV c ≤ 8 then flG (decide (k < 6)) C r (s + 1) (d - tkV c + gvV c) else -1 - nI s) ≠ 0)
    have ms := m1s s (by omega)
    cases eb : isB (decide (k < 6)) c v with
    | false =>
      rw [if_pos (by decide), if_neg (fun q => by cases q.1)]
      exact Or.inr ⟨rfl, ms⟩
    | true =>
      obtain ⟨o1, o2⟩ := is_ok eb
      have h25 := o2.c
      have t3 := tk3 c.toNatClampNeg
      have g2 := gv2 h25
      have ht : f_X9_takes h c = some (nI (tkV c)) := by rw [o1]; unfold tkV; rw [takes_n h h25, nI_clamp (by omega)]
      have hg : f_X9_gives h c = some (nI (gvV c)) := by rw [o1]; unfold gvV; rw [gives_n h h25, nI_clamp (by omega)]
      rw [if_neg (by decide), ht, hg, bs]
      have t3' : tkV c ≤ 3 := t3
      have g2' : gvV c ≤ 2 := g2
      by_cases q1 : tkV c ≤ d
      · rw [if_neg (nI_nlt q1 (by omega)), bs, bs, nI_min q1, nI_add]
        by_cases q2 : d - tkV c + gvV c ≤ 8
        · rw [if_pos (show nI (d - tkV c + gvV c) ≤ 8 from nI_le (b := 8) q2 (by decide)), bs, bs, if_pos ⟨rfl, q1, q2⟩, dgt d (by omega) _ (by omega) _ (by omega) q1]
          exact ih n (s + 1) (d - tkV c + gvV c) e2 (by omega) (by omega) q2
        · rw [if_neg (show ¬ nI (d - tkV c + gvV c) ≤ 8 from nI_ge (a := 8) (by omega) (by omega)), if_neg (fun q => q2 q.2.2)]
          exact Or.inr ⟨rfl, ms⟩
      · rw [if_pos (nI_lt (by omega) (by omega)), if_neg (fun q => q1 q.2.1)]
        exact Or.inr ⟨rfl, ms⟩
theorem mk160 {k L : Nat} (hk : k < 9) (hL : L ≤ 24) : ∀ (m n : Nat) (h : AH) (s : Nat), s + m = L → m < n → Sh h →
    ∃ h', f_X9_maker_160 53 (nI k) (nI L) n h (nI s) = some h' ∧ Fg h h' (fun a i => (a = 57 ∨ a = 58) ∧ 24 * k + s ≤ i ∧ i < 24 * k + L) ∧ ∀ j, s ≤ j → j < L → aI h' 57 (24 * k + j) = aI h 54 j ∧ aI h' 58 (24 * k + j) = aI h 55 j := by
  intro m
  induction m with
  | zero =>
    intro n h s hs hn S
    obtain ⟨n, rfl⟩ : ∃ j, n = j + 1 := ⟨n - 1, by omega⟩
    refine ⟨h, ?_, Fg.rf _ _, fun j h1 h2 => by omega⟩
    unfold f_X9_maker_160
    rw [if_pos (nI_le (by omega) (by omega))]
  | succ m ih =>
    intro n h s hs hn S
    obtain ⟨n, rfl⟩ : ∃ j, n = j + 1 := ⟨n - 1, by omega⟩
    obtain ⟨h1, eh1⟩ : ∃ z, z = sI h 57 (24 * k + s) (aI h 54 s) := ⟨_, rfl⟩
    have f1 : Fg h h1 (fun a i => a = 57 ∧ i = 24 * k + s) := by rw [eh1]; exact Fg.si ⟨rfl, rfl⟩
    have S1 := f1.S S
    obtain ⟨h2, eh2⟩ : ∃ z, z = sI h1 58 (24 * k + s) (aI h1 55 s) := ⟨_, rfl⟩
    have f2 : Fg h1 h2 (fun a i => a = 58 ∧ i = 24 * k + s) := by rw [eh2]; exact Fg.si ⟨rfl, rfl⟩
    have S2 := f2.S S1
    obtain ⟨h3, e3, f3, g3⟩ := ih n h2 (s + 1) (by omega) (by omega) S2
    refine ⟨h3, ?_, ((f1.mono (fun a j q => by omega)).tr (f2.mono (fun a j q => by omega))).tr (f3.mono (fun a j q => by omega)), fun j h1 h4 => ?_⟩
    · unfold f_X9_maker_160
      rw [if_neg (nI_ge (by omega) (by omega)), g_53_8 S, bs, g_53_5 S, bs, ld_54 S (by omega), bs, m24, st_57 S (by omega), bs, ← eh1, g_53_9 S1, bs, g_53_6 S1, bs, ld_55 S1 (by omega), bs, st_58 S1 (by omega), bs, ← eh2, nI_1, e3]
    · by_cases q : j = s
      · refine ⟨?_, ?_⟩
        · rw [q, f3.i (by omega), f2.i (by omega), eh1, sI_I, if_pos ⟨rfl, rfl⟩]
        · rw [q, f3.i (by omega), eh2, sI_I, if_pos ⟨rfl, rfl⟩, f1.i (by omega)]
      · obtain ⟨z1, z2⟩ := g3 j (by omega) h4
        rw [z1, z2, f2.i (by omega), f2.i (by omega), f1.i (by omega), f1.i (by omega)]
        exact ⟨rfl, rfl⟩
theorem r_maker (W : WfS S) (x : InvR h S) (k : Int32) : RefOk mMk h (f_X9_maker h 53 k) (oMaker S k) := by
  have Sx := x.1
  have x0 := x.c0 0
  have S0 := x0.1
  have hC := W.2.1
  unfold f_X9_maker oMaker
  rw [if_pos (k_53 Sx), pi_53 Sx, bs, gi_53 S0, bs, x0.f1]
  cases eo : tO S with
  | true => rw [if_pos (show bI (!true) = 0 from rfl), if_pos rfl]; exact ref_e x 0 1 rfl
  | false =>
    rw [if_neg (show ¬ bI (!false) = 0 by decide), if_neg (show ¬ false = true by decide)]
    rcases dc_le k (n := 8) (by decide) with ⟨e5, q | ⟨q1, q2⟩⟩ | ⟨j, hj, e6, e5, q1, q2⟩
    · have e5' : dcN k 9 = none := e5
      rw [e5', if_pos q]; exact ref_e x 1 2 rfl
    · have e5' : dcN k 9 = none := e5
      rw [e5', if_neg q1, if_neg (show ¬ k ≤ 8 from q2)]; exact ref_e x 1 2 rfl
    have e5' : dcN k 9 = some j := e5
    have y4 : aI (sI h 53 0 0) 53 4 = nI (tC S).length := x0.2.2.1.1
    have y1 := x0.f1
    have y15 := x0.f15
    have y16 := x0.f16
    have y30 := x0.f30
    have y31 := x0.f31
    obtain ⟨-, a2, a3, a4, a5, a6, a7, a8, a9, -, a11⟩ := x0
    obtain ⟨h1, eh1⟩ : ∃ z, z = sI (sI h 53 0 0) 53 4 0 := ⟨_, rfl⟩
    have f1 : Fg (sI h 53 0 0) h1 (fun a i => a = 53 ∧ i = 4) := by rw [eh1]; exact Fg.si ⟨rfl, rfl⟩
    have S1 := f1.S S0
    have cl : ∀ i (hi : i < (tC S).length), aI h1 54 i = (tC S)[i].1 ∧ aI h1 55 i = (tC S)[i].2 := fun i hi => by
      rw [f1.i (by omega), f1.i (by omega)]; exact a3.2.2 i hi
    have z4 : aI h1 53 4 = 0 := by rw [eh1, sI_I, if_pos ⟨rfl, rfl⟩]
    have fault : ∀ f : Int32, RefOk mMk h (some (f, h1)) (.ok f, seB S (tB S) [] (tA S) (tP S)) := fun f => by
      refine ⟨_, h1, rfl, ⟨?_, rfl⟩, InvR.mk S1 (f1.B a2 (by omega) (by omega) (by omega) (by omega) (by omega)) (C := []) ⟨z4, by decide, fun i hi => absurd hi (by simp)⟩ (f1.R a4 (by omega)) (f1.R a5 (by omega)) (fun d hd => by rw [f1.j (by omega)]; exact a6 d hd) (a7.fg f1 (by omega) (by omega)) (a8.fg f1 (by omega) (by omega)) (a9.fg f1 (by omega) (by omega) (by omega) (by omega)) (FlR.mk (o := tO S) (g := tG S) (m := tM S) (u := tU S) (f := tF S) ?_ ?_ (fun q => ?_) ?_ ?_ rfl rfl rfl rfl rfl) (a11.fg f1 (by omega) (by omega) (by omega)) rfl rfl rfl rfl rfl rfl rfl rfl rfl, (c0_fg 0).tr (f1.mono (fun a i q => by unfold QY; omega))⟩
      · rw [f1.i (by omega)]; exact c0_0 0
      · rw [f1.i (by omega)]; exact y1
      · rw [f1.i (by omega)]; exact y15
      · rw [f1.i (by omega)]; exact y16 q
      · rw [f1.i (by omega)]; exact y30
      · rw [f1.i (by omega)]; exact y31
    rw [e5', if_neg q1, if_pos (show k ≤ 8 from q2), gi_53 S0, bs, y4, pi_53 S0, bs, ← eh1, e6]
    simp only []
    have m1 := mk49 S1 cl hC (show j < 9 by omega) (tC S) FU 0 0 rfl (by omega) (by unfold FU; omega) (by omega)
    rcases m1 with ⟨d', h8, e1, e2⟩ | ⟨e1, e2⟩
    · have e1' : f_X9_maker_49 53 (nI j) (nI (tC S).length) FU h1 0 0 = some (.inr (nI d')) := e1
      rw [e1', bs]
      simp only []
      by_cases q : d' = 1
      · rw [if_pos q] at e2
        rw [if_pos (show nI d' = 1 by rw [q]; rfl), if_pos e2]
        obtain ⟨g1, g2⟩ := fl_ok hC (tC S) 0 0 rfl (by omega) rfl e2
        obtain ⟨h2, eh2⟩ : ∃ z, z = sI h1 56 j (nI (tC S).length) := ⟨_, rfl⟩
        have f2 : Fg h1 h2 (fun a i => a = 56 ∧ i = j) := by rw [eh2]; exact Fg.si ⟨rfl, rfl⟩
        have S2 := f2.S S1
        obtain ⟨h3, e3, f3, g3⟩ := mk160 (k := j) (L := (tC S).length) (by omega) hC (tC S).length FU h2 0 (by omega) (by unfold FU; omega) S2
        have e3' : f_X9_maker_160 53 (nI j) (nI (tC S).length) FU h2 0 = some h3 := e3
        have FF : Fg (sI h 53 0 0) h3 (fun a i => (a = 53 ∧ i = 4) ∨ (a = 56 ∧ i = j) ∨ ((a = 57 ∨ a = 58) ∧ 24 * j ≤ i ∧ i < 24 * j + (tC S).length)) := ((f1.mono (fun a i q => by omega)).tr (f2.mono (fun a i q => by omega))).tr (f3.mono (fun a i q => by omega))
        rw [g_53_7 S1, bs, st_56 S1 (by omega), bs, ← eh2, e3', bs]
        refine ⟨_, h3, rfl, ⟨?_, rfl⟩, InvR.mk (f3.S S2) (B := mkB (tB S) j (tC S)) ⟨?_, ?_, fun a ha => ?_, fun a s ha hs => ?_⟩ (C := []) ⟨?_, by decide, fun i hi => absurd hi (by simp)⟩ (FF.R a4 (by omega)) (FF.R a5 (by omega)) (fun d hd => by rw [FF.j (by omega)]; exact a6 d hd) (a7.fg FF (by omega) (by omega)) (a8.fg FF (by omega) (by omega)) (a9.fg FF (by omega) (by omega) (by omega) (by omega)) (FlR.mk (o := tO S) (g := tG S) (m := tM S) (u := tU S) (f := tF S) ?_ ?_ (fun q => ?_) ?_ ?_ rfl rfl rfl rfl rfl) (a11.fg FF (by omega) (by omega) (by omega)) rfl rfl rfl rfl rfl rfl rfl rfl rfl, (c0_fg 0).tr (FF.mono (fun a i q => by unfold QY; omega))⟩
        · rw [FF.i (by omega)]; exact c0_0 0
        · rw [FF.i (by omega)]; exact a2.1
        · rw [FF.i (by omega)]; exact a2.2.1
        · show _ = nI (if a = j then (tC S).length else bN (tB S) a)
          by_cases qa : a = j
          · rw [if_pos qa, f3.i (by omega), eh2, sI_I, if_pos ⟨rfl, qa⟩]
          · rw [if_neg qa, FF.i (by omega)]; exact a2.2.2.1 a ha
        · have hs' : s < (if a = j then (tC S).length else bN (tB S) a) := hs
          show _ = nI (if a = j then cF (tC S) s else bC (tB S) a s) ∧ _ = (if a = j then vF (tC S) s else bV (tB S) a s)
          by_cases qa : a = j
          · rw [if_pos qa] at hs'
            rw [if_pos qa, if_pos qa, qa]
            obtain ⟨z1, z2⟩ := g3 s (by omega) hs'
            obtain ⟨⟨-, g3'⟩, -⟩ := g1 s (by omega) hs'
            rw [List.getElem?_eq_getElem hs'] at g3'
            have g4 := Option.some.inj g3'
            rw [z1, z2, f2.i (by omega), f2.i (by omega), (cl s hs').1, (cl s hs').2, g4]
            exact ⟨rfl, rfl⟩
          · rw [if_neg qa] at hs'
            have h24 := (W.1.2.2 a ha).1
            rw [if_neg qa, if_neg qa, FF.i (by omega), FF.i (by omega)]
            exact a2.2.2.2 a s ha hs'
        · rw [f3.i (by omega), f2.i (by omega)]; exact z4
        · rw [FF.i (by omega)]; exact y1
        · rw [FF.i (by omega)]; exact y15
        · rw [FF.i (by omega)]; exact y16 q
        · rw [FF.i (by omega)]; exact y30
        · rw [FF.i (by omega)]; exact y31
      · rw [if_neg q] at e2
        rw [if_neg (show ¬ nI d' = 1 from fun e => q ((nI_eq (b := 1) (by omega) (by decide)).mp e)), e2, if_neg (m1s _ (by omega))]
        exact fault _
    · have e1' : f_X9_maker_49 53 (nI j) (nI (tC S).length) FU h1 0 0 = some (.inl (flG (decide (j < 6)) (tC S) (tC S) 0 0, h1)) := e1
      rw [e1', bs]
      simp only []
      rw [if_neg e2]
      exact fault _
end RBook
