/-! THE OTHER ONE: begin, end, drop, undo, open -/
def mZ (_k : Nat) : Int32 := 1
def RefU (m : Nat → Int32) (h : AH) (r : Option AH) (o : Except Nat Unit × SX) : Prop := ∃ h', r = some h' ∧ (match o.1 with
  | .ok _ => aI h' 53 0 = 0
  | .error k => aI h' 53 0 = m k) ∧ InvR h' o.2 ∧ Fg h h' QY
section RGroups
variable {h : AH} {S : SX}
theorem InvR.mk {S' : SX} {B : BK} {C : List (Int32 × Int32)} {A P : AP} {N : Nat → Int64} {w R : List Nat} {Q : CA} {H : List PN} (a1 : Sh h) (a2 : RbR h B) (a3 : ScR h C) (a4 : RpR h 59 0 A) (a5 : RpR h 60 0 P) (a6 : ∀ d, d < 258 → aJ h 62 d = N d) (a7 : WdR h w) (a8 : RgR h R) (a9 : CqR h Q) (a10 : FlR h S') (a11 : PaR h H) (e1 : tB S' = B) (e2 : tC S' = C) (e3 : tA S' = A) (e4 : tP S' = P) (e5 : tN S' = N) (e6 : tW S' = w) (e7 : tR S' = R) (e8 : tQ S' = Q) (e9 : tH S' = H) : InvR h S' := by
  unfold InvR
  rw [e1, e2, e3, e4, e5, e6, e7, e8, e9]
  exact ⟨a1, a2, a3, a4, a5, a6, a7, a8, a9, a10, a11⟩
theorem FlR.mk {S' : SX} {o g : Bool} {m u f : Nat} (b1 : aI h 53 1 = bI (!o)) (b2 : aI h 53 15 = bI g) (b3 : g = true → aI h 53 16 = nI m) (b4 : aI h 53 30 = nI u) (b5 : aI h 53 31 = nI f) (e1 : tO S' = o) (e2 : tG S' = g) (e3 : tM S' = m) (e4 : tU S' = u) (e5 : tF S' = f) : FlR h S' := by
  unfold FlR
  rw [e1, e2, e3, e4, e5]
  exact ⟨b1, b2, b3, b4, b5⟩
theorem InvR.f15 (x : InvR h S) : aI h 53 15 = bI (tG S) := x.2.2.2.2.2.2.2.2.2.1.2.1
theorem InvR.f16 (x : InvR h S) (hG : tG S = true) : aI h 53 16 = nI (tM S) := x.2.2.2.2.2.2.2.2.2.1.2.2.1 hG
theorem InvR.f30 (x : InvR h S) : aI h 53 30 = nI (tU S) := x.2.2.2.2.2.2.2.2.2.1.2.2.2.1
theorem InvR.f31 (x : InvR h S) : aI h 53 31 = nI (tF S) := x.2.2.2.2.2.2.2.2.2.1.2.2.2.2
/-- flags of a group -/
theorem inv_G {h' : AH} {g : Bool} (x : InvR h S) (f : Fg h h' (fun a i => a = 53 ∧ (i = 15 ∨ i = 16))) (e1 : aI h' 53 15 = bI g) (e2 : g = true → aI h' 53 16 = nI 0) : InvR h' (seG S g (tA S)) := by
  have i1 := x.f1
  have i30 := x.f30
  have i31 := x.f31
  obtain ⟨a1, a2, a3, a4, a5, a6, a7, a8, a9, -, a11⟩ := x
  refine InvR.mk (f.S a1) (f.B a2 (by omega) (by omega) (by omega) (by omega) (by omega)) (a3.fg f (by omega) (by omega) (by omega)) (f.R a4 (by omega)) (f.R a5 (by omega)) (fun d hd => by rw [f.j (by omega)]; exact a6 d hd) (a7.fg f (by omega) (by omega)) (a8.fg f (by omega) (by omega)) (a9.fg f (by omega) (by omega) (by omega) (by omega)) (FlR.mk (o := tO S) (g := g) (m := 0) (u := tU S) (f := tF S) ?_ e1 e2 ?_ ?_ rfl rfl rfl rfl rfl) (a11.fg f (by omega) (by omega) (by omega)) rfl rfl rfl rfl rfl rfl rfl rfl rfl
  · rw [f.i (by omega)]; exact i1
  · rw [f.i (by omega)]; exact i30
  · rw [f.i (by omega)]; exact i31
theorem r_begin (W : WfS S) (x : InvR h S) : RefU mZ h (f_X9_begin h 53) (oBegin S) := by
  have Sx := x.1
  unfold f_X9_begin oBegin
  rw [if_pos (k_53 Sx), gi_53 Sx, bs, x.f1]
  have S1 : ∀ v, Sh (sI h 53 0 v) := fun v => (x.c0 v).1
  by_cases qo : tO S = false
  · rw [qo, if_neg (show ¬ bI (!false) = 0 by decide), bs, pi_53 Sx, bs, gi_53 (S1 1), bs, c0_0, if_neg (by decide), if_pos (Or.inl rfl)]
    exact ⟨_, rfl, c0_0 1, x.c0 1, c0_fg 1⟩
  have hO := o_ne qo
  rw [hO, if_pos (show bI (!true) = 0 from rfl), gi_53 Sx, bs, x.f15]
  cases eg : tG S with
  | true =>
    rw [if_neg (show ¬ bI true = 0 by decide), bs, pi_53 Sx, bs, gi_53 (S1 1), bs, c0_0, if_neg (by decide), if_pos (Or.inr rfl)]
    exact ⟨_, rfl, c0_0 1, x.c0 1, c0_fg 1⟩
  | false =>
    have S2 : Sh (sI (sI h 53 0 0) 53 15 1) := (S1 0).sI
    rw [if_pos (show bI false = 0 from rfl), bs, pi_53 Sx, bs, gi_53 (S1 0), bs, c0_0, if_pos rfl, pz_53 (S1 0) 15 (Or.inr rfl), bs, pi_53 S2, bs, if_neg (fun q => by rcases q with q | q <;> cases q)]
    have ff : Fg (sI h 53 0 0) (sI (sI (sI h 53 0 0) 53 15 1) 53 16 0) (fun a i => a = 53 ∧ (i = 15 ∨ i = 16)) := Fg.tr (Fg.si ⟨rfl, Or.inl rfl⟩) (Fg.si ⟨rfl, Or.inr rfl⟩)
    refine ⟨_, rfl, ?_, inv_G (x.c0 0) ff ?_ (fun _ => ?_), (c0_fg 0).tr (ff.mono (fun a i q => by unfold QY; omega))⟩
    · show aI _ 53 0 = 0
      rw [ff.i (by omega)]; exact c0_0 0
    · rw [sI_I, if_neg (by decide), sI_I, if_pos ⟨rfl, rfl⟩]; rfl
    · rw [sI_I, if_pos ⟨rfl, rfl⟩]; rfl
theorem r_end (W : WfS S) (x : InvR h S) : RefOk mZ h (f_X9_end h 53) (oEnd S) := by
  have Sx := x.1
  have x0 := x.c0 0
  have S0 := x0.1
  unfold f_X9_end oEnd
  rw [if_pos (k_53 Sx), pi_53 Sx, bs, gi_53 S0, bs, x0.f1]
  by_cases qo : tO S = false
  · rw [qo, if_neg (show ¬ bI (!false) = 0 by decide), if_pos (Or.inl rfl)]; exact ref_e x 0 1 rfl
  have hO := o_ne qo
  rw [hO, if_pos (show bI (!true) = 0 from rfl), gi_53 S0, bs, x0.f15]
  cases eg : tG S with
  | false => rw [if_pos (show bI false = 0 from rfl), if_pos (Or.inr rfl)]; exact ref_e x 0 1 rfl
  | true =>
    have ff : Fg (sI h 53 0 0) (sI (sI h 53 0 0) 53 15 0) (fun a i => a = 53 ∧ (i = 15 ∨ i = 16)) := Fg.si ⟨rfl, Or.inl rfl⟩
    have x1 : InvR (sI (sI h 53 0 0) 53 15 0) (seG S false (tA S)) := inv_G x0 ff (by rw [sI_I, if_pos ⟨rfl, rfl⟩]; rfl) (fun q => by cases q)
    obtain ⟨h2, e2, x2, f2⟩ := r_settle (S := seG S false (tA S)) (A := tA S) (wf_G W hO) hO x1 W.2.2.1
    rw [if_neg (show ¬ bI true = 0 by decide), pz_53 S0 15 (Or.inl rfl), bs, e2, bs, if_neg (fun q => by rcases q with q | q <;> cases q)]
    have hst : stS (seG S false (tA S)) (tA S) = jdS (seG S false (tA S)) (tA S) := st_jd rfl
    have ho : mvO (seG S false (tA S)) (tA S) = (.ok (jdS (seG S false (tA S)) (tA S)).1, (jdS (seG S false (tA S)) (tA S)).2) := by unfold mvO; rw [hst]
    rw [ho]
    refine ⟨_, h2, rfl, ⟨?_, rfl⟩, x2, ((c0_fg 0).tr (ff.mono (fun a i q => by unfold QY; omega))).tr (f2.mono (fun a i q => by unfold QG at q; unfold QY; omega))⟩
    rw [f2.i (by unfold QG; omega), ff.i (by omega)]; exact c0_0 0
theorem r_drop (W : WfS S) (x : InvR h S) : RefOk mZ h (f_X9_drop h 53) (oDrop S) := by
  have Sx := x.1
  have x0 := x.c0 0
  have S0 := x0.1
  unfold f_X9_drop oDrop
  rw [if_pos (k_53 Sx), pi_53 Sx, bs, gi_53 S0, bs, x0.f1]
  by_cases qo : tO S = false
  · rw [qo, if_neg (show ¬ bI (!false) = 0 by decide), if_pos (Or.inl rfl)]; exact ref_e x 0 1 rfl
  have hO := o_ne qo
  rw [hO, if_pos (show bI (!true) = 0 from rfl), gi_53 S0, bs, x0.f15]
  cases eg : tG S with
  | false => rw [if_pos (show bI false = 0 from rfl), if_pos (Or.inr rfl)]; exact ref_e x 0 1 rfl
  | true =>
    have ff : Fg (sI h 53 0 0) (sI (sI h 53 0 0) 53 15 0) (fun a i => a = 53 ∧ (i = 15 ∨ i = 16)) := Fg.si ⟨rfl, Or.inl rfl⟩
    have x1 : InvR (sI (sI h 53 0 0) 53 15 0) (seG S false (tA S)) := inv_G x0 ff (by rw [sI_I, if_pos ⟨rfl, rfl⟩]; rfl) (fun q => by cases q)
    have i16 : aI (sI (sI h 53 0 0) 53 15 0) 53 16 = nI (tM S) := by rw [sI_I, if_neg (by decide)]; exact x0.f16 eg
    have S1 := x1.1
    have lP : ∀ l, qS (tP S) l ≤ 40 := fun l => W.2.2.2.2.1.len l
    have y1 := x1.f1
    have y15 := x1.f15
    have y30 := x1.f30
    have y31 := x1.f31
    obtain ⟨-, a2, a3, a4, a5, a6, a7, a8, a9, -, a11⟩ := x1
    obtain ⟨h2, e2, f2, r2⟩ := r_cpP S1 (a := 60) (b := 59) (Or.inr (Or.inl rfl)) (Or.inl rfl) (by decide) (X := tP S) a5 lP
    have S2 := f2.S S1
    rw [if_neg (show ¬ bI true = 0 by decide), pz_53 S0 15 (Or.inl rfl), bs, g_53_11 S1, bs, g_53_10 S1, bs, e2, bs, gi_53 S2, bs, f2.i (by omega), i16, if_neg (fun q => by rcases q with q | q <;> cases q)]
    refine ⟨_, h2, rfl, ⟨?_, rfl⟩, InvR.mk S2 (f2.B a2 (by omega) (by omega) (by omega) (by omega) (by omega)) (a3.fg f2 (by omega) (by omega) (by omega)) r2 (f2.R a5 (by omega)) (fun d hd => by rw [f2.j (by omega)]; exact a6 d hd) (a7.fg f2 (by omega) (by omega)) (a8.fg f2 (by omega) (by omega)) (a9.fg f2 (by omega) (by omega) (by omega) (by omega)) (FlR.mk (o := tO S) (g := false) (m := 0) (u := tU S) (f := tF S) ?_ ?_ (fun q => by cases q) ?_ ?_ rfl rfl rfl rfl rfl) (a11.fg f2 (by omega) (by omega) (by omega)) rfl rfl rfl rfl rfl rfl rfl rfl rfl, ((c0_fg 0).tr (ff.mono (fun a i q => by unfold QY; omega))).tr (f2.mono (fun a i q => by unfold QY; omega))⟩
    · rw [f2.i (by omega), ff.i (by omega)]; exact c0_0 0
    · rw [f2.i (by omega)]; exact y1
    · rw [f2.i (by omega)]; exact y15
    · rw [f2.i (by omega)]; exact y30
    · rw [f2.i (by omega)]; exact y31
theorem un71 {B : BK} {P : AP} {N : Nat → Int64} {x : PN} {k : Nat} (W : WfB B) (Sx : Sh h) (RB : RbR h B) (RP : RpR h 60 0 P) (RD : RpR h 61 0 x.1) (fP : WfA P (bT B) (bL B)) (fx : WfA x.1 (bT B) (bL B)) (hN : ∀ d, d < 258 → aJ h 62 d = N d) (z1 : ∀ d, isC B P d = false → N d = 0) (z2 : ∀ d, isC B x.1 d = false → x.2 d = 0) (h17 : aI h 53 17 = nI k) (hk : k < 60) (hO : ∀ d, d < 258 → aJ h 65 (258 * k + d) = x.2 d) : ∀ (m n i : Nat), i + m = 258 → m < n → f_X9_undo_71 53 n h (nI (chC B P N x i)) (nI i) = some (nI (chC B P N x 258)) := by
  intro m
  induction m with
  | zero =>
    intro n i hi hn
    obtain ⟨n, rfl⟩ : ∃ j, n = j + 1 := ⟨n - 1, by omega⟩
    unfold f_X9_undo_71
    rw [if_pos (show (258 : Int32) ≤ nI i from nI_le (a := 258) (by omega) (by omega)), show i = 258 by omega]
  | succ m ih =>
    intro n i hi hn
    obtain ⟨n, rfl⟩ : ∃ j, n = j + 1 := ⟨n - 1, by omega⟩
    have hi8 : i < 258 := by omega
    rw [← ih n (i + 1) (by omega) (by omega)]
    have hs : chC B P N x (i + 1) = chC B P N x i + (if (decide (isC B P i ≠ isC B x.1 i) || decide (N i ≠ x.2 i)) = true then 1 else 0) := by
      unfold chC
      rw [List.range_succ, List.countP_append, List.countP_singleton]
    conv => lhs; unfold f_X9_undo_71
    rw [if_neg (show ¬ (258 : Int32) ≤ nI i from nI_ge (b := 258) hi8 (by decide)), g_53_11 Sx, bs, r_isCell Sx W RB (Sx.b (Or.inr (Or.inl rfl))) RP fP hi8, bs, g_53_12 Sx, bs, r_isCell Sx W RB (Sx.b (Or.inr (Or.inr rfl))) RD fx hi8, bs, nI_1 i, hs]
    by_cases q : isC B P i = isC B x.1 i
    · rw [if_pos (by rw [q])]
      cases e : isC B x.1 i with
      | false =>
        have q2 : N i = x.2 i := by rw [z1 i (q.trans e), z2 i e]
        rw [if_pos (show bI false = 0 from rfl), bs]
        simp [q, e, q2]
      | true =>
        rw [if_neg (show ¬ bI true = 0 by decide), g_53_13 Sx, bs, ld_62 Sx hi8, bs, hN i hi8, g_53_19 Sx, bs, gi_53 Sx, bs, h17, mm258, nI_add, ld_65 Sx (by omega), bs, hO i hi8]
        by_cases q2 : N i = x.2 i
        · rw [if_pos ((cmp_eq _ _).mpr q2), bs]
          simp [q, e, q2]
        · rw [if_neg (fun y => q2 ((cmp_eq _ _).mp y)), bs]
          simp [q, e, q2]
          rw [nI_1]
    · have q3 : ¬ bI (isC B P i) = bI (isC B x.1 i) := by
        intro e
        apply q
        revert e
        cases isC B P i <;> cases isC B x.1 i <;> decide
      rw [if_neg q3, bs]
      simp [q]
      rw [nI_1]
theorem r_undo (W : WfS S) (x : InvR h S) : RefOk mZ h (f_X9_undo h 53) (oUndo S) := by
  have Sx := x.1
  have x0 := x.c0 0
  have S0 := x0.1
  unfold f_X9_undo oUndo
  rw [if_pos (k_53 Sx), pi_53 Sx, bs, gi_53 S0, bs, x0.f1]
  by_cases qo : tO S = false
  · rw [qo, if_neg (show ¬ bI (!false) = 0 by decide), if_pos (Or.inl rfl)]; exact ref_e x 0 1 rfl
  have hO := o_ne qo
  rw [hO, if_pos (show bI (!true) = 0 from rfl), gi_53 S0, bs, x0.f15]
  cases eg : tG S with
  | true => rw [if_neg (show ¬ bI true = 0 by decide), if_pos (Or.inr rfl)]; exact ref_e x 0 1 rfl
  | false =>
    rw [if_pos (show bI false = 0 from rfl), if_neg (fun q => by rcases q with q | q <;> cases q), gi_53 S0, bs]
    have y1 := x0.f1
    have y15 := x0.f15
    have y30 := x0.f30
    have y31 := x0.f31
    have x00 := x0
    obtain ⟨-, a2, a3, a4, a5, a6, a7, a8, a9, -, a11⟩ := x0
    have h60 := a11.2.1
    rcases List.eq_nil_or_concat (tH S) with e | ⟨K, y, e⟩
    · rw [e, a11.1, e, if_pos (show nI ([] : List PN).length = 0 from rfl)]
      exact ref_s x (-1)
    have hlen : (tH S).length = K.length + 1 := by rw [e]; simp
    have hget : (tH S).getLast? = some y := by rw [e]; simp
    have hdl : (tH S).dropLast = K := by rw [e]; simp
    obtain ⟨okp, okh⟩ := W.2.2.2.2.2.2.1 hO
    have oky : okP (tB S) y := okh y (by rw [e]; simp)
    have fy : WfA y.1 (bT (tB S)) (bL (tB S)) := oky.1
    have ly : ∀ l, qS y.1 l ≤ 40 := fun l => fy.len l
    obtain ⟨g1, g2, g3⟩ := a11.2.2 K.length (by omega)
    have ey : (tH S)[K.length]'(by omega) = y := by simp [e]
    rw [ey] at g2 g3
    obtain ⟨h1, eh1⟩ : ∃ z, z = sI (sI h 53 0 0) 53 17 (nI K.length) := ⟨_, rfl⟩
    have f1 : Fg (sI h 53 0 0) h1 (fun a i => a = 53 ∧ i = 17) := by rw [eh1]; exact Fg.si ⟨rfl, rfl⟩
    have S1 := f1.S S0
    have i17 : aI h1 53 17 = nI K.length := by rw [eh1, sI_I, if_pos ⟨rfl, rfl⟩]
    obtain ⟨h2, e2, f2, c2⟩ := r_copyInts (h := h1) (a := 64) (b := 61) (sp := 504 * K.length) (dp := 0) (n := 504) (k_64 S1) (k_61 S1) (by rw [e_64 S1]; omega) (by rw [e_61 S1]; decide) (by rw [e_64 S1]; decide) (by rw [e_61 S1]; decide) (Or.inl (by decide))
    have e2' : f_X9_copyInts h1 64 (nI (504 * K.length)) 61 0 504 = some h2 := e2
    have S2 := f2.S S1
    have F2 : Fg (sI h 53 0 0) h2 (fun a i => a = 61 ∨ (a = 53 ∧ i = 17)) := (f1.mono (fun a i q => by omega)).tr (f2.mono (fun a i q => by omega))
    have rD : RpR h2 61 0 y.1 := (f1.R g2 (by omega)).cp ly c2
    have rP : RpR h2 60 0 (tP S) := F2.R a5 (by omega)
    have i17' : aI h2 53 17 = nI K.length := by rw [f2.i (by omega)]; exact i17
    have b2 := F2.B a2 (by omega) (by omega) (by omega) (by omega) (by omega)
    have hun := un71 (x := y) (N := tN S) (k := K.length) W.1 S2 b2 rP rD W.2.2.2.2.1 fy (fun d hd => by rw [F2.j (by omega)]; exact a6 d hd) okp.2.2.2.1 oky.2.2.2.1 i17' (by omega) (fun d hd => by rw [F2.j (by omega)]; exact g3 d hd) 258 FU 0 rfl (by unfold FU; omega)
    have hun' : f_X9_undo_71 53 FU h2 0 0 = some (nI (chC (tB S) (tP S) (tN S) y 258)) := hun
    obtain ⟨h3, e3, f3, r3⟩ := r_cpP S2 (a := 61) (b := 60) (Or.inr (Or.inr rfl)) (Or.inr (Or.inl rfl)) (by decide) rD ly
    have S3 := f3.S S2
    obtain ⟨h4, e4, f4, r4⟩ := r_cpP S3 (a := 61) (b := 59) (Or.inr (Or.inr rfl)) (Or.inl rfl) (by decide) (f3.R rD (by omega)) ly
    have S4 := f4.S S3
    have i17'' : aI h4 53 17 = nI K.length := by rw [f4.i (by omega), f3.i (by omega)]; exact i17'
    obtain ⟨h5, e5, f5, c5⟩ := r_copyLongs (h := h4) (a := 65) (b := 62) (sp := 258 * K.length) (dp := 0) (n := 258) (k_65 S4) (k_62 S4) (by rw [e_65 S4]; omega) (by rw [e_62 S4]; decide) (by rw [e_65 S4]; decide) (by rw [e_62 S4]; decide) (Or.inl (by decide))
    have e5' : f_X9_copyLongs h4 65 (nI (258 * K.length)) 62 0 258 = some h5 := e5
    have S5 := f5.S S4
    obtain ⟨h6, eh6⟩ : ∃ z, z = sI h5 53 20 0 := ⟨_, rfl⟩
    have f6 : Fg h5 h6 (fun a i => a = 53 ∧ i = 20) := by rw [eh6]; exact Fg.si ⟨rfl, rfl⟩
    have F26 : Fg h2 h6 (fun a i => a = 59 ∨ a = 60 ∨ a = 62 ∨ (a = 53 ∧ i = 20)) := (((f3.mono (fun a i q => by omega)).tr (f4.mono (fun a i q => by omega))).tr (f5.mono (fun a i q => by omega))).tr (f6.mono (fun a i q => by omega))
    have F06 : Fg (sI h 53 0 0) h6 (fun a i => a = 59 ∨ a = 60 ∨ a = 61 ∨ a = 62 ∨ (a = 53 ∧ (i = 17 ∨ i = 20))) := (F2.mono (fun a i q => by omega)).tr (F26.mono (fun a i q => by omega))
    have hx : nI (tH S).length - 1 = nI K.length := by rw [hlen]; exact nI_pred K.length
    rw [a11.1, if_neg (nI_ne0 (by omega) (by omega)), bs, hx, pi_53 S0, bs, ← eh1, g_53_18 S1, bs, gi_53 S1, bs, i17, g_53_12 S1, bs, mm504, e2', bs, hun', bs, g_53_12 S2, bs, g_53_11 S2, bs, e3, bs, g_53_12 S3, bs, g_53_10 S3, bs, e4, bs, g_53_19 S4, bs, gi_53 S4, bs, i17'', g_53_13 S4, bs, mm258, e5', bs, pi_53 S5, bs, ← eh6, hget, hdl]
    refine ⟨_, h6, rfl, ⟨?_, rfl⟩, InvR.mk (f6.S S5) (F06.B a2 (by omega) (by omega) (by omega) (by omega) (by omega)) (a3.fg F06 (by omega) (by omega) (by omega)) (f6.R (f5.R r4 (by omega)) (by omega)) (f6.R (f5.R (f4.R r3 (by omega)) (by omega)) (by omega)) (N := y.2) (fun d hd => ?_) (w := []) ⟨?_, by decide, fun i hi => absurd hi (by simp)⟩ (a8.fg F06 (by omega) (by omega)) (a9.fg F06 (by omega) (by omega) (by omega) (by omega)) (FlR.mk (o := tO S) (g := tG S) (m := tM S) (u := tU S) (f := tF S) ?_ ?_ (fun q => by rw [eg] at q; cases q) ?_ ?_ rfl rfl rfl rfl rfl) (H := K) ⟨?_, by omega, fun i hi => ?_⟩ rfl rfl rfl rfl rfl rfl rfl rfl rfl, (c0_fg 0).tr (F06.mono (fun a i q => by unfold QY; omega))⟩
    · rw [F06.i (by omega)]; exact c0_0 0
    · have := c5 d hd
      rw [Nat.zero_add] at this
      rw [f6.j (by omega), this, f4.j (by omega), f3.j (by omega), F2.j (by omega)]
      exact g3 d hd
    · rw [eh6, sI_I, if_pos ⟨rfl, rfl⟩]; rfl
    · rw [F06.i (by omega)]; exact y1
    · rw [F06.i (by omega)]; exact y15
    · rw [F06.i (by omega)]; exact y30
    · rw [F06.i (by omega)]; exact y31
    · rw [F26.i (by omega)]; exact i17'
    · obtain ⟨q1, q2, q3⟩ := a11.2.2 i (by omega)
      have ei : (tH S)[i]'(by omega) = K[i] := by simp [e, List.getElem_append_left hi]
      rw [ei] at q1 q2 q3
      exact ⟨q1, F06.R q2 (by omega), fun d hd => by rw [F06.j (by omega)]; exact q3 d hd⟩
theorem r_open (W : WfS S) (x : InvR h S) : RefOk mZ h (f_X9_open h 53) (oOpen S) := by
  have Sx := x.1
  have x0 := x.c0 0
  have S0 := x0.1
  unfold f_X9_open
  rw [if_pos (k_53 Sx), pi_53 Sx, bs, gi_53 S0, bs, x0.f1]
  cases eo : tO S with
  | true =>
    have : oOpen S = (.error 0, S) := by unfold oOpen; rw [if_pos eo]
    rw [this, if_pos (show bI (!true) = 0 from rfl)]; exact ref_e x 0 1 rfl
  | false =>
    rw [if_neg (show ¬ bI (!false) = 0 by decide), pz_53 S0 1 (Or.inl rfl), bs]
    have y15 := x0.f15
    have y16 := x0.f16
    have y30 := x0.f30
    have y31 := x0.f31
    obtain ⟨-, a2, a3, a4, a5, a6, a7, a8, a9, -, a11⟩ := x0
    obtain ⟨w1, w2, w3, w4, w5, w6, w7, w8, w9, w10⟩ := W
    obtain ⟨z1, z2, z3, z4⟩ := w8 eo
    obtain ⟨h1, eh1⟩ : ∃ z, z = sI (sI h 53 0 0) 53 1 0 := ⟨_, rfl⟩
    have f1 : Fg (sI h 53 0 0) h1 (fun a i => a = 53 ∧ i = 1) := by rw [eh1]; exact Fg.si ⟨rfl, rfl⟩
    have S1 := f1.S S0
    obtain ⟨h2, e2, f2, c2, r2, k1, k2⟩ := r_judge (op := true) S1 w1 (f1.B a2 (by omega) (by omega) (by omega) (by omega) (by omega)) (f1.R a4 (by omega)) (f1.R a5 (by omega)) w5 w3 (N := tN S) (fun d hd => by rw [f1.j (by omega)]; exact a6 d hd) (fun d _ => z2 d) (fun d => by rw [z2 d]; exact bd_0) (fun _ => z2) (a11.fg f1 (by omega) (by omega) (by omega))
    have e2' : f_X9_judge h1 53 1 = some (anS (jdA (tB S) (tP S) (tA S) (tN S) true), h2) := e2
    have S2 := f2.S S1
    rw [← eh1, e2', bs]
    simp only []
    have g15 : aI h2 53 15 = aI (sI h 53 0 0) 53 15 := by rw [f2.i (by unfold QG; omega), f1.i (by omega)]
    have g16 : aI h2 53 16 = aI (sI h 53 0 0) 53 16 := by rw [f2.i (by unfold QG; omega), f1.i (by omega)]
    have g0 : aI h2 53 0 = 0 := by rw [f2.i (by unfold QG; omega), f1.i (by omega)]; exact c0_0 0
    have b2 := f2.B (f1.B a2 (by omega) (by omega) (by omega) (by omega) (by omega)) (by unfold QG; omega) (by unfold QG; omega) (by unfold QG; omega) (by unfold QG; omega) (by unfold QG; omega)
    have b3 := (a3.fg f1 (by omega) (by omega) (by omega)).fg f2 (by unfold QG; omega) (by unfold QG; omega) (by unfold QG; omega)
    have F2 : Fg h h2 QY := ((c0_fg 0).tr (f1.mono (fun a i q => by unfold QY; omega))).tr (f2.mono (fun a i q => by unfold QG at q; unfold QY; omega))
    have F3 : ∀ v, Fg h2 (sI h2 53 1 v) (fun a i => a = 53 ∧ i = 1) := fun v => Fg.si ⟨rfl, rfl⟩
    cases ej : jdA (tB S) (tP S) (tA S) (tN S) true with
    | ok Fw =>
      obtain ⟨F, w⟩ := Fw
      have hst : oOpen S = (.ok (nI w.length), opY S F w) := by unfold oOpen; rw [if_neg (by rw [eo]; decide), ej]
      obtain ⟨l1, l2, l3, l4, l5, l6, l7⟩ := k1 F w ej
      rw [ej] at c2 r2
      have w8' := l4.2.1
      have F3 := F3 0
      rw [hst, show anS (Except.ok (F, w)) = nI w.length from rfl, if_pos (show (0 : Int32) ≤ nI w.length from nI_le (a := 0) (by omega) (by omega)), bs, pz_53 S2 1 (Or.inl rfl), bs]
      rw [if_pos rfl] at l7
      refine ⟨_, _, rfl, ⟨?_, rfl⟩, InvR.mk (F3.S S2) (F3.B b2 (by omega) (by omega) (by omega) (by omega) (by omega)) (b3.fg F3 (by omega) (by omega) (by omega)) (F3.R l1 (by omega)) (F3.R l2 (by omega)) (fun d hd => by rw [F3.j (by omega)]; exact l3 d hd) (l4.fg F3 (by omega) (by omega)) (RgR.fg (w := []) r2 F3 (by omega) (by omega)) (CqR.fg (c := (0, -1, -1, -1)) c2 F3 (by omega) (by omega) (by omega) (by omega)) (FlR.mk (o := true) (g := tG S) (m := tM S) (u := tU S + w.length) (f := tF S) ?_ ?_ (fun q => ?_) ?_ ?_ rfl rfl rfl rfl rfl) (l7.fg F3 (by omega) (by omega) (by omega)) rfl rfl rfl z1.symm rfl rfl rfl rfl rfl, F2.tr (F3.mono (fun a i q => by unfold QY; omega))⟩
      · rw [F3.i (by omega)]; exact g0
      · rw [sI_I, if_pos ⟨rfl, rfl⟩]; rfl
      · rw [F3.i (by omega), g15]; exact y15
      · rw [F3.i (by omega), g16]; exact y16 q
      · rw [F3.i (by omega), l5, f1.i (by omega), y30, nI_add]
      · rw [F3.i (by omega), l6, f1.i (by omega)]; exact y31
    | error e =>
      have hneg : ¬ (0 : Int32) ≤ anS (.error e) := by
        cases e with
        | none => decide
        | some t => show ¬ (0 : Int32) ≤ -2; decide
      have hst : oOpen S = (.ok (anS (.error e)), opN S (.error e)) := by unfold oOpen; rw [if_neg (by rw [eo]; decide), ej]
      obtain ⟨l1, l2, l3, ⟨l4, l4'⟩, l5, l6, l7⟩ := k2 e ej
      rw [ej] at c2 r2
      have F3 := F3 1
      rw [hst, if_neg hneg, bs, pz_53 S2 1 (Or.inr rfl), bs]
      refine ⟨_, _, rfl, ⟨?_, rfl⟩, InvR.mk (F3.S S2) (F3.B b2 (by omega) (by omega) (by omega) (by omega) (by omega)) (b3.fg F3 (by omega) (by omega) (by omega)) (F3.R l1 (by omega)) (F3.R l2 (by omega)) (fun d hd => by rw [F3.j (by omega)]; exact l3 d hd) (w := tW S) ⟨?_, a7.2.1, fun i hi => ?_⟩ (r2.fg F3 (by omega) (by omega)) (c2.fg F3 (by omega) (by omega) (by omega) (by omega)) (FlR.mk (o := tO S) (g := tG S) (m := tM S) (u := tU S) (f := tF S + 1) ?_ ?_ (fun q => ?_) ?_ ?_ rfl rfl rfl rfl rfl) (l7.fg F3 (by omega) (by omega) (by omega)) rfl rfl z1 rfl rfl rfl rfl rfl rfl, F2.tr (F3.mono (fun a i q => by unfold QY; omega))⟩
      · rw [F3.i (by omega)]; exact g0
      · rw [F3.i (by omega), l4, f1.i (by omega)]; exact a7.1
      · rw [F3.i (by omega), l4', f1.i (by omega)]; exact a7.2.2 i hi
      · rw [sI_I, if_pos ⟨rfl, rfl⟩, eo]; rfl
      · rw [F3.i (by omega), g15]; exact y15
      · rw [F3.i (by omega), g16]; exact y16 q
      · rw [F3.i (by omega), l5, f1.i (by omega)]; exact y30
      · rw [F3.i (by omega), l6, f1.i (by omega), y31, nI_1]
end RGroups
