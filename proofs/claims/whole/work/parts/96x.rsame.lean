/-! THE OTHER ONE: isSame -/
def QZ (a i : Nat) : Prop := a = 63 ∨ QV a i
section RSame
variable {B : BK} {A : AP} {N : Nat → Int64}
theorem r_work_g {h : AH} {b : Nat} (W : WfB B) (hb : Bx b) (f : WfA A (bT B) (bL B)) {c : Nat} (hc : c < 258) (hC : isC B A c = true) (x : Cr h B A b) (h0 : aI h 53 28 ≠ -1) : ∃ v h', f_X9_work h 53 b (nI c) = some (v, h') ∧ Fg h h' QV ∧ aI h' 53 28 = aI h 53 28 := by
  obtain ⟨h1, e1, f1, l1⟩ := r_lookAt W hb f hc hC x
  have x1 := x.ql hb f1
  have k1 : aI h1 53 28 = aI h 53 28 := f1.i (by unfold QL; omega)
  have S1 := x1.1
  refine ⟨aJ h1 75 0, h1, ?_, f1.mono (fun a i q => QL_V q), k1⟩
  unfold f_X9_work
  have l0 : ldJ h1 75 0 = some (aJ h1 75 0) := ld_75 S1 (i := 0) (by decide)
  have e2 : f_X9_work_26 53 b (nI c) (nI (kiN c)) (nI (owN c)) FU h1 0 0 0 = some h1 := by
    show f_X9_work_26 53 b (nI c) (nI (kiN c)) (nI (owN c)) (FU - 1 + 1) h1 0 0 0 = some h1
    unfold f_X9_work_26
    rw [g_53_7 S1, bs, ld_56 S1 ki9, bs, gi_53 S1, bs]
    by_cases q : aI h1 56 (kiN c) ≤ 0
    · rw [if_pos q]
    · rw [if_neg q, if_neg (by rw [k1]; exact h0)]
  rw [if_pos (k_53 x.1), r_kindOf h hc, bs, r_ownerOf h hc, bs, e1, bs, e2, bs, g_53_41 S1, bs, l0, bs]
theorem Cr.qz {h h' : AH} (x : Cr h B A 60) (f : Fg h h' QZ) : Cr h' B A 60 := x.fg f (fun q => by unfold QZ QV at q; omega) (fun q => by unfold QZ QV at q; omega) (fun i q => by unfold QZ QV at q; omega) (fun i q => by unfold QZ QV at q; omega) (fun i q => by unfold QZ QV at q; omega) (fun i q => by unfold QZ QV at q; omega)
theorem OdR.qz {h h' : AH} {O : List Nat} (x : OdR h O) (f : Fg h h' QZ) : OdR h' O := ⟨by rw [f.i (by unfold QZ QV; omega)]; exact x.1, x.2.1, fun i hi => by rw [f.i (by unfold QZ QV; omega)]; exact x.2.2 i hi⟩
/-- one turn of the loop -/
theorem sm1 {h : AH} (W : WfB B) (fA : WfA A (bT B) (bL B)) {O : List Nat} (hO : ∀ c, c ∈ O → c < 258 ∧ isC B A c = true) (x : Cr h B A 60) (o : OdR h O) (hN : ∀ d, d < 258 → aJ h 62 d = N d) {k : Nat} (hk : k < O.length) (a b l1 : Int32) (n : Nat) :
    (fzC A O[k] = true ∧ f_X9_isSame_84 53 a b (n + 1) h l1 (nI k) = f_X9_isSame_84 53 a b n h l1 (nI (k + 1))) ∨
    (fzC A O[k] = false ∧ ∀ v h1, f_X9_work h 53 60 (nI O[k]) = some (v, h1) → Fg h h1 QV → f_X9_isSame_84 53 a b (n + 1) h l1 (nI k) = f_X9_isSame_84 53 a b n (sJ h1 63 O[k] v) (l1 &&& (if aI h1 53 28 = -1 ∧ v = N O[k] then 1 else 0)) (nI (k + 1))) := by
  have S := x.1
  have h8 := o.2.1
  obtain ⟨c, ec⟩ : ∃ z, z = O[k] := ⟨_, rfl⟩
  obtain ⟨hc, hC⟩ : c < 258 ∧ isC B A c = true := by rw [ec]; exact hO _ (List.getElem_mem hk)
  have hget : aI h 71 k = nI c := by rw [ec]; exact o.2.2 k hk
  rw [← ec]
  have hfz := r_isFrozen x.2.2.1 x.2.2.2 fA hc
  cases ez : fzC A c with
  | true =>
    refine Or.inl ⟨rfl, ?_⟩
    conv => lhs; unfold f_X9_isSame_84
    rw [gi_53 S, bs, o.1, if_neg (nI_ge hk (by omega)), g_53_37 S, bs, ld_71 S (by omega), bs, hget, g_53_11 S, bs, hfz, bs, ez, if_neg (show ¬ bI true = 0 by decide), bs, nI_1]
  | false =>
    refine Or.inr ⟨rfl, fun v h1 e1 f1 => ?_⟩
    have S1 := f1.S S
    have j62 : aJ h1 62 c = N c := by rw [f1.j (by unfold QV; omega)]; exact hN c hc
    conv => lhs; unfold f_X9_isSame_84
    rw [gi_53 S, bs, o.1, if_neg (nI_ge hk (by omega)), g_53_37 S, bs, ld_71 S (by omega), bs, hget, g_53_11 S, bs, hfz, bs, ez, if_pos (show bI false = 0 from rfl), bs, e1, bs]
    simp only []
    rw [gi_53 S1, bs, g_53_13 S1, g_53_14 S1]
    by_cases q1 : aI h1 53 28 = -1
    · rw [if_pos q1, bs, ld_62 S1 hc, bs, j62]
      by_cases q2 : v = N c
      · rw [if_pos ((cmp_eq _ _).mpr q2), bs, bs, st_63 S1 hc, bs, bs, if_pos ⟨q1, q2⟩, nI_1]
      · rw [if_neg (fun e => q2 ((cmp_eq _ _).mp e)), bs, bs, st_63 S1 hc, bs, bs, if_neg (fun y => q2 y.2), nI_1]
    · rw [if_neg q1, bs, bs, st_63 S1 hc, bs, bs, if_neg (fun y => q1 y.1), nI_1]
theorem and0 (v : Int32) : (0 : Int32) &&& v = 0 := by
  simp
theorem sm84_0 (W : WfB B) (fA : WfA A (bT B) (bL B)) {O : List Nat} (hO : ∀ c, c ∈ O → c < 258 ∧ isC B A c = true) (a b : Int32) : ∀ (m n : Nat) (h : AH) (k : Nat), k + m = O.length → m < n → Cr h B A 60 → OdR h O → (∀ d, d < 258 → aJ h 62 d = N d) → (aI h 53 28 ≠ -1 ∨ ∃ F, Ck h B A 60 F ∧ aI h 53 28 = -1) →
    ∃ h', f_X9_isSame_84 53 a b n h 0 (nI k) = some (0, h') ∧ Fg h h' QZ := by
  intro m
  induction m with
  | zero =>
    intro n h k hk hn x o hN hs
    obtain ⟨n, rfl⟩ : ∃ j, n = j + 1 := ⟨n - 1, by omega⟩
    have h8 := o.2.1
    refine ⟨h, ?_, Fg.rf _ _⟩
    unfold f_X9_isSame_84
    rw [gi_53 x.1, bs, o.1, if_pos (nI_le (by omega) (by omega))]
  | succ m ih =>
    intro n h k hk hn x o hN hs
    obtain ⟨n, rfl⟩ : ∃ j, n = j + 1 := ⟨n - 1, by omega⟩
    have hkl : k < O.length := by omega
    obtain ⟨hc, hC⟩ := hO _ (List.getElem_mem hkl)
    rcases sm1 W fA hO x o hN hkl a b 0 n with ⟨ez, e⟩ | ⟨ez, e⟩
    · rw [e]
      exact ih n h (k + 1) (by omega) (by omega) x o hN hs
    · have key : ∃ v h1, f_X9_work h 53 60 (nI O[k]) = some (v, h1) ∧ Fg h h1 QV ∧ (aI h1 53 28 ≠ -1 ∨ ∃ F, Ck h B A 60 F ∧ bdJ v ∧ aI h1 53 28 = -1) := by
        rcases hs with q | ⟨F, xk, q⟩
        · obtain ⟨v, h1, e1, f1, g1⟩ := r_work_g W (Or.inr (Or.inl rfl)) fA hc hC x q
          exact ⟨v, h1, e1, f1, Or.inl (by rw [g1]; exact q)⟩
        · obtain ⟨v, h1, e1, f1, r1⟩ := r_work W (Or.inr (Or.inl rfl)) fA hc hC ez xk q
          refine ⟨v, h1, e1, f1, ?_⟩
          rcases r1 with ⟨y, s, a1, a2, a3⟩ | ⟨a1, a2⟩
          · refine Or.inl ?_
            rw [a2]
            have := wk_y a1
            exact nI_nm (by omega)
          · exact Or.inr ⟨F, xk, wkA_bd W fA hc hC a1, a2⟩
      obtain ⟨v, h1, e1, f1, r1⟩ := key
      rw [e v h1 e1 f1, and0]
      have f2 : Fg h (sJ h1 63 O[k] v) QZ := (f1.mono (fun a i q => Or.inr q)).tr (Fg.sj (Or.inl rfl))
      have x2 := x.qz f2
      have n2 : ∀ d, d < 258 → aJ (sJ h1 63 O[k] v) 62 d = N d := fun d hd => by rw [f2.j (by unfold QZ QV; omega)]; exact hN d hd
      obtain ⟨h3, e3, f3⟩ := ih n (sJ h1 63 O[k] v) (k + 1) (by omega) (by omega) x2 (o.qz f2) n2 (by
        rcases r1 with q | ⟨F, xk, bv, q⟩
        · exact Or.inl q
        · refine Or.inr ⟨upF F O[k] v, ⟨x2, fun d hd hcd => ?_, fun d hd => ?_, fun d => ?_⟩, q⟩
          · rw [sJ_J]
            unfold upF
            by_cases qd : d = O[k]
            · rw [if_pos ⟨rfl, qd⟩, if_pos qd]
            · rw [if_neg (fun y => qd y.2), if_neg qd, f1.j (by unfold QV; omega)]; exact xk.2.1 d hd hcd
          · unfold upF
            by_cases qd : d = O[k]
            · rw [qd, hC] at hd; cases hd
            · rw [if_neg qd]; exact xk.2.2.1 d hd
          · unfold upF
            by_cases qd : d = O[k]
            · rw [if_pos qd]; exact bv
            · rw [if_neg qd]; exact xk.2.2.2 d)
      exact ⟨h3, e3, f2.tr f3⟩
theorem sm84 (W : WfB B) (fA : WfA A (bT B) (bL B)) {O : List Nat} (hO : ∀ c, c ∈ O → c < 258 ∧ isC B A c = true) (a b : Int32) : ∀ (m n : Nat) (h : AH) (k : Nat) (F : Nat → Int64), k + m = O.length → m < n → Ck h B A 60 F → OdR h O → (∀ d, d < 258 → aJ h 62 d = N d) → aI h 53 28 = -1 →
    ∃ h', f_X9_isSame_84 53 a b n h 1 (nI k) = some (bI (agF B A N (O.drop k) F), h') ∧ Fg h h' QZ := by
  intro m
  induction m with
  | zero =>
    intro n h k F hk hn x o hN hs
    obtain ⟨n, rfl⟩ : ∃ j, n = j + 1 := ⟨n - 1, by omega⟩
    have h8 := o.2.1
    refine ⟨h, ?_, Fg.rf _ _⟩
    rw [List.drop_eq_nil_of_le (by omega)]
    unfold f_X9_isSame_84
    rw [gi_53 x.1.1, bs, o.1, if_pos (nI_le (by omega) (by omega))]
    rfl
  | succ m ih =>
    intro n h k F hk hn x o hN hs
    obtain ⟨n, rfl⟩ : ∃ j, n = j + 1 := ⟨n - 1, by omega⟩
    have hkl : k < O.length := by omega
    obtain ⟨hc, hC⟩ := hO _ (List.getElem_mem hkl)
    have hdrop : O.drop k = O[k] :: O.drop (k + 1) := List.drop_eq_getElem_cons hkl
    rw [hdrop]
    show ∃ h', _ = some (bI (if fzC A O[k] = true then agF B A N (O.drop (k + 1)) F else match wkA B A F O[k] with
      | .error _ => false
      | .ok v => if v = N O[k] then agF B A N (O.drop (k + 1)) (upF F O[k] v) else false), h') ∧ _
    rcases sm1 W fA hO x.1 o hN hkl a b 1 n with ⟨ez, e⟩ | ⟨ez, e⟩
    · rw [e, if_pos ez]
      exact ih n h (k + 1) F (by omega) (by omega) x o hN hs
    · rw [if_neg (by rw [ez]; decide)]
      obtain ⟨v, h1, e1, f1, r1⟩ := r_work W (Or.inr (Or.inl rfl)) fA hc hC ez x hs
      rw [e v h1 e1 f1]
      have f2 : Fg h (sJ h1 63 O[k] v) QZ := (f1.mono (fun a i q => Or.inr q)).tr (Fg.sj (Or.inl rfl))
      have x2 := x.1.qz f2
      have n2 : ∀ d, d < 258 → aJ (sJ h1 63 O[k] v) 62 d = N d := fun d hd => by rw [f2.j (by unfold QZ QV; omega)]; exact hN d hd
      rcases r1 with ⟨y, s, a1, a2, a3⟩ | ⟨a1, a2⟩
      · have y5 : aI h1 53 28 ≠ -1 := by
          rw [a2]
          have := wk_y a1
          exact nI_nm (by omega)
        rw [if_neg (fun y => y5 y.1), a1, show (1 : Int32) &&& 0 = 0 from by decide]
        obtain ⟨h3, e3, f3⟩ := sm84_0 W fA hO a b m n (sJ h1 63 O[k] v) (k + 1) (by omega) (by omega) x2 (o.qz f2) n2 (Or.inl y5)
        exact ⟨h3, e3, f2.tr f3⟩
      · have bv := wkA_bd W fA hc hC a1
        have xk : Ck (sJ h1 63 O[k] v) B A 60 (upF F O[k] v) := by
          refine ⟨x2, fun d hd hcd => ?_, fun d hd => ?_, fun d => ?_⟩
          · rw [sJ_J]
            unfold upF
            by_cases qd : d = O[k]
            · rw [if_pos ⟨rfl, qd⟩, if_pos qd]
            · rw [if_neg (fun y => qd y.2), if_neg qd, f1.j (by unfold QV; omega)]; exact x.2.1 d hd hcd
          · unfold upF
            by_cases qd : d = O[k]
            · rw [qd, hC] at hd; cases hd
            · rw [if_neg qd]; exact x.2.2.1 d hd
          · unfold upF
            by_cases qd : d = O[k]
            · rw [if_pos qd]; exact bv
            · rw [if_neg qd]; exact x.2.2.2 d
        rw [a1]
        simp only []
        by_cases q : v = N O[k]
        · rw [if_pos ⟨a2, q⟩, if_pos q, show (1 : Int32) &&& 1 = 1 from by decide]
          obtain ⟨h3, e3, f3⟩ := ih n (sJ h1 63 O[k] v) (k + 1) (upF F O[k] v) (by omega) (by omega) xk (o.qz f2) n2 a2
          exact ⟨h3, e3, f2.tr f3⟩
        · rw [if_neg (fun y => q y.2), if_neg q, show (1 : Int32) &&& 0 = 0 from by decide]
          obtain ⟨h3, e3, f3⟩ := sm84_0 W fA hO a b m n (sJ h1 63 O[k] v) (k + 1) (by omega) (by omega) x2 (o.qz f2) n2 (Or.inr ⟨_, xk, a2⟩)
          exact ⟨h3, e3, f2.tr f3⟩
theorem sm25 (W : WfB B) (fA : WfA A (bT B) (bL B)) (hz : ∀ d, isC B A d = false → N d = 0) (l1 : Int32) : ∀ (m n : Nat) (h : AH) (i : Nat), i + m = 258 → m < n → Cr h B A 60 → (∀ d, d < 258 → aJ h 62 d = N d) → (∀ d, d < i → aJ h 63 d = N d) →
    ∃ h', f_X9_isSame_25 53 l1 n h (nI i) = some h' ∧ Fg h h' (fun a _ => a = 63) ∧ ∀ d, d < 258 → aJ h' 63 d = N d := by
  intro m
  induction m with
  | zero =>
    intro n h i hi hn x hN hF
    obtain ⟨n, rfl⟩ : ∃ j, n = j + 1 := ⟨n - 1, by omega⟩
    refine ⟨h, ?_, Fg.rf _ _, fun d hd => hF d (by omega)⟩
    unfold f_X9_isSame_25
    rw [if_pos (show (258 : Int32) ≤ nI i from nI_le (a := 258) (by omega) (by omega))]
  | succ m ih =>
    intro n h i hi hn x hN hF
    obtain ⟨n, rfl⟩ : ∃ j, n = j + 1 := ⟨n - 1, by omega⟩
    have S := x.1
    have hi8 : i < 258 := by omega
    have cA := r_isCell S W x.2.1 x.2.2.1 x.2.2.2 fA hi8
    have hu : f_X9_isSame_25 53 l1 (n + 1) h (nI i) = f_X9_isSame_25 53 l1 n (sJ h 63 i (N i)) (nI (i + 1)) := by
      conv => lhs; unfold f_X9_isSame_25
      rw [if_neg (show ¬ (258 : Int32) ≤ nI i from nI_ge (b := 258) hi8 (by decide)), g_53_14 S, bs, g_53_11 S, bs, cA, bs]
      cases eA : isC B A i with
      | false => rw [if_pos (show bI false = 0 from rfl), bs, st_63 S hi8, bs, nI_1, hz i eA]
      | true => rw [if_neg (show ¬ bI true = 0 by decide), g_53_13 S, bs, ld_62 S hi8, bs, bs, st_63 S hi8, bs, nI_1, hN i hi8]
    rw [hu]
    have f1 : Fg h (sJ h 63 i (N i)) (fun a _ => a = 63) := Fg.sj rfl
    have x1 : Cr (sJ h 63 i (N i)) B A 60 := x.fg f1 (by omega) (by omega) (by omega) (by omega) (by omega) (by omega)
    obtain ⟨h2, e2, f2, g2⟩ := ih n _ (i + 1) (by omega) (by omega) x1 (fun d hd => by rw [f1.j (by omega)]; exact hN d hd) (fun d hd => by
      rw [sJ_J]
      by_cases q : d = i
      · rw [if_pos ⟨rfl, q⟩, q]
      · rw [if_neg (fun y => q y.2)]; exact hF d (by omega))
    exact ⟨h2, e2, f1.tr f2, g2⟩
theorem InvR.fs {h h' : AH} {S : SX} {Q : Nat → Nat → Prop} (x : InvR h S) (f : Fg h h' Q) (hq : ∀ a i, Q a i → QO a i ∨ (a = 53 ∧ (i = 28 ∨ i = 29))) (e28 : aI h' 53 28 = aI h 53 28) (e29 : aI h' 53 29 = aI h 53 29) : InvR h' S := by
  have n : ∀ a i, ¬ QO a i → ¬ (a = 53 ∧ (i = 28 ∨ i = 29)) → ¬ Q a i := fun a i q q2 y => (hq a i y).elim q q2
  obtain ⟨a1, a2, a3, a4, a5, a6, a7, a8, ⟨c1, c2, c3, c4⟩, a10, a11⟩ := x
  refine ⟨f.S a1, f.B a2 (n _ _ (by unfold QO; omega) (by omega)) (n _ _ (by unfold QO; omega) (by omega)) (fun i => n _ _ (by unfold QO; omega) (by omega)) (fun i => n _ _ (by unfold QO; omega) (by omega)) (fun i => n _ _ (by unfold QO; omega) (by omega)), a3.fg f (n _ _ (by unfold QO; omega) (by omega)) (fun i => n _ _ (by unfold QO; omega) (by omega)) (fun i => n _ _ (by unfold QO; omega) (by omega)), f.R a4 (fun i => n _ _ (by unfold QO; omega) (by omega)), f.R a5 (fun i => n _ _ (by unfold QO; omega) (by omega)), fun d hd => by rw [f.j (n _ _ (by unfold QO; omega) (by omega))]; exact a6 d hd, a7.fg f (n _ _ (by unfold QO; omega) (by omega)) (fun i => n _ _ (by unfold QO; omega) (by omega)), a8.fg f (n _ _ (by unfold QO; omega) (by omega)) (fun i => n _ _ (by unfold QO; omega) (by omega)), ⟨?_, ?_, ?_, ?_⟩, a10.fg f (n _ _ (by unfold QO; omega) (by omega)) (n _ _ (by unfold QO; omega) (by omega)) (n _ _ (by unfold QO; omega) (by omega)) (n _ _ (by unfold QO; omega) (by omega)) (n _ _ (by unfold QO; omega) (by omega)), a11.fg f (n _ _ (by unfold QO; omega) (by omega)) (fun i => n _ _ (by unfold QO; omega) (by omega)) (fun i => n _ _ (by unfold QO; omega) (by omega))⟩
  · rw [f.i (n _ _ (by unfold QO; omega) (by omega))]; exact c1
  · rw [f.i (n _ _ (by unfold QO; omega) (by omega))]; exact c2
  · rw [e28]; exact c3
  · rw [e29]; exact c4
theorem r_isSame {h : AH} {S : SX} (W : WfS S) (x : InvR h S) : ∃ h', f_X9_isSame h 53 = some (bI (agF (tB S) (tP S) (tN S) (orS S) (tN S)), h') ∧ InvR h' S ∧ Fg h h' QY := by
  have Sx := x.1
  have x0 := x.c0 0
  have S0 := x0.1
  unfold f_X9_isSame
  rw [if_pos (k_53 Sx), pi_53 Sx, bs, gi_53 S0, bs, x0.f1]
  cases eo : tO S with
  | false =>
    have ho : orS S = [] := by unfold orS; rw [if_neg (by rw [eo]; decide)]
    rw [if_neg (show ¬ bI (!false) = 0 by decide), ho]
    exact ⟨_, rfl, x0, c0_fg 0⟩
  | true =>
    have hor : orS S = orA (isC (tB S) (tP S)) (rdB (tB S) (tP S)) := by unfold orS; rw [if_pos eo]
    obtain ⟨okp, -⟩ := W.2.2.2.2.2.2.1 eo
    have hal : alB (tB S) (tP S) = true := okp.2.2.2.2
    have fP := W.2.2.2.2.1
    rw [if_pos (show bI (!true) = 0 from rfl), hor]
    have xr : Cr (sI h 53 0 0) (tB S) (tP S) 60 := ⟨S0, x0.2.1, S0.b (Or.inr (Or.inl rfl)), x0.2.2.2.2.1⟩
    obtain ⟨h1, e1, f1, -, o1⟩ := r_arrange W.1 (Or.inr (Or.inl rfl)) fP xr
    have S1 := f1.S S0
    have x1 := xr.qa (Or.inr (Or.inl rfl)) f1
    have n1 : ∀ d, d < 258 → aJ h1 62 d = tN S d := fun d hd => by rw [f1.j (by unfold QA; omega)]; exact x0.2.2.2.2.2.1 d hd
    obtain ⟨h2, e2, f2, g2⟩ := sm25 W.1 fP okp.2.2.2.1 (bI true) 258 FU h1 0 rfl (by unfold FU; omega) x1 n1 (fun d hd => by omega)
    have e2' : f_X9_isSame_25 53 (bI true) FU h1 0 = some h2 := e2
    have S2 := f2.S S1
    have x2 : Cr h2 (tB S) (tP S) 60 := x1.fg f2 (by omega) (by omega) (by omega) (by omega) (by omega) (by omega)
    obtain ⟨h3, eh3⟩ : ∃ z, z = sI h2 53 28 (-1) := ⟨_, rfl⟩
    have f3 : Fg h2 h3 (fun a i => a = 53 ∧ i = 28) := by rw [eh3]; exact Fg.si ⟨rfl, rfl⟩
    have S3 := f3.S S2
    have x3 : Cr h3 (tB S) (tP S) 60 := x2.fg f3 (by omega) (by omega) (by omega) (by omega) (by omega) (by omega)
    have k3 : Ck h3 (tB S) (tP S) 60 (tN S) := ⟨x3, fun d hd _ => by rw [f3.j (by omega)]; exact g2 d hd, okp.2.2.2.1, okp.2.2.1⟩
    have od3 : OdR h3 (orA (isC (tB S) (tP S)) (rdB (tB S) (tP S))) := ⟨by rw [f3.i (by omega), f2.i (by omega)]; exact o1.1, o1.2.1, fun i hi => by rw [f3.i (by omega), f2.i (by omega)]; exact o1.2.2.1 i hi⟩
    have g := or_gd (C := isC (tB S) (tP S)) (R := rdB (tB S) (tP S)) (fun c d q => rdB_c c d q)
    have h8 := o1.2.1
    obtain ⟨h4, e4, f4⟩ := sm84 (N := tN S) W.1 fP (fun c hc => g.2.1 c hc) (aI h2 53 28) (aI h2 53 29) (orA (isC (tB S) (tP S)) (rdB (tB S) (tP S))).length FU h3 0 (tN S) (by omega) (by unfold FU; omega) k3 od3 (fun d hd => by rw [f3.j (by omega), f2.j (by omega)]; exact n1 d hd) (by rw [eh3, sI_I, if_pos ⟨rfl, rfl⟩])
    rw [List.drop_zero] at e4
    have e4' : f_X9_isSame_84 53 (aI h2 53 28) (aI h2 53 29) FU h3 (bI true) 0 = _ := e4
    have S4 := f4.S S3
    have S5 : Sh (sI h4 53 28 (aI h2 53 28)) := S4.sI
    have f5 : Fg h4 (sI (sI h4 53 28 (aI h2 53 28)) 53 29 (aI h2 53 29)) (fun a i => a = 53 ∧ (i = 28 ∨ i = 29)) := Fg.tr (Fg.si ⟨rfl, Or.inl rfl⟩) (Fg.si ⟨rfl, Or.inr rfl⟩)
    have FF : Fg (sI h 53 0 0) (sI (sI h4 53 28 (aI h2 53 28)) 53 29 (aI h2 53 29)) (fun a i => QA a i ∨ QZ a i ∨ (a = 53 ∧ (i = 28 ∨ i = 29))) := (((f1.mono (fun a i q => Or.inl q)).tr (f2.mono (fun a i q => Or.inr (Or.inl (Or.inl q))))).tr (f3.mono (fun a i q => by right; right; omega))).tr ((f4.mono (fun a i q => Or.inr (Or.inl q))).tr (f5.mono (fun a i q => Or.inr (Or.inr q))))
    rw [g_53_11 S0, bs, e1, bs, hal]
    simp only []
    rw [e2', bs, gi_53 S2, bs, gi_53 S2, bs, pi_53 S2, bs, ← eh3, e4', bs]
    simp only []
    rw [pi_53 S4, bs, pi_53 S5, bs, bz_b, bs]
    refine ⟨_, rfl, x0.fs FF (fun a i q => ?_) ?_ ?_, (c0_fg 0).tr (FF.mono (fun a i q => by unfold QA QZ QV at q; unfold QY; omega))⟩
    · unfold QA QZ QV at q
      unfold QO
      omega
    · rw [sI_I, if_neg (by decide), sI_I, if_pos ⟨rfl, rfl⟩, f2.i (by omega), f1.i (by unfold QA; omega)]
    · rw [sI_I, if_pos ⟨rfl, rfl⟩, f2.i (by omega), f1.i (by unfold QA; omega)]
end RSame
