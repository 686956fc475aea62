/-! THE OTHER ONE: judge: fresh numbers, the walk along the order -/
def QX (a i : Nat) : Prop := a = 63 ∨ a = 67 ∨ a = 69 ∨ a = 70 ∨ a = 75 ∨ (a = 53 ∧ (i = 22 ∨ i = 26 ∨ i = 27 ∨ i = 28 ∨ i = 29 ∨ i = 32 ∨ i = 34))
def NoR (h : AH) (w : List Nat) : Prop := aI h 53 22 = nI w.length ∧ w.length ≤ 258 ∧ ∀ i (hi : i < w.length), aI h 67 i = nI w[i]
def OdR (h : AH) (O : List Nat) : Prop := aI h 53 36 = nI O.length ∧ O.length ≤ 258 ∧ ∀ i (hi : i < O.length), aI h 71 i = nI O[i]
theorem ps_y {x : Int64} {t : List Int64} {y : Nat} (h : psJ x t = .error y) : y ≤ 3 := by
  unfold psJ at h
  split at h <;> first | (cases h; omega) | (cases h)
theorem rk_y {k y : Nat} {st : List Int64} (h : rkS k st = .error y) : y ≤ 3 := by
  unfold rkS at h
  repeat' (split at h)
  all_goals first | exact ps_y h | (cases h; done) | (cases h; omega)
theorem wk1_y {B : BK} {A : AP} {F : Nat → Int64} {c s y : Nat} {st : List Int64} (h : wk1 B A F c s st = .error y) : y ≤ 3 := by
  unfold wk1 at h
  repeat' (split at h)
  all_goals first | exact ps_y h | exact rk_y h | (cases h; done)
theorem wkR_y {B : BK} {A : AP} {F : Nat → Int64} {c y k : Nat} : ∀ n, wkR B A F c n = .error (y, k) → y ≤ 3 := by
  intro n
  induction n with
  | zero => intro h; cases h
  | succ n ih =>
    intro h
    unfold wkR at h
    split at h
    · rename_i e he
      cases h
      exact ih he
    · split at h
      · rename_i y' hy
        cases h
        exact wk1_y hy
      · cases h
theorem wk_y {B : BK} {A : AP} {F : Nat → Int64} {c y k : Nat} (h : wkA B A F c = .error (y, k)) : y ≤ 3 := by
  unfold wkA at h
  split at h
  · rename_i e he
    cases h
    exact wkR_y _ he
  · cases h
section RJudge
variable {B : BK} {P A : AP} {N : Nat → Int64}
theorem Cg.cr {h h' : AH} {F F' : Nat → Int64} {Q : Nat → Nat → Prop} (x : Cg h B P A N F) (f : Fg h h' Q) (hq : ∀ a i, Q a i → (a = 53 ∧ i ≠ 2 ∧ i ≠ 3) ∨ 63 ≤ a) (hF : ∀ d, d < 258 → aJ h' 63 d = F' d) : Cg h' B P A N F' := by
  have n : ∀ a i, a < 63 → a ≠ 53 → ¬ Q a i := fun a i h1 h2 q => by have := hq a i q; omega
  have n2 : ¬ Q 53 2 := fun q => by have := hq 53 2 q; omega
  have n3 : ¬ Q 53 3 := fun q => by have := hq 53 3 q; omega
  exact ⟨x.1.fg f n2 n3 (fun i => n _ i (by decide) (by decide)) (fun i => n _ i (by decide) (by decide)) (fun i => n _ i (by decide) (by decide)) (fun i => n _ i (by decide) (by decide)), x.2.1.fg f n2 n3 (fun i => n _ i (by decide) (by decide)) (fun i => n _ i (by decide) (by decide)) (fun i => n _ i (by decide) (by decide)) (fun i => n _ i (by decide) (by decide)), fun d hd => by rw [f.j (n 62 d (by decide) (by decide))]; exact x.2.2.1 d hd, hF⟩
theorem ju62 (W : WfB B) (fP : WfA P (bT B) (bL B)) (fA : WfA A (bT B) (bL B)) (hN : ∀ d, isC B P d = false → N d = 0) (op : Bool) (hop : op = true → ∀ d, N d = 0) : ∀ (m n : Nat) (h : AH) (i : Nat) (F : Nat → Int64), i + m = 258 → m < n → Cg h B P A N F → (∀ d, d < i → F d = stF B A N d) →
    ∃ h', f_X9_judge_62 53 (bI op) n h (nI i) = some h' ∧ Fg h h' (fun a _ => a = 63) ∧ Cg h' B P A N (stF B A N) := by
  intro m
  induction m with
  | zero =>
    intro n h i F hi hn x hF
    obtain ⟨n, rfl⟩ : ∃ j, n = j + 1 := ⟨n - 1, by omega⟩
    refine ⟨h, ?_, Fg.rf _ _, x.1, x.2.1, x.2.2.1, fun d hd => by rw [x.2.2.2 d hd, hF d (by omega)]⟩
    unfold f_X9_judge_62
    rw [if_pos (show (258 : Int32) ≤ nI i from nI_le (a := 258) (by omega) (by omega))]
  | succ m ih =>
    intro n h i F hi hn x hF
    obtain ⟨n, rfl⟩ : ∃ j, n = j + 1 := ⟨n - 1, by omega⟩
    have S := x.1.1
    have hi8 : i < 258 := by omega
    have cA := r_isCell S W x.2.1.2.1 x.2.1.2.2.1 x.2.1.2.2.2 fA hi8
    have cP := r_isCell S W x.1.2.1 x.1.2.2.1 x.1.2.2.2 fP hi8
    have hu : f_X9_judge_62 53 (bI op) (n + 1) h (nI i) = f_X9_judge_62 53 (bI op) n (sJ h 63 i (stF B A N i)) (nI (i + 1)) := by
      conv => lhs; unfold f_X9_judge_62
      rw [if_neg (show ¬ (258 : Int32) ≤ nI i from nI_ge (b := 258) hi8 (by decide)), g_53_14 S, bs, g_53_10 S, bs, cA, bs]
      unfold stF
      cases eA : isC B A i with
      | false => rw [if_pos (by decide), bs, st_63 S hi8, bs, if_neg (by decide), nI_1]
      | true =>
        rw [if_neg (by decide), if_pos rfl]
        cases eo : op with
        | true => rw [if_neg (by decide), bs, st_63 S hi8, bs, nI_1, hop eo i]
        | false =>
          rw [if_pos (by decide), g_53_11 S, bs, cP, bs]
          cases eP : isC B P i with
          | false => rw [if_pos (by decide), bs, st_63 S hi8, bs, nI_1, hN i eP]
          | true => rw [if_neg (by decide), g_53_13 S, bs, ld_62 S hi8, bs, bs, st_63 S hi8, bs, nI_1, x.2.2.1 i hi8]
    rw [hu]
    have f1 : Fg h (sJ h 63 i (stF B A N i)) (fun a _ => a = 63) := Fg.sj rfl
    have x1 : Cg (sJ h 63 i (stF B A N i)) B P A N (upF F i (stF B A N i)) := x.cr f1 (fun a j q => by omega) (fun d hd => by
      rw [sJ_J]
      unfold upF
      by_cases q : d = i
      · rw [if_pos ⟨rfl, q⟩, if_pos q]
      · rw [if_neg (fun y => q y.2), if_neg q]; exact x.2.2.2 d hd)
    obtain ⟨h2, e2, f2, x2⟩ := ih n _ (i + 1) _ (by omega) (by omega) x1 (fun d hd => by
      unfold upF
      by_cases q : d = i
      · rw [if_pos q, q]
      · rw [if_neg q]; exact hF d (by omega))
    exact ⟨h2, e2, f1.tr f2, x2⟩
theorem ju121 (W : WfB B) (fP : WfA P (bT B) (bL B)) (fA : WfA A (bT B) (bL B)) (hN : ∀ d, isC B P d = false → N d = 0) (op : Bool) {O : List Nat} (hO : ∀ c, c ∈ O → c < 258 ∧ isC B A c = true) : ∀ (m n : Nat) (h : AH) (k : Nat) (F : Nat → Int64) (w : List Nat), k + m = O.length → m < n → w.length ≤ k → Cg h B P A N F → (∀ d, isC B A d = false → F d = 0) → (∀ d, bdJ (F d)) → OdR h O → NoR h w → aI h 53 28 = -1 →
    ∃ h', Fg h h' QX ∧ ((∃ c y s, jdF B P A N op (O.drop k) F w = .error (c, y, s) ∧ f_X9_judge_121 53 (bI op) n h (nI k) = (Option.bind (f_X9_refuse h' 53 (-2)) fun w => match w with
        | (x43, h44) => some (.inl (x43, h44))) ∧ aI h' 53 26 = 2 ∧ aI h' 53 27 = nI c ∧ aI h' 53 28 = nI y ∧ aI h' 53 29 = nI s) ∨
      ∃ F' w', jdF B P A N op (O.drop k) F w = .ok (F', w') ∧ f_X9_judge_121 53 (bI op) n h (nI k) = some (.inr h') ∧ aI h' 53 26 = aI h 53 26 ∧ aI h' 53 27 = aI h 53 27 ∧ aI h' 53 28 = -1 ∧ (∀ d, d < 258 → aJ h' 63 d = F' d) ∧ NoR h' w') := by
  intro m
  induction m with
  | zero =>
    intro n h k F w hk hn hw x hF hb R43 R31 h28
    obtain ⟨n, rfl⟩ : ∃ j, n = j + 1 := ⟨n - 1, by omega⟩
    have h8 := R43.2.1
    refine ⟨h, Fg.rf _ _, Or.inr ⟨F, w, ?_, ?_, rfl, rfl, h28, x.2.2.2, R31⟩⟩
    · rw [List.drop_eq_nil_of_le (by omega)]
      rfl
    · unfold f_X9_judge_121
      rw [gi_53 x.1.1, bs, R43.1, if_pos (nI_le (by omega) (by omega))]
  | succ m ih =>
    intro n h k F w hk hn hw x hF hb R43 R31 h28
    obtain ⟨n, rfl⟩ : ∃ j, n = j + 1 := ⟨n - 1, by omega⟩
    have S := x.1.1
    have h8 := R43.2.1
    have hkl : k < O.length := by omega
    obtain ⟨c, ec⟩ : ∃ z, z = O[k] := ⟨_, rfl⟩
    obtain ⟨hc, hC⟩ : c < 258 ∧ isC B A c = true := by rw [ec]; exact hO _ (List.getElem_mem hkl)
    have hdrop : O.drop k = c :: O.drop (k + 1) := by rw [ec]; exact List.drop_eq_getElem_cons hkl
    have hget : aI h 71 k = nI c := by rw [ec]; exact R43.2.2 k hkl
    have hfz := r_isFrozen x.2.1.2.2.1 x.2.1.2.2.2 fA hc
    have hu0 : f_X9_judge_121 53 (bI op) (n + 1) h (nI k) = if bI (fzC A c) = 0 then (Option.bind (f_X9_isTouched h 53 (nI c) (bI op)) fun w => match w with
        | (x28, h29) => if x28 = 0 then f_X9_judge_121 53 (bI op) n h29 (nI (k + 1)) else Option.bind (gP h29 9 53 10) fun x30 => Option.bind (f_X9_work h29 53 x30 (nI c)) fun w => match w with
          | (x31, h32) => Option.bind (gI h32 9 53 28) fun x33 => if x33 = (-1) then Option.bind (gP h32 9 53 14) fun x34 => Option.bind (stJ h32 x34 (nI c) x31) fun h35 => Option.bind (gP h35 9 53 23) fun x36 => Option.bind (gI h35 9 53 22) fun x37 => Option.bind (stI h35 x36 x37 (nI c)) fun h38 => Option.bind (gI h38 9 53 22) fun x39 => Option.bind (pI h38 9 53 22 (x39 + 1)) fun h40 => f_X9_judge_121 53 (bI op) n h40 (nI (k + 1)) else Option.bind (pI h32 9 53 27 (nI c)) fun h41 => Option.bind (pI h41 9 53 26 2) fun h42 => Option.bind (f_X9_refuse h42 53 (-2)) fun w => match w with
            | (x43, h44) => some (.inl (x43, h44))) else f_X9_judge_121 53 (bI op) n h (nI (k + 1)) := by
      conv => lhs; unfold f_X9_judge_121
      rw [gi_53 S, bs, R43.1, if_neg (nI_ge hkl (by omega)), g_53_37 S, bs, ld_71 S (by omega), bs, hget, g_53_10 S, bs, hfz, bs, nI_1]
    rw [hdrop, hu0]
    show ∃ h', _ ∧ ((∃ c' y s, (if fzC A c = true ∨ (op = false ∧ tcG B P A N F c = false) then jdF B P A N op (O.drop (k + 1)) F w else match wkA B A F c with
      | .error (y, k) => .error (c, y, k)
      | .ok v => jdF B P A N op (O.drop (k + 1)) (upF F c v) (w ++ [c])) = .error (c', y, s) ∧ _) ∨ ∃ F' w', (if fzC A c = true ∨ (op = false ∧ tcG B P A N F c = false) then jdF B P A N op (O.drop (k + 1)) F w else match wkA B A F c with
      | .error (y, k) => .error (c, y, k)
      | .ok v => jdF B P A N op (O.drop (k + 1)) (upF F c v) (w ++ [c])) = .ok (F', w') ∧ _)
    cases ez : fzC A c with
    | true =>
      rw [if_neg (show ¬ bI true = 0 by decide), if_pos (Or.inl rfl)]
      exact ih n h (k + 1) F w (by omega) (by omega) (by omega) x hF hb R43 R31 h28
    | false =>
      obtain ⟨h1, e1, f1⟩ := r_isTouched W fP fA hN hF x hc hC ez op
      have f1' : Fg h h1 QX := f1.mono (fun a i q => by unfold QT at q; unfold QX; omega)
      have x1 : Cg h1 B P A N F := x.qt f1
      have S1 := x1.1.1
      have R43' : OdR h1 O := by
        refine ⟨by rw [f1.i (by unfold QT; omega)]; exact R43.1, R43.2.1, fun i hi => by rw [f1.i (by unfold QT; omega)]; exact R43.2.2 i hi⟩
      have R31' : NoR h1 w := by
        refine ⟨by rw [f1.i (by unfold QT; omega)]; exact R31.1, R31.2.1, fun i hi => by rw [f1.i (by unfold QT; omega)]; exact R31.2.2 i hi⟩
      have h28' : aI h1 53 28 = -1 := by rw [f1.i (by unfold QT; omega)]; exact h28
      have i26 : aI h1 53 26 = aI h 53 26 := f1.i (by unfold QT; omega)
      have i27 : aI h1 53 27 = aI h 53 27 := f1.i (by unfold QT; omega)
      rw [if_pos (show bI false = 0 from rfl), e1, bs]
      simp only []
      by_cases q : (op || tcG B P A N F c) = false
      · have q' := q
        rw [Bool.or_eq_false_iff] at q'
        rw [q, if_pos (show bI false = 0 from rfl), if_pos (Or.inr q')]
        obtain ⟨h2, f2, r2⟩ := ih n h1 (k + 1) F w (by omega) (by omega) (by omega) x1 hF hb R43' R31' h28'
        rw [i26, i27] at r2
        exact ⟨h2, f1'.tr f2, r2⟩
      · have q1 : (op || tcG B P A N F c) = true := by
          cases e : (op || tcG B P A N F c) with
          | true => rfl
          | false => exact absurd e q
        rw [q1, if_neg (show ¬ bI true = 0 by decide), if_neg (fun y => by
          rcases y with y | y
          · cases y
          · rw [y.1, y.2] at q1; cases q1), g_53_10 S1, bs]
        have xk : Ck h1 B A 59 F := ⟨x1.2.1, fun d hd _ => x1.2.2.2 d hd, hF, hb⟩
        obtain ⟨v, h2, e2, f2, r2⟩ := r_work W (Or.inl rfl) fA hc hC ez xk h28'
        have f2' : Fg h1 h2 QX := f2.mono (fun a i q => by unfold QV at q; unfold QX; omega)
        have S2 := f2.S S1
        rw [e2, bs]
        simp only []
        rw [gi_53 S2, bs]
        rcases r2 with ⟨y, s, a1, a2, a3⟩ | ⟨a1, a2⟩
        · have y5 : ¬ nI y = -1 := by
            have := wk_y a1
            exact nI_nm (by omega)
          rw [a1, a2, if_neg y5, pi_53 S2, bs]
          have S3 : Sh (sI h2 53 27 (nI c)) := S2.sI
          rw [pi_53 S3, bs]
          refine ⟨sI (sI h2 53 27 (nI c)) 53 26 2, (f1'.tr f2').tr ((Fg.si (by unfold QX; omega)).tr (Fg.si (by unfold QX; omega))), Or.inl ⟨c, y, s, rfl, rfl, ?_, ?_, ?_, ?_⟩⟩
          · rw [sI_I, if_pos ⟨rfl, rfl⟩]
          · rw [sI_I, if_neg (by decide), sI_I, if_pos ⟨rfl, rfl⟩]
          · rw [sI_I, if_neg (by decide), sI_I, if_neg (by decide)]; exact a2
          · rw [sI_I, if_neg (by decide), sI_I, if_neg (by decide)]; exact a3
        · obtain ⟨h3, eh3⟩ : ∃ z, z = sJ h2 63 c v := ⟨_, rfl⟩
          have f3 : Fg h2 h3 QX := by rw [eh3]; exact Fg.sj (by unfold QX; omega)
          have S3 := f3.S S2
          have w22 : aI h3 53 22 = nI w.length := by rw [eh3, sJ_I, f2.i (by unfold QV; omega)]; exact R31'.1
          obtain ⟨h4, eh4⟩ : ∃ z, z = sI h3 67 w.length (nI c) := ⟨_, rfl⟩
          have f4 : Fg h3 h4 QX := by rw [eh4]; exact Fg.si (by unfold QX; omega)
          have S4 := f4.S S3
          have w22' : aI h4 53 22 = nI w.length := by rw [eh4, sI_I, if_neg (by omega)]; exact w22
          obtain ⟨h5, eh5⟩ : ∃ z, z = sI h4 53 22 (nI (w.length + 1)) := ⟨_, rfl⟩
          have f5 : Fg h4 h5 QX := by rw [eh5]; exact Fg.si (by unfold QX; omega)
          have F5 : Fg h1 h5 QX := ((f2'.tr f3).tr f4).tr f5
          have j63 : ∀ d, d < 258 → aJ h5 63 d = upF F c v d := fun d hd => by
            rw [eh5, sI_J, eh4, sI_J, eh3, sJ_J]
            unfold upF
            by_cases qd : d = c
            · rw [if_pos ⟨rfl, qd⟩, if_pos qd]
            · rw [if_neg (fun y => qd y.2), if_neg qd, f2.j (by unfold QV; omega)]; exact x1.2.2.2 d hd
          have x5 : Cg h5 B P A N (upF F c v) := x1.cr F5 (fun a i q => by unfold QX at q; omega) j63
          have o5 : OdR h5 O := ⟨by rw [F5.i (by unfold QX; omega)]; exact R43'.1, R43'.2.1, fun i hi => by rw [F5.i (by unfold QX; omega)]; exact R43'.2.2 i hi⟩
          have g5 : ∀ i, i ≠ 22 → i ≠ 28 → i ≠ 29 → i ≠ 32 → aI h5 53 i = aI h1 53 i := fun i z1 z2 z3 z4 => by
            rw [eh5, sI_I, if_neg (by omega), eh4, sI_I, if_neg (by omega), eh3, sJ_I, f2.i (by unfold QV; omega)]
          have n5 : NoR h5 (w ++ [c]) := by
            refine ⟨by rw [eh5, sI_I, if_pos ⟨rfl, rfl⟩, List.length_append]; rfl, by rw [List.length_append]; simp; omega, fun i hi => ?_⟩
            rw [List.length_append] at hi
            rw [eh5, sI_I, if_neg (by omega), eh4, sI_I]
            by_cases qi : i = w.length
            · subst qi
              rw [if_pos ⟨rfl, rfl⟩]
              simp
            · rw [if_neg (fun y => qi y.2), eh3, sJ_I, f2.i (by unfold QV; omega), R31'.2.2 i (by simp at hi; omega), List.getElem_append_left]
          have b28 : aI h5 53 28 = -1 := by rw [eh5, sI_I, if_neg (by omega), eh4, sI_I, if_neg (by omega), eh3, sJ_I]; exact a2
          obtain ⟨h6, f6, r6⟩ := ih n h5 (k + 1) (upF F c v) (w ++ [c]) (by omega) (by omega) (by rw [List.length_append]; simp; omega) x5 (fun d hd => by
            unfold upF
            by_cases qd : d = c
            · rw [qd, hC] at hd; cases hd
            · rw [if_neg qd]; exact hF d hd) (fun d => by
            unfold upF
            by_cases qd : d = c
            · rw [if_pos qd]; exact wkA_bd W fA hc hC a1
            · rw [if_neg qd]; exact hb d) o5 n5 b28
          rw [g5 26 (by decide) (by decide) (by decide) (by decide), g5 27 (by decide) (by decide) (by decide) (by decide), i26, i27] at r6
          rw [a2, if_pos rfl, g_53_14 S2, bs, st_63 S2 hc, bs, ← eh3, g_53_23 S3, bs, gi_53 S3, bs, w22, st_67 S3 (by omega), bs, ← eh4, gi_53 S4, bs, w22', nI_1, pi_53 S4, bs, ← eh5, a1]
          exact ⟨h6, (f1'.tr F5).tr f6, r6⟩
end RJudge
