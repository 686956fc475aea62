/-! the Judge: weigh -/
def wkA (B : BK) (A : AP) (N : Nat → Int64) (c : Nat) : Except (Nat × Nat) Int64 := match wkR B A N c (nsN B c) with
  | .error e => .error e
  | .ok st => .ok (st.headD 0)
def upF (F : Nat → Int64) (c : Nat) (v : Int64) : Nat → Int64 := fun d => if d = c then v else F d
def jdF (B : BK) (P A : AP) (N : Nat → Int64) (op : Bool) : List Nat → (Nat → Int64) → List Nat → Except (Nat × Nat × Nat) ((Nat → Int64) × List Nat)
  | [], F, w => .ok (F, w)
  | c :: r, F, w => if fzC A c = true ∨ (op = false ∧ tcG B P A N F c = false) then jdF B P A N op r F w else match wkA B A F c with
    | .error (y, k) => .error (c, y, k)
    | .ok v => jdF B P A N op r (upF F c v) (w ++ [c])
def stF (B : BK) (A : AP) (N : Nat → Int64) (c : Nat) : Int64 := if isC B A c = true then N c else 0
section Weigh
variable {h : AH} {B : BK} {P A : AP} {N F : Nat → Int64} {p T Ls : Nat}
theorem q_work (S : Sh h) (W : WfB B) (RB : RepB h B) (hp : p ≤ 16) (wp : WPl h p) (RA : RepC h p A) (fA : WfA A T Ls) (hF : ∀ d, d < 258 → aJ h 33 d = F d) {c : Nat} (hc : c < 258) (hC : isC B A c = true) :
    ∃ h' b, f_X7_work h 49 (nI c) p 33 = some (b, h') ∧ Fr h h' (fun a => a = 49 ∨ a = 50) ∧ ((∃ y k, wkA B A F c = .error (y, k) ∧ b = 0 ∧ aI h' 49 3 = nI y ∧ aI h' 49 4 = nI k) ∨ ∃ v, wkA B A F c = .ok v ∧ b = 1 ∧ aJ h' 49 5 = v ∧ bdJ v) := by
  obtain ⟨h1, eh1⟩ : ∃ z, z = sP h 49 6 (some p) := ⟨_, rfl⟩
  have f1 : Fr h h1 (fun a => a = 49 ∨ a = 50) := by rw [eh1]; exact Fr.sp (Or.inl rfl) (by decide)
  obtain ⟨h2, eh2⟩ : ∃ z, z = sP h1 49 7 (some 33) := ⟨_, rfl⟩
  have f2 : Fr h1 h2 (fun a => a = 49 ∨ a = 50) := by rw [eh2]; exact Fr.sp (Or.inl rfl) (by decide)
  obtain ⟨h3, eh3⟩ : ∃ z, z = sI h2 49 2 0 := ⟨_, rfl⟩
  have f3 : Fr h2 h3 (fun a => a = 49 ∨ a = 50) := by rw [eh3]; exact Fr.si (Or.inl rfl)
  obtain ⟨h4, eh4⟩ : ∃ z, z = sI h3 49 3 0 := ⟨_, rfl⟩
  have f4 : Fr h3 h4 (fun a => a = 49 ∨ a = 50) := by rw [eh4]; exact Fr.si (Or.inl rfl)
  have ff := ((f1.tr f2).tr f3).tr f4
  have S1 := f1.S S
  have S2 := f2.S S1
  have S3 := f3.S S2
  have S4 := f4.S S3
  have x4 : Cw h4 B A p F := by
    refine ⟨S4, ?_, ?_, ff.R RA (fun a q1 q2 => by omega), ?_, ?_, fun d hd => by rw [ff.j (by omega)]; exact hF d hd⟩
    · unfold RepB
      rw [ff.i (a := 1) (by omega), ff.i (a := 2) (by omega), ff.i (a := 3) (by omega), ff.i (a := 4) (by omega)]
      exact RB
    · unfold WPl
      rw [ff.2.1, ff.2.2.1]
      refine ⟨wp.1, fun j hj => ?_, wp.2.2⟩
      rw [ff.p (by omega)]
      exact wp.2.1 j hj
    · rw [eh4, sI_P, eh3, sI_P, eh2, sP_P, if_neg (by decide), eh1, sP_P, if_pos ⟨rfl, rfl⟩]
    · rw [eh4, sI_P, eh3, sI_P, eh2, sP_P, if_pos ⟨rfl, rfl⟩]
  have w4 : Wk h4 [] := by
    refine ⟨?_, by decide, trivial⟩
    rw [eh4, sI_I, if_neg (by decide), eh3, sI_I, if_pos ⟨rfl, rfl⟩]
    rfl
  have z4 : aI h4 49 3 = 0 := by rw [eh4, sI_I, if_pos ⟨rfl, rfl⟩]
  have h24 := n24 W c
  obtain ⟨h5, f5, r5⟩ := work33 W hp fA hc hC (nsN B c) FU h4 0 [] (by omega) (by unfold FU; omega) x4 rfl w4 z4
  have hu : f_X7_work h 49 (nI c) p 33 = Option.bind (f_X7_work_33 49 (nI c) (nI (nsN B c)) FU h4 (nI 0)) fun w => match w with
      | .inl r9 => some r9
      | .inr h34 => Option.bind (f_X7_pop h34 49) fun w => match w with
        | (x35, h36) => Option.bind (pJ h36 7 49 5 x35) fun h37 => some (1, h37) := by
    unfold f_X7_work
    rw [if_pos (k_49 S), pp_49 S, bs, ← eh1, pp_49 S1, bs, ← eh2, pi_49 S2, bs, ← eh3, pi_49 S3, bs, ← eh4, g_49_0 S4, bs, q_stepsOf S4 x4.2.1 hc, bs]
    rfl
  rw [hu]
  have f5' := f5.g
  rcases r5 with ⟨y, k, e1, e2, e3, e4, -⟩ | ⟨r, e1, e2, e3⟩
  · refine ⟨h5, 0, by rw [e1, bs], ff.tr f5', Or.inl ⟨y, k, ?_, rfl, e3, e4⟩⟩
    unfold wkA
    rw [e2]
  · obtain ⟨i1, i2⟩ := wkR_len W fA hc hC (nsN B c) (Nat.le_refl _) r e2
    have hn0 : nsN B c ≠ 0 := by
      unfold isC at hC
      rw [Bool.and_eq_true] at hC
      have := hC.1
      unfold nsN
      simpa using this
    have h1 : r.length = 1 := by
      rw [i1]
      exact ((W.2.2 (kiN c) ki9).2.2).resolve_left hn0
    obtain ⟨v, rfl⟩ : ∃ v, r = [v] := by
      cases r with
      | nil => simp at h1
      | cons v t =>
        cases t with
        | nil => exact ⟨v, rfl⟩
        | cons _ _ => simp at h1
    have S5 := f5'.S S4
    obtain ⟨h6, e6, f6, -, -, -⟩ := q_pop S5 e3
    have S6 := f6.1.S S5
    refine ⟨sJ h6 49 5 v, 1, ?_, (ff.tr f5').tr (f6.1.g.tr (Fr.sj (Or.inl rfl))), Or.inr ⟨v, ?_, rfl, ?_, i2 v (List.mem_singleton.mpr rfl)⟩⟩
    · rw [e1, bs]
      show (Option.bind (f_X7_pop h5 49) fun w => match w with
        | (x35, h36) => Option.bind (pJ h36 7 49 5 x35) fun h37 => some ((1 : Int32), h37)) = _
      rw [e6, bs]
      show (Option.bind (pJ h6 7 49 5 v) fun h37 => some ((1 : Int32), h37)) = _
      rw [pj_49 S6, bs]
    · unfold wkA
      rw [e2]
      rfl
    · rw [sJ_J, if_pos ⟨rfl, rfl⟩]
theorem fails_go (S : Sh h) {c y k : Nat} (e1 : aI h 49 3 = nI y) (e2 : aI h 49 4 = nI k) : ∃ h', f_X1_fails h 30 (nI c) = some h' ∧ Fr h h' (fun a => a = 30) ∧ aI h' 30 5 = 2 ∧ aI h' 30 6 = nI c ∧ aI h' 30 7 = nI y ∧ aI h' 30 8 = nI k ∧ aP h' = aP h := by
  refine ⟨sI (sI (sI (sI h 30 5 2) 30 6 (nI c)) 30 7 (nI y)) 30 8 (nI k), ?_, Fr.tr (S := fun a => a = 30) (Fr.tr (S := fun a => a = 30) (Fr.si rfl) (Fr.si rfl)) (Fr.tr (S := fun a => a = 30) (Fr.si rfl) (Fr.si rfl)), ?_, ?_, ?_, ?_, rfl⟩
  · unfold f_X1_fails
    have S1 : Sh (sI h 30 5 2) := S.sI
    have S2 : Sh (sI (sI h 30 5 2) 30 6 (nI c)) := S1.sI
    have S3 : Sh (sI (sI (sI h 30 5 2) 30 6 (nI c)) 30 7 (nI y)) := S2.sI
    have g1 : aI (sI (sI h 30 5 2) 30 6 (nI c)) 49 3 = nI y := by rw [sI_I, if_neg (by decide), sI_I, if_neg (by decide), e1]
    have g2 : aI (sI (sI (sI h 30 5 2) 30 6 (nI c)) 30 7 (nI y)) 49 4 = nI k := by rw [sI_I, if_neg (by decide), sI_I, if_neg (by decide), sI_I, if_neg (by decide), e2]
    rw [if_pos (k_30 S), pi_30 S, bs, pi_30 S1, bs, g_30_2 S2, bs, gi_49 S2, bs, g1, pi_30 S2, bs, g_30_2 S3, bs, gi_49 S3, bs, g2, pi_30 S3, bs]
  · rw [sI_I, if_neg (by decide), sI_I, if_neg (by decide), sI_I, if_neg (by decide), sI_I, if_pos ⟨rfl, rfl⟩]
  · rw [sI_I, if_neg (by decide), sI_I, if_neg (by decide), sI_I, if_pos ⟨rfl, rfl⟩]
  · rw [sI_I, if_neg (by decide), sI_I, if_pos ⟨rfl, rfl⟩]
  · rw [sI_I, if_pos ⟨rfl, rfl⟩]
theorem wei63 (W : WfB B) (fP : WfA P T Ls) (fA : WfA A T Ls) (op : Bool) {O : List Nat} (hO : ∀ c, c ∈ O → isC B A c = true) : ∀ (m n : Nat) (h : AH) (k : Nat) (F : Nat → Int64) (w : List Nat), k + m = O.length → m < n → w.length ≤ k → Cj h B P A N F → Rw h 43 O → Rw h 31 w →
    ∃ h', Fr h h' (fun a => a = 30 ∨ a = 31 ∨ a = 32 ∨ a = 33 ∨ a = 49 ∨ a = 50) ∧ ((∃ c y s, jdF B P A N op (O.drop k) F w = .error (c, y, s) ∧ f_X1_weigh_63 30 (bI op) 43 n h (nI k) = some (.inl (-2, h')) ∧ aI h' 30 5 = 2 ∧ aI h' 30 6 = nI c ∧ aI h' 30 7 = nI y ∧ aI h' 30 8 = nI s) ∨
      ∃ F' w', jdF B P A N op (O.drop k) F w = .ok (F', w') ∧ f_X1_weigh_63 30 (bI op) 43 n h (nI k) = some (.inr h') ∧ aI h' 30 = aI h 30 ∧ (∀ d, d < 258 → aJ h' 33 d = F' d) ∧ Rw h' 31 w') := by
  intro m
  induction m with
  | zero =>
    intro n h k F w hk hn hw x R43 R31
    obtain ⟨n, rfl⟩ : ∃ j, n = j + 1 := ⟨n - 1, by omega⟩
    have h8 := R43.2.1
    refine ⟨h, Fr.rf _ _, Or.inr ⟨F, w, ?_, ?_, rfl, x.2.2.2.2.2.2, R31⟩⟩
    · rw [List.drop_eq_nil_of_le (by omega)]
      rfl
    · unfold f_X1_weigh_63
      rw [gi_43 x.1, bs, R43.1, if_pos (nI_le (by omega) (by omega))]
  | succ m ih =>
    intro n h k F w hk hn hw x R43 R31
    obtain ⟨n, rfl⟩ : ∃ j, n = j + 1 := ⟨n - 1, by omega⟩
    have S := x.1
    have h8 := R43.2.1
    have hkl : k < O.length := by omega
    obtain ⟨c, ec⟩ : ∃ z, z = O[k] := ⟨_, rfl⟩
    have hc : c < 258 := by rw [ec]; exact R43.2.2.1 _ (List.getElem_mem hkl)
    have hC : isC B A c = true := by rw [ec]; exact hO _ (List.getElem_mem hkl)
    have hdrop : O.drop k = c :: O.drop (k + 1) := by rw [ec]; exact List.drop_eq_getElem_cons hkl
    have hget : f_X6_get h 43 (nI k) = some (nI c) := by rw [ec]; exact q_get (S.r (by decide)) R43 hkl
    have hfz : f_X4_isFrozenCell h 7 (nI c) = some (bI (fzC A c)) := by rw [q_isFrozenCell (S_7 S) x.2.2.2.1 fA hc, fz_if]
    have skip : (fzC A c = true ∨ (op = false ∧ tcG B P A N F c = false)) → f_X1_weigh_63 30 (bI op) 43 (n + 1) h (nI k) = f_X1_weigh_63 30 (bI op) 43 n h (nI (k + 1)) := by
      intro q
      conv => lhs; unfold f_X1_weigh_63
      rw [gi_43 S, bs, R43.1, if_neg (nI_ge hkl (by omega)), hget, bs, x.a, bs, hfz, bs, nI_1]
      cases e1 : fzC A c with
      | true => rw [if_neg (by decide)]
      | false =>
        rw [e1] at q
        obtain ⟨q1, q2⟩ := q.resolve_left (by decide)
        rw [if_pos (by decide), q1, if_pos (by decide), q_isTouched W x fP fA hc hC, q2, bs, if_pos (by decide)]
    have doit : ¬ (fzC A c = true ∨ (op = false ∧ tcG B P A N F c = false)) → f_X1_weigh_63 30 (bI op) 43 (n + 1) h (nI k) = Option.bind (f_X7_work h 49 (nI c) 7 33) fun w => match w with
        | (x39, h40) => if x39 = 0 then Option.bind (f_X1_fails h40 30 (nI c)) fun h49 => some (.inl ((-2), h49)) else Option.bind (gP h40 1 30 4) fun x41 => Option.bind (gP h40 1 30 2) fun x42 => Option.bind (gJ h40 7 x42 5) fun x43 => Option.bind (stJ h40 x41 (nI c) x43) fun h44 => Option.bind (gP h44 1 30 3) fun x45 => Option.bind (f_X6_add h44 x45 (nI c)) fun h47 => f_X1_weigh_63 30 (bI op) 43 n h47 (nI (k + 1)) := by
      intro q
      conv => lhs; unfold f_X1_weigh_63
      have e1 : fzC A c = false := by
        cases e : fzC A c with
        | false => rfl
        | true => exact absurd (Or.inl e) q
      rw [gi_43 S, bs, R43.1, if_neg (nI_ge hkl (by omega)), hget, bs, x.a, bs, hfz, bs, nI_1, e1, if_pos (by decide)]
      cases e2 : op with
      | false =>
        have e3 : tcG B P A N F c = true := by
          cases e : tcG B P A N F c with
          | true => rfl
          | false => exact absurd (Or.inr ⟨e2, e⟩) q
        rw [if_pos (by decide), q_isTouched W x fP fA hc hC, e3, bs, if_neg (by decide), g_30_2 S, bs, bs, g_30_4 S, bs]
      | true => rw [if_neg (by decide), g_30_2 S, bs, bs, g_30_4 S, bs]
    rw [hdrop]
    show ∃ h', _ ∧ ((∃ c' y s, (if fzC A c = true ∨ (op = false ∧ tcG B P A N F c = false) then jdF B P A N op (O.drop (k + 1)) F w else match wkA B A F c with
      | .error (y, k) => .error (c, y, k)
      | .ok v => jdF B P A N op (O.drop (k + 1)) (upF F c v) (w ++ [c])) = .error (c', y, s) ∧ _) ∨ ∃ F' w', (if fzC A c = true ∨ (op = false ∧ tcG B P A N F c = false) then jdF B P A N op (O.drop (k + 1)) F w else match wkA B A F c with
      | .error (y, k) => .error (c, y, k)
      | .ok v => jdF B P A N op (O.drop (k + 1)) (upF F c v) (w ++ [c])) = .ok (F', w') ∧ _)
    by_cases q : fzC A c = true ∨ (op = false ∧ tcG B P A N F c = false)
    · rw [if_pos q, skip q]
      exact ih n h (k + 1) F w (by omega) (by omega) (by omega) x R43 R31
    · rw [if_neg q, doit q]
      obtain ⟨h1, b, e1, f1, r1⟩ := q_work S W x.2.1 (by decide) (S_7 S) x.2.2.2.1 fA x.2.2.2.2.2.2 hc hC
      have S1 := f1.S S
      rcases r1 with ⟨y, s, a1, a2, a3, a4⟩ | ⟨v, a1, a2, a3, -⟩
      · obtain ⟨h2, e2, f2, g1, g2, g3, g4, -⟩ := fails_go (c := c) S1 a3 a4
        refine ⟨h2, (f1.mono (fun a q => by omega)).tr (f2.mono (fun a q => by omega)), Or.inl ⟨c, y, s, by rw [a1], ?_, g1, g2, g3, g4⟩⟩
        rw [e1, bs, a2]
        simp only []
        rw [if_pos trivial, e2, bs]
      · obtain ⟨h2, eh2⟩ : ∃ z, z = sJ h1 33 c v := ⟨_, rfl⟩
        have f2 : Fr h1 h2 (fun a => a = 33) := by rw [eh2]; exact Fr.sj rfl
        have S2 := f2.S S1
        have R31' : Rw h2 31 w := (R31.fr (f1.i (by omega)) (f1.i (by omega))).fr (f2.i (by omega)) (f2.i (by omega))
        obtain ⟨h3, e3, f3, w3⟩ := q_add (S2.r (r := 31) (by decide)) R31' hc (by omega)
        have f3' := f3.g
        have x1 : Cj h1 B P A N F := x.fr f1 (fun a q => by omega)
        have x2 : Cj h2 B P A N (upF F c v) := by
          obtain ⟨-, c2, c3, c4, c5, c6, c7⟩ := x1
          refine ⟨S2, ?_, f2.R c3 (fun a q1 q2 => by omega), f2.R c4 (fun a q1 q2 => by omega), by rw [f2.p (a := 30) (by omega)]; exact c5, fun d hd => by rw [f2.j (by omega)]; exact c6 d hd, fun d hd => ?_⟩
          · unfold RepB
            rw [f2.i (a := 1) (by omega), f2.i (a := 2) (by omega), f2.i (a := 3) (by omega), f2.i (a := 4) (by omega)]
            exact c2
          · rw [eh2, sJ_J]
            unfold upF
            by_cases qd : d = c
            · rw [if_pos ⟨rfl, qd⟩, if_pos qd]
            · rw [if_neg (fun y => qd y.2), if_neg qd]; exact c7 d hd
        have x3 : Cj h3 B P A N (upF F c v) := x2.fr f3' (fun a q => by omega)
        have R43' : Rw h3 43 O := ((R43.fr (f1.i (by omega)) (f1.i (by omega))).fr (f2.i (by omega)) (f2.i (by omega))).fr (f3.i (by omega)) (f3.i (by omega))
        obtain ⟨h4, f4, r4⟩ := ih n h3 (k + 1) (upF F c v) (w ++ [c]) (by omega) (by omega) (by rw [List.length_append]; simp; omega) x3 R43' w3
        have hu : (Option.bind (f_X7_work h 49 (nI c) 7 33) fun w => match w with
            | (x39, h40) => if x39 = 0 then Option.bind (f_X1_fails h40 30 (nI c)) fun h49 => some (.inl ((-2), h49)) else Option.bind (gP h40 1 30 4) fun x41 => Option.bind (gP h40 1 30 2) fun x42 => Option.bind (gJ h40 7 x42 5) fun x43 => Option.bind (stJ h40 x41 (nI c) x43) fun h44 => Option.bind (gP h44 1 30 3) fun x45 => Option.bind (f_X6_add h44 x45 (nI c)) fun h47 => f_X1_weigh_63 30 (bI op) 43 n h47 (nI (k + 1))) = f_X1_weigh_63 30 (bI op) 43 n h3 (nI (k + 1)) := by
          rw [e1, bs, a2]
          show (if (1 : Int32) = 0 then Option.bind (f_X1_fails h1 30 (nI c)) fun h49 => some (.inl ((-2), h49)) else Option.bind (gP h1 1 30 4) fun x41 => Option.bind (gP h1 1 30 2) fun x42 => Option.bind (gJ h1 7 x42 5) fun x43 => Option.bind (stJ h1 x41 (nI c) x43) fun h44 => Option.bind (gP h44 1 30 3) fun x45 => Option.bind (f_X6_add h44 x45 (nI c)) fun h47 => f_X1_weigh_63 30 (bI op) 43 n h47 (nI (k + 1))) = _
          rw [if_neg (by decide), g_30_4 S1, bs, g_30_2 S1, bs, gj_49 S1, bs, a3, st_33 S1 hc, bs, ← eh2, g_30_3 S2, bs, e3, bs]
        rw [hu, a1]
        refine ⟨h4, ((f1.mono (fun a q => by omega)).tr (f2.mono (fun a q => by omega))).tr ((f3'.mono (fun a q => by omega)).tr f4), ?_⟩
        rcases r4 with r4 | ⟨F', w', b1, b2, b3, b4, b5⟩
        · exact Or.inl r4
        · refine Or.inr ⟨F', w', b1, b2, ?_, b4, b5⟩
          rw [b3, f3.i (by omega), f2.i (by omega), f1.i (by omega)]
end Weigh
