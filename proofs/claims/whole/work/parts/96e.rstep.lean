/-! THE OTHER ONE: reckoning -/
def OutX (h' : AH) (t' : Int32) (r : Except Nat (List Int64)) : Prop := match r with
  | .error y => aI h' 53 28 = nI y
  | .ok s => aI h' 53 28 = -1 ∧ t' = nI s.length ∧ StR (aJ h' 75) s
def QK (a i : Nat) : Prop := a = 75 ∨ (a = 53 ∧ i = 28)
section RStep
variable {h : AH}
theorem put_t {t : List Int64} (s : StR (aJ h 75) t) (x : Int64) : StR (aJ (sJ h 75 t.length x) 75) (x :: t) := by
  refine ⟨by rw [sJ_J, if_pos ⟨rfl, rfl⟩], s.fr (fun i hi => ?_)⟩
  rw [sJ_J, if_neg (by omega)]
/-- a number that is laid down, after it was held against the bounds -/
theorem r_bounded (S : Sh h) (x : Int64) : ∃ h', f_X9_bounded h 53 x = some (x, h') ∧ ((bdJ x ∧ h' = h) ∨ (¬ bdJ x ∧ h' = sI h 53 28 3)) := by
  unfold f_X9_bounded
  rw [if_pos (k_53 S)]
  by_cases q1 : x < -LM
  · exact ⟨sI h 53 28 3, by rw [if_pos (show lg_cmp x (-1000000000000000) < 0 from (cmp_lt x (-LM)).mpr q1), pi_53 S, bs, bs], Or.inr ⟨fun y => y.1 q1, rfl⟩⟩
  · rw [if_neg (show ¬ lg_cmp x (-1000000000000000) < 0 from fun e => q1 ((cmp_lt x (-LM)).mp e))]
    by_cases q2 : x ≤ LM
    · exact ⟨h, by rw [if_pos (show lg_cmp x 1000000000000000 ≤ 0 from (cmp_le x LM).mpr q2), bs], Or.inl ⟨⟨q1, q2⟩, rfl⟩⟩
    · exact ⟨sI h 53 28 3, by rw [if_neg (show ¬ lg_cmp x 1000000000000000 ≤ 0 from fun e => q2 ((cmp_le x LM).mp e)), pi_53 S, bs, bs], Or.inr ⟨fun y => q2 y.2, rfl⟩⟩
theorem ps_no {x : Int64} {t : List Int64} (h : ¬ bdJ x) : psJ x t = .error 3 := by
  unfold psJ
  rw [if_pos]
  by_cases q : x < -LM
  · exact Or.inl q
  · exact Or.inr (fun y => h ⟨q, y⟩)
/-- bounded, then laid at the top of t -/
theorem lay_b (S : Sh h) {t : List Int64} (ht : t.length < 9) (s : StR (aJ h 75) t) (h0 : aI h 53 28 = -1) (x : Int64) (t' : Int32) (et : t' = nI (t.length + 1)) : ∃ h', (Option.bind (f_X9_bounded h 53 x) fun w => match w with
    | (x41, h42) => Option.bind (stJ h42 75 (nI t.length) x41) fun h43 => some (t', h43)) = some (t', h') ∧ Fg h h' QK ∧ OutX h' t' (psJ x t) := by
  obtain ⟨h1, e1, r⟩ := r_bounded S x
  rw [e1, bs]
  rcases r with ⟨q, rfl⟩ | ⟨q, rfl⟩
  · refine ⟨sJ h1 75 t.length x, by simp only []; rw [st_75 S ht, bs], Fg.sj (Or.inl rfl), ?_⟩
    rw [ps_ok q]
    exact ⟨h0, by rw [et]; rfl, put_t s x⟩
  · have S1 : Sh (sI h 53 28 3) := S.sI
    refine ⟨sJ (sI h 53 28 3) 75 t.length x, by simp only []; rw [st_75 S1 ht, bs], Fg.tr (Q := QK) (Fg.si (Or.inr ⟨rfl, rfl⟩)) (Fg.sj (Or.inl rfl)), ?_⟩
    rw [ps_no q]
    show aI (sI h 53 28 3) 53 28 = nI 3
    rw [sI_I, if_pos ⟨rfl, rfl⟩]
    rfl
/-- laid at the top of t, within bounds -/
theorem lay_o (S : Sh h) {t : List Int64} (ht : t.length < 9) (s : StR (aJ h 75) t) (h0 : aI h 53 28 = -1) {x : Int64} (hx : bdJ x) (t' : Int32) (et : t' = nI (t.length + 1)) : ∃ h', (Option.bind (stJ h 75 (nI t.length) x) fun h43 => some (t', h43)) = some (t', h') ∧ Fg h h' QK ∧ OutX h' t' (psJ x t) := by
  refine ⟨sJ h 75 t.length x, by rw [st_75 S ht, bs], Fg.sj (Or.inl rfl), ?_⟩
  rw [ps_ok hx]
  exact ⟨h0, by rw [et]; rfl, put_t s x⟩
theorem m1m1 (n : Nat) : nI (n + 2) + (-1) - 1 = nI n := by rw [show n + 2 = (n + 1) + 1 from rfl, pk_m1, nI_pred]
theorem m2m1 (n : Nat) : nI (n + 3) + (-2) = nI (n + 1) := by
  have : (-2 : Int32) = -1 + -1 := by decide
  rw [this, ← Int32.add_assoc, show n + 3 = (n + 2) + 1 from rfl, pk_m1, show n + 2 = (n + 1) + 1 from rfl, pk_m1]
theorem ab_r {x : Int64} : (if 0 ≤ lg_cmp x 0 then some x else some (0 - x)) = some (abJ x) := by
  unfold abJ
  by_cases q : 0 < x
  · rw [if_pos ((cmp_ge x 0).mpr (by
      have := Int64.lt_iff_toInt_lt.mp q
      exact Int64.le_iff_toInt_le.mpr (by omega))), if_pos q]
  · rw [if_neg q]
    by_cases q2 : 0 ≤ x
    · rw [if_pos ((cmp_ge x 0).mpr q2)]
      have a := Int64.le_iff_toInt_le.mp q2
      have b : ¬ (0 : Int64).toInt < x.toInt := fun e => q (Int64.lt_iff_toInt_lt.mpr e)
      rw [show x = 0 from Int64.toInt_inj.mp (by omega)]
      decide
    · rw [if_neg (fun e => q2 ((cmp_ge x 0).mp e)), Int64.zero_sub]
theorem abJ_z {x : Int64} : abJ x = 0 ↔ x = 0 := by
  constructor
  · exact abJ_0
  · intro e; rw [e]; decide
theorem sw_rk (S : Sh h) {st : List Int64} (hl : st.length ≤ 8) (s : StR (aJ h 75) st) (hb : BdS st) (h0 : aI h 53 28 = -1) {k : Nat} (hk : 14 ≤ k ∧ k ≤ 24) (ht : tkN k ≤ st.length) (x14 x23 x33 : Int32) (x31 x32 : Int64) : ∃ h' t', swX h (nI st.length) (nI k) x14 (st.headD 0) (st.tail.headD 0) x23 x31 x32 x33 = some (t', h') ∧ Fg h h' QK ∧ OutX h' t' (rkS k st) := by
  have n : ∀ j, j < 14 → ¬ nI k = nI j := fun j hj e => by have := (nI_eq (by omega) (by omega)).mp e; omega
  unfold swX
  rw [if_neg (show ¬ nI k = 0 from n 0 (by decide)), if_neg (show ¬ (nI k = 1 ∨ nI k = 2 ∨ nI k = 3 ∨ nI k = 4 ∨ nI k = 8 ∨ nI k = 9) from fun y => y.elim (n 1 (by decide)) (fun y => y.elim (n 2 (by decide)) (fun y => y.elim (n 3 (by decide)) (fun y => y.elim (n 4 (by decide)) (fun y => y.elim (n 8 (by decide)) (n 9 (by decide))))))), if_neg (show ¬ (nI k = 5 ∨ nI k = 6 ∨ nI k = 7 ∨ nI k = 12 ∨ nI k = 13) from fun y => y.elim (n 5 (by decide)) (fun y => y.elim (n 6 (by decide)) (fun y => y.elim (n 7 (by decide)) (fun y => y.elim (n 12 (by decide)) (n 13 (by decide)))))), if_neg (show ¬ (nI k = 10 ∨ nI k = 11) from fun y => y.elim (n 10 (by decide)) (n 11 (by decide)))]
  cases st with
  | nil => exact absurd ht (by rcases (show k = 14 ∨ k = 15 ∨ k = 16 ∨ k = 17 ∨ k = 18 ∨ k = 19 ∨ k = 20 ∨ k = 21 ∨ k = 22 ∨ k = 23 ∨ k = 24 by omega) with rfl | rfl | rfl | rfl | rfl | rfl | rfl | rfl | rfl | rfl | rfl <;> decide)
  | cons a r =>
    have ba := hb a List.mem_cons_self
    rw [List.length_cons] at hl
    show ∃ h' t', (if nI k = 14 then _ else _) = some (t', h') ∧ _
    rw [show (a :: r).headD 0 = a from rfl, show (a :: r).tail = r from rfl, show (a :: r).length = r.length + 1 from rfl, pk_m1]
    rcases (show k = 21 ∨ k = 22 ∨ k = 24 ∨ (14 ≤ k ∧ k ≤ 20) ∨ k = 23 by omega) with rfl | rfl | rfl | q
    · rw [if_neg (show ¬ nI 21 = 14 by decide), if_neg (show ¬ nI 21 = 15 by decide), if_neg (show ¬ nI 21 = 16 by decide), if_neg (show ¬ nI 21 = 17 by decide), if_neg (show ¬ nI 21 = 18 by decide), if_neg (show ¬ nI 21 = 19 by decide), if_neg (show ¬ nI 21 = 20 by decide), if_pos (show nI 21 = 21 from rfl)]
      have hr : rkS 21 (a :: r) = (if a = 0 then .ok r else .error 2) := rfl
      rw [hr]
      by_cases q : a = 0
      · rw [if_pos ((cmp_eq a 0).mpr q), if_pos q]
        exact ⟨h, nI r.length, rfl, Fg.rf _ _, h0, rfl, s.2⟩
      · rw [if_neg (fun e => q ((cmp_eq a 0).mp e)), if_neg q, pi_53 S, bs]
        refine ⟨_, _, rfl, Fg.si (Or.inr ⟨rfl, rfl⟩), ?_⟩
        show aI (sI h 53 28 2) 53 28 = nI 2
        rw [sI_I, if_pos ⟨rfl, rfl⟩]
        rfl
    · rw [if_neg (show ¬ nI 22 = 14 by decide), if_neg (show ¬ nI 22 = 15 by decide), if_neg (show ¬ nI 22 = 16 by decide), if_neg (show ¬ nI 22 = 17 by decide), if_neg (show ¬ nI 22 = 18 by decide), if_neg (show ¬ nI 22 = 19 by decide), if_neg (show ¬ nI 22 = 20 by decide), if_neg (show ¬ nI 22 = 21 by decide), if_pos (show nI 22 = 22 from rfl), g_53_41 S, bs, st_75 S (by omega), bs, nI_1]
      exact ⟨_, _, rfl, Fg.sj (Or.inl rfl), h0, rfl, put_t (t := a :: r) s a⟩
    · rw [if_neg (show ¬ nI 24 = 14 by decide), if_neg (show ¬ nI 24 = 15 by decide), if_neg (show ¬ nI 24 = 16 by decide), if_neg (show ¬ nI 24 = 17 by decide), if_neg (show ¬ nI 24 = 18 by decide), if_neg (show ¬ nI 24 = 19 by decide), if_neg (show ¬ nI 24 = 20 by decide), if_neg (show ¬ nI 24 = 21 by decide), if_neg (show ¬ nI 24 = 22 by decide), if_neg (show ¬ nI 24 = 23 by decide)]
      exact ⟨h, nI r.length, rfl, Fg.rf _ _, h0, rfl, s.2⟩
    · cases r with
      | nil =>
        have h3 : tkN k ≤ 1 := ht
        rcases (show k = 14 ∨ k = 15 ∨ k = 16 ∨ k = 17 ∨ k = 18 ∨ k = 19 ∨ k = 20 ∨ k = 23 by omega) with rfl | rfl | rfl | rfl | rfl | rfl | rfl | rfl <;> exact absurd h3 (by decide)
      | cons b t =>
        have bb := hb b (List.mem_cons_of_mem _ List.mem_cons_self)
        rw [List.length_cons] at hl
        rw [show (b :: t).headD 0 = b from rfl, show (b :: t).length = t.length + 1 from rfl, nI_pred]
        have s2 := s.2.2
        rcases (show k = 14 ∨ k = 15 ∨ k = 16 ∨ k = 17 ∨ k = 18 ∨ k = 19 ∨ k = 20 ∨ k = 23 by omega) with rfl | rfl | rfl | rfl | rfl | rfl | rfl | rfl
        · rw [if_pos (show nI 14 = 14 from rfl), g_53_41 S, bs]
          obtain ⟨h1, e1, f1, o1⟩ := lay_b S (by omega) s2 h0 (b + a) (nI (t.length + 1)) rfl
          exact ⟨h1, _, e1, f1, o1⟩
        · rw [if_neg (show ¬ nI 15 = 14 by decide), if_pos (show nI 15 = 15 from rfl), g_53_41 S, bs]
          obtain ⟨h1, e1, f1, o1⟩ := lay_b S (by omega) s2 h0 (b - a) (nI (t.length + 1)) rfl
          exact ⟨h1, _, e1, f1, o1⟩
        · rw [if_neg (show ¬ nI 16 = 14 by decide), if_neg (show ¬ nI 16 = 15 by decide), if_pos (show nI 16 = 16 from rfl), g_53_41 S, bs]
          have hr : rkS 16 (a :: b :: t) = (if b = 0 then psJ (b * a) t else if abJ a ≤ LM / abJ b then psJ (b * a) t else .error 3) := rfl
          rw [hr]
          unfold f_X9_times
          rw [if_pos (k_53 S), ab_r, bs, ab_r, bs]
          by_cases q0 : b = 0
          · rw [if_pos ((cmp_eq _ 0).mpr (abJ_z.mpr q0)), bs, bs, if_pos q0]
            obtain ⟨h1, e1, f1, o1⟩ := lay_o S (by omega) s2 h0 (bd_mul bb ba (Or.inl q0)) (nI (t.length + 1)) rfl
            exact ⟨h1, _, e1, f1, o1⟩
          · have hd : dvJ 1000000000000000 (abJ b) = some (LM / abJ b) := if_pos (fun e => q0 (abJ_0 e))
            rw [if_neg (fun e => q0 (abJ_z.mp ((cmp_eq _ 0).mp e))), hd, bs, if_neg q0]
            by_cases q1 : abJ a ≤ LM / abJ b
            · rw [if_pos ((cmp_le _ _).mpr q1), bs, bs, if_pos q1]
              obtain ⟨h1, e1, f1, o1⟩ := lay_o S (by omega) s2 h0 (bd_mul bb ba (Or.inr q1)) (nI (t.length + 1)) rfl
              exact ⟨h1, _, e1, f1, o1⟩
            · rw [if_neg (fun e => q1 ((cmp_le _ _).mp e)), pi_53 S, bs, bs, bs, if_neg q1]
              have S1 : Sh (sI h 53 28 3) := S.sI
              simp only []
              rw [st_75 S1 (by omega), bs]
              refine ⟨_, _, rfl, Fg.tr (Q := QK) (Fg.si (Or.inr ⟨rfl, rfl⟩)) (Fg.sj (Or.inl rfl)), ?_⟩
              show aI (sI h 53 28 3) 53 28 = nI 3
              rw [sI_I, if_pos ⟨rfl, rfl⟩]
              rfl
        · rw [if_neg (show ¬ nI 17 = 14 by decide), if_neg (show ¬ nI 17 = 15 by decide), if_neg (show ¬ nI 17 = 16 by decide), if_pos (show nI 17 = 17 from rfl)]
          have hr : rkS 17 (a :: b :: t) = (if a = 0 then .error 1 else psJ (b / a) t) := rfl
          rw [hr]
          by_cases q0 : a = 0
          · rw [if_pos ((cmp_eq a 0).mpr q0), pi_53 S, bs, if_pos q0]
            refine ⟨_, _, rfl, Fg.si (Or.inr ⟨rfl, rfl⟩), ?_⟩
            show aI (sI h 53 28 1) 53 28 = nI 1
            rw [sI_I, if_pos ⟨rfl, rfl⟩]
            rfl
          · rw [if_neg (fun e => q0 ((cmp_eq a 0).mp e)), g_53_41 S, bs, show dvJ b a = some (b / a) from if_pos q0, bs, if_neg q0]
            obtain ⟨h1, e1, f1, o1⟩ := lay_o S (by omega) s2 h0 (bd_div bb) (nI (t.length + 1)) rfl
            exact ⟨h1, _, e1, f1, o1⟩
        · rw [if_neg (show ¬ nI 18 = 14 by decide), if_neg (show ¬ nI 18 = 15 by decide), if_neg (show ¬ nI 18 = 16 by decide), if_neg (show ¬ nI 18 = 17 by decide), if_pos (show nI 18 = 18 from rfl), g_53_41 S, bs]
          have e : (if 0 ≤ lg_cmp a b then some b else some a) = some (mnJ b a) := by
            unfold mnJ
            by_cases q : b ≤ a
            · rw [if_pos ((cmp_ge a b).mpr q), if_neg (fun e => by
                have x1 := Int64.le_iff_toInt_le.mp q
                have x2 := Int64.lt_iff_toInt_lt.mp e
                omega)]
            · rw [if_neg (fun e => q ((cmp_ge a b).mp e)), if_pos (by
                have x1 : ¬ b.toInt ≤ a.toInt := fun e => q (Int64.le_iff_toInt_le.mpr e)
                exact Int64.lt_iff_toInt_lt.mpr (by omega))]
          rw [e, bs]
          obtain ⟨h1, e1, f1, o1⟩ := lay_o S (by omega) s2 h0 (bd_mn bb ba) (nI (t.length + 1)) rfl
          exact ⟨h1, _, e1, f1, o1⟩
        · rw [if_neg (show ¬ nI 19 = 14 by decide), if_neg (show ¬ nI 19 = 15 by decide), if_neg (show ¬ nI 19 = 16 by decide), if_neg (show ¬ nI 19 = 17 by decide), if_neg (show ¬ nI 19 = 18 by decide), if_pos (show nI 19 = 19 from rfl), g_53_41 S, bs]
          have e : (if lg_cmp a b ≤ 0 then some b else some a) = some (mxJ b a) := by
            unfold mxJ
            by_cases q : a ≤ b
            · rw [if_pos ((cmp_le a b).mpr q)]
              by_cases q2 : a < b
              · rw [if_pos q2]
              · rw [if_neg q2]
                have x1 := Int64.le_iff_toInt_le.mp q
                have x2 : ¬ a.toInt < b.toInt := fun e => q2 (Int64.lt_iff_toInt_lt.mpr e)
                rw [show b = a from Int64.toInt_inj.mp (by omega)]
            · rw [if_neg (fun e => q ((cmp_le a b).mp e)), if_neg (fun e => q (by
                have x2 := Int64.lt_iff_toInt_lt.mp e
                exact Int64.le_iff_toInt_le.mpr (by omega)))]
          rw [e, bs]
          obtain ⟨h1, e1, f1, o1⟩ := lay_o S (by omega) s2 h0 (bd_mx bb ba) (nI (t.length + 1)) rfl
          exact ⟨h1, _, e1, f1, o1⟩
        · cases t with
          | nil => have h3 : (3 : Nat) ≤ 2 := ht; omega
          | cons c u =>
            rw [List.length_cons] at hl
            rw [if_neg (show ¬ nI 20 = 14 by decide), if_neg (show ¬ nI 20 = 15 by decide), if_neg (show ¬ nI 20 = 16 by decide), if_neg (show ¬ nI 20 = 17 by decide), if_neg (show ¬ nI 20 = 18 by decide), if_neg (show ¬ nI 20 = 19 by decide), if_pos (show nI 20 = 20 from rfl), g_53_41 S, bs, bs, show (c :: u).length + 1 + 1 = u.length + 3 from rfl, m2m1, nI_pred, ld_75 S (by omega), bs, show aJ h 75 u.length = c from s2.1]
            have e : (if lg_cmp c 0 ≤ 0 then some a else some b) = some (if c ≤ 0 then a else b) := by
              by_cases q : c ≤ 0
              · rw [if_pos ((cmp_le c 0).mpr q), if_pos q]
              · rw [if_neg (fun e => q ((cmp_le c 0).mp e)), if_neg q]
            rw [e, bs]
            obtain ⟨h1, e1, f1, o1⟩ := lay_o S (t := u) (by omega) s2.2 h0 (x := if c ≤ 0 then a else b) (by split <;> assumption) (nI (u.length + 1)) rfl
            exact ⟨h1, _, e1, f1, o1⟩
        · rw [if_neg (show ¬ nI 23 = 14 by decide), if_neg (show ¬ nI 23 = 15 by decide), if_neg (show ¬ nI 23 = 16 by decide), if_neg (show ¬ nI 23 = 17 by decide), if_neg (show ¬ nI 23 = 18 by decide), if_neg (show ¬ nI 23 = 19 by decide), if_neg (show ¬ nI 23 = 20 by decide), if_neg (show ¬ nI 23 = 21 by decide), if_neg (show ¬ nI 23 = 22 by decide), if_pos (show nI 23 = 23 from rfl), g_53_41 S, bs, nI_pred, st_75 S (by omega), bs]
          have S1 : Sh (sJ h 75 (t.length + 1) b) := S.sJ
          have e2 : nI (t.length + 1 + 1) - 2 = nI t.length := by rw [show (2 : Int32) = nI 2 from rfl, pk_sub (by omega)]; rfl
          rw [g_53_41 S1, bs, e2, st_75 S1 (by omega), bs]
          refine ⟨_, _, rfl, Fg.tr (Q := QK) (Fg.sj (Or.inl rfl)) (Fg.sj (Or.inl rfl)), h0, rfl, ?_, ?_, ?_⟩
          · show aJ (sJ (sJ h 75 (t.length + 1) b) 75 t.length a) 75 (t.length + 1) = b
            rw [sJ_J, if_neg (by omega), sJ_J, if_pos ⟨rfl, rfl⟩]
          · show aJ (sJ (sJ h 75 (t.length + 1) b) 75 t.length a) 75 t.length = a
            rw [sJ_J, if_pos ⟨rfl, rfl⟩]
          · refine s2.fr (fun i hi => ?_)
            rw [sJ_J, if_neg (by omega), sJ_J, if_neg (by omega)]
end RStep
