/-! the Worker: its stack -/
theorem cmp_lt (x y : Int64) : lg_cmp x y < 0 ↔ x < y := by
  unfold lg_cmp
  by_cases h1 : x > y
  · rw [if_pos h1]
    have := Int64.lt_iff_toInt_lt.mp h1
    exact ⟨fun e => absurd e (by decide), fun e => by have := Int64.lt_iff_toInt_lt.mp e; omega⟩
  · rw [if_neg h1]
    have q1 : ¬ y.toInt < x.toInt := fun e => h1 (Int64.lt_iff_toInt_lt.mpr e)
    by_cases h2 : x = y
    · rw [if_pos h2]
      subst h2
      exact ⟨fun e => absurd e (by decide), fun e => by have := Int64.lt_iff_toInt_lt.mp e; omega⟩
    · rw [if_neg h2]
      have q2 : x.toInt ≠ y.toInt := fun e => h2 (Int64.toInt_inj.mp e)
      exact ⟨fun _ => Int64.lt_iff_toInt_lt.mpr (by omega), fun _ => by decide⟩
theorem cmp_eq (x y : Int64) : lg_cmp x y = 0 ↔ x = y := by
  unfold lg_cmp
  by_cases h1 : x > y
  · rw [if_pos h1]
    have := Int64.lt_iff_toInt_lt.mp h1
    exact ⟨fun e => absurd e (by decide), fun e => by subst e; omega⟩
  · rw [if_neg h1]
    by_cases h2 : x = y
    · rw [if_pos h2]; exact ⟨fun _ => h2, fun _ => rfl⟩
    · rw [if_neg h2]; exact ⟨fun e => absurd e (by decide), fun e => absurd e h2⟩
theorem cmp_le (x y : Int64) : lg_cmp x y ≤ 0 ↔ x ≤ y := by
  unfold lg_cmp
  by_cases h1 : x > y
  · rw [if_pos h1]
    have := Int64.lt_iff_toInt_lt.mp h1
    exact ⟨fun e => absurd e (by decide), fun e => by have := Int64.le_iff_toInt_le.mp e; omega⟩
  · rw [if_neg h1]
    have q1 : ¬ y.toInt < x.toInt := fun e => h1 (Int64.lt_iff_toInt_lt.mpr e)
    have q2 : x ≤ y := Int64.le_iff_toInt_le.mpr (by omega)
    by_cases h2 : x = y
    · rw [if_pos h2]; exact ⟨fun _ => q2, fun _ => by decide⟩
    · rw [if_neg h2]; exact ⟨fun _ => q2, fun _ => by decide⟩
def LM : Int64 := 1000000000000000
def bdJ (x : Int64) : Prop := ¬ x < -LM ∧ x ≤ LM
def psJ (x : Int64) (st : List Int64) : Except Nat (List Int64) := if x < -LM ∨ ¬ x ≤ LM then .error 3 else .ok (x :: st)
theorem ps_ok {x : Int64} {st : List Int64} (h : bdJ x) : psJ x st = .ok (x :: st) := if_neg (fun q => q.elim h.1 (fun q2 => q2 h.2))
theorem ps_in {x : Int64} {st r : List Int64} (h : psJ x st = .ok r) : r = x :: st ∧ bdJ x := by
  unfold psJ at h
  split at h
  · cases h
  · rename_i q
    cases h
    exact ⟨rfl, fun q1 => q (Or.inl q1), Classical.byContradiction (fun q1 => q (Or.inr q1))⟩
/-- the numbers of a stack, the last one first -/
def StR (f : Nat → Int64) : List Int64 → Prop
  | [] => True
  | a :: r => f r.length = a ∧ StR f r
theorem StR.fr {f g : Nat → Int64} : ∀ {st : List Int64}, (∀ i, i < st.length → g i = f i) → StR f st → StR g st := by
  intro st
  induction st with
  | nil => intro _ _; exact trivial
  | cons a r ih =>
    intro h1 h2
    exact ⟨by rw [h1 r.length (by simp)]; exact h2.1, ih (fun i hi => h1 i (by simp; omega)) h2.2⟩
def Wk (h : AH) (st : List Int64) : Prop := aI h 49 2 = nI st.length ∧ st.length ≤ 8 ∧ StR (aJ h 50) st
/-- what a step of the worker leaves alone -/
def Fw (h h' : AH) : Prop := Fq h h' (fun a => a = 49 ∨ a = 50) ∧ aI h' 49 4 = aI h 49 4
theorem Fw.rf (h : AH) : Fw h h := ⟨Fq.rf _ _, rfl⟩
theorem Fw.tr {h h1 h2 : AH} (a : Fw h h1) (b : Fw h1 h2) : Fw h h2 := ⟨a.1.tr b.1, b.2.trans a.2⟩
def OutW (h' : AH) (r : Except Nat (List Int64)) : Prop := match r with
  | .error y => aI h' 49 3 = nI y
  | .ok st => aI h' 49 3 = 0 ∧ Wk h' st
section Worker
variable {h : AH}
theorem q_push (S : Sh h) {st : List Int64} (w : Wk h st) (hl : st.length < 8) (h0 : aI h 49 3 = 0) (x : Int64) : ∃ h', f_X7_push h 49 x = some h' ∧ Fw h h' ∧ OutW h' (psJ x st) := by
  unfold f_X7_push psJ
  rw [if_pos (k_49 S)]
  by_cases q1 : x < -LM
  · refine ⟨sI h 49 3 3, ?_, ⟨Fq.si (Or.inl rfl), by rw [sI_I, if_neg (by omega)]⟩, ?_⟩
    · rw [if_pos (show lg_cmp x (-1000000000000000) < 0 from (cmp_lt x (-LM)).mpr q1), pi_49 S, bs, bs]
    · rw [if_pos (Or.inl q1)]
      show aI (sI h 49 3 3) 49 3 = nI 3
      rw [sI_I, if_pos ⟨rfl, rfl⟩]
      rfl
  · rw [if_neg (show ¬ lg_cmp x (-1000000000000000) < 0 from fun e => q1 ((cmp_lt x (-LM)).mp e))]
    by_cases q2 : x ≤ LM
    · have S1 : Sh (sJ h 50 st.length x) := S.sJ
      have e1 : aI (sJ h 50 st.length x) 49 2 = nI st.length := w.1
      refine ⟨sI (sJ h 50 st.length x) 49 2 (nI (st.length + 1)), ?_, ⟨(Fq.sj (Or.inr rfl)).tr (Fq.si (Or.inl rfl)), by rw [sI_I, if_neg (by omega)]; rfl⟩, ?_⟩
      · rw [if_pos (show lg_cmp x 1000000000000000 ≤ 0 from (cmp_le x LM).mpr q2), gi_49 S, bs, w.1, if_neg (show ¬ (8 : Int32) ≤ nI st.length from nI_ge (b := 8) hl (by decide)), g_49_1 S, bs, bs, st_50 S hl, bs, gi_49 S1, bs, e1, nI_1, pi_49 S1, bs, bs]
      · rw [if_neg (fun q => q.elim q1 (fun q3 => q3 q2))]
        refine ⟨?_, ?_, ?_, ?_, ?_⟩
        · rw [sI_I, if_neg (by omega)]; exact h0
        · rw [sI_I, if_pos ⟨rfl, rfl⟩, List.length_cons]
        · rw [List.length_cons]; omega
        · show aJ (sJ h 50 st.length x) 50 st.length = x
          rw [sJ_J, if_pos ⟨rfl, rfl⟩]
        · refine w.2.2.fr (fun i hi => ?_)
          show aJ (sJ h 50 st.length x) 50 i = _
          rw [sJ_J, if_neg (by omega)]
    · refine ⟨sI h 49 3 3, ?_, ⟨Fq.si (Or.inl rfl), by rw [sI_I, if_neg (by omega)]⟩, ?_⟩
      · rw [if_neg (show ¬ lg_cmp x 1000000000000000 ≤ 0 from fun e => q2 ((cmp_le x LM).mp e)), pi_49 S, bs, bs]
      · rw [if_pos (Or.inr q2)]
        show aI (sI h 49 3 3) 49 3 = nI 3
        rw [sI_I, if_pos ⟨rfl, rfl⟩]
        rfl
theorem q_pop (S : Sh h) {a : Int64} {st : List Int64} (w : Wk h (a :: st)) : ∃ h', f_X7_pop h 49 = some (a, h') ∧ Fw h h' ∧ aI h' 49 3 = aI h 49 3 ∧ Wk h' st ∧ aJ h' = aJ h := by
  have hl := w.2.1
  rw [List.length_cons] at hl
  have e1 : aI h 49 2 = nI (st.length + 1) := by rw [w.1, List.length_cons]
  have S1 : Sh (sI h 49 2 (nI st.length)) := S.sI
  have e2 : aI (sI h 49 2 (nI st.length)) 49 2 = nI st.length := by rw [sI_I, if_pos ⟨rfl, rfl⟩]
  refine ⟨sI h 49 2 (nI st.length), ?_, ⟨Fq.si (Or.inl rfl), by rw [sI_I, if_neg (by omega)]⟩, by rw [sI_I, if_neg (by omega)], ⟨e2, by omega, w.2.2.2⟩, rfl⟩
  unfold f_X7_pop
  have e3 : aJ (sI h 49 2 (nI st.length)) 50 st.length = a := w.2.2.1
  rw [if_pos (k_49 S), gi_49 S, bs, e1, if_neg (nI_ne0 (by omega) (by omega)), bs, nI_pred, pi_49 S, bs, g_49_1 S1, bs, gi_49 S1, bs, e2, ld_50 S1 (by omega), bs, e3]
end Worker
/-! reckoning -/
def rkS (k : Nat) : List Int64 → Except Nat (List Int64)
  | a :: r => if k = 21 then (if a = 0 then .ok r else .error 2) else if k = 22 then .ok (a :: a :: r) else if k = 24 then .ok r else match r with
    | b :: t => if k = 14 then psJ (b + a) t else if k = 15 then psJ (b - a) t else if k = 16 then (if b = 0 then psJ (b * a) t else if abJ a ≤ LM / abJ b then psJ (b * a) t else .error 3)
      else if k = 17 then (if a = 0 then .error 1 else psJ (b / a) t) else if k = 18 then psJ (mnJ b a) t else if k = 19 then psJ (mxJ b a) t else if k = 23 then .ok (b :: a :: t) else match t with
        | c :: u => psJ (if c ≤ 0 then a else b) u
        | [] => .ok []
    | [] => .ok []
  | [] => .ok []
def BdS (st : List Int64) : Prop := ∀ x, x ∈ st → bdJ x
section Reckon
variable {h : AH}
theorem abJ_0 {x : Int64} (h : abJ x = 0) : x = 0 := by
  unfold abJ at h
  split at h
  · exact h
  · have := congrArg (fun y : Int64 => -y) h
    simpa using this
theorem q_join (S : Sh h) {a b : Int64} {t : List Int64} (w : Wk h t) (hl : t.length < 8) (h0 : aI h 49 3 = 0) {k : Nat} (hk : 14 ≤ k ∧ k ≤ 19) : ∃ h', f_X7_join h 49 (nI k) b a = some h' ∧ Fw h h' ∧ OutW h' (rkS k (a :: b :: t)) := by
  rcases (show k = 14 ∨ k = 15 ∨ k = 16 ∨ k = 17 ∨ k = 18 ∨ k = 19 by omega) with rfl | rfl | rfl | rfl | rfl | rfl
  · obtain ⟨h1, e1, f1, o1⟩ := q_push S w hl h0 (b + a)
    refine ⟨h1, ?_, f1, o1⟩
    unfold f_X7_join
    rw [if_pos (k_49 S), if_pos (show nI 14 = 14 from rfl), e1, bs, bs]
  · obtain ⟨h1, e1, f1, o1⟩ := q_push S w hl h0 (b - a)
    refine ⟨h1, ?_, f1, o1⟩
    unfold f_X7_join
    rw [if_pos (k_49 S), if_neg (show ¬ nI 15 = 14 by decide), if_pos (show nI 15 = 15 from rfl), e1, bs, bs]
  · obtain ⟨h1, e1, f1, o1⟩ := q_push S w hl h0 (b * a)
    have hj : f_X7_join h 49 (nI 16) b a = Option.bind (Option.bind (f_X7_times h 49 b a) fun h7 => some h7) fun h1 => some h1 := by
      unfold f_X7_join
      rw [if_pos (k_49 S), if_neg (show ¬ nI 16 = 14 by decide), if_neg (show ¬ nI 16 = 15 by decide), if_pos (show nI 16 = 16 from rfl)]
    have hr : rkS 16 (a :: b :: t) = (if b = 0 then psJ (b * a) t else if abJ a ≤ LM / abJ b then psJ (b * a) t else .error 3) := rfl
    rw [hj, hr]
    unfold f_X7_times
    rw [if_pos (k_49 S)]
    by_cases q1 : b = 0
    · refine ⟨h1, ?_, f1, by rw [if_pos q1]; exact o1⟩
      rw [if_pos ((cmp_eq b 0).mpr q1), e1, bs, bs, bs, bs]
    · have hd : dvJ 1000000000000000 (abJ b) = some (LM / abJ b) := if_pos (fun e => q1 (abJ_0 e))
      rw [if_neg (fun e => q1 ((cmp_eq b 0).mp e)), if_neg q1, bs, bs, hd, bs]
      by_cases q2 : abJ a ≤ LM / abJ b
      · refine ⟨h1, ?_, f1, by rw [if_pos q2]; exact o1⟩
        rw [if_pos ((cmp_le _ _).mpr q2), e1, bs, bs, bs, bs]
      · refine ⟨sI h 49 3 3, ?_, ⟨Fq.si (Or.inl rfl), by rw [sI_I, if_neg (by omega)]⟩, ?_⟩
        · rw [if_neg (fun e => q2 ((cmp_le _ _).mp e)), pi_49 S, bs, bs, bs, bs]
        · rw [if_neg q2]
          show aI (sI h 49 3 3) 49 3 = nI 3
          rw [sI_I, if_pos ⟨rfl, rfl⟩]
          rfl
  · have hj : f_X7_join h 49 (nI 17) b a = Option.bind (Option.bind (f_X7_by h 49 b a) fun h7 => some h7) fun h1 => some h1 := by
      unfold f_X7_join
      rw [if_pos (k_49 S), if_neg (show ¬ nI 17 = 14 by decide), if_neg (show ¬ nI 17 = 15 by decide), if_neg (show ¬ nI 17 = 16 by decide), if_pos (show nI 17 = 17 from rfl)]
    have hr : rkS 17 (a :: b :: t) = (if a = 0 then .error 1 else psJ (b / a) t) := rfl
    rw [hj, hr]
    unfold f_X7_by
    rw [if_pos (k_49 S)]
    by_cases q1 : a = 0
    · refine ⟨sI h 49 3 1, ?_, ⟨Fq.si (Or.inl rfl), by rw [sI_I, if_neg (by omega)]⟩, ?_⟩
      · rw [if_pos ((cmp_eq a 0).mpr q1), pi_49 S, bs, bs, bs, bs]
      · rw [if_pos q1]
        show aI (sI h 49 3 1) 49 3 = nI 1
        rw [sI_I, if_pos ⟨rfl, rfl⟩]
        rfl
    · obtain ⟨h1, e1, f1, o1⟩ := q_push S w hl h0 (b / a)
      refine ⟨h1, ?_, f1, by rw [if_neg q1]; exact o1⟩
      rw [if_neg (fun e => q1 ((cmp_eq a 0).mp e)), show dvJ b a = some (b / a) from if_pos q1, bs, e1, bs, bs, bs, bs]
  · obtain ⟨h1, e1, f1, o1⟩ := q_push S w hl h0 (mnJ b a)
    refine ⟨h1, ?_, f1, o1⟩
    unfold f_X7_join
    rw [if_pos (k_49 S), if_neg (show ¬ nI 18 = 14 by decide), if_neg (show ¬ nI 18 = 15 by decide), if_neg (show ¬ nI 18 = 16 by decide), if_neg (show ¬ nI 18 = 17 by decide), if_pos (show nI 18 = 18 from rfl), bs, e1, bs, bs]
  · obtain ⟨h1, e1, f1, o1⟩ := q_push S w hl h0 (mxJ b a)
    refine ⟨h1, ?_, f1, o1⟩
    unfold f_X7_join
    rw [if_pos (k_49 S), if_neg (show ¬ nI 19 = 14 by decide), if_neg (show ¬ nI 19 = 15 by decide), if_neg (show ¬ nI 19 = 16 by decide), if_neg (show ¬ nI 19 = 17 by decide), if_neg (show ¬ nI 19 = 18 by decide), if_pos (show nI 19 = 19 from rfl), bs, e1, bs, bs]
theorem q_reckon (S : Sh h) {st : List Int64} (w : Wk h st) (hb : BdS st) (h0 : aI h 49 3 = 0) {k : Nat} (hk : 14 ≤ k ∧ k ≤ 24) (ht : tkN k ≤ st.length) (hg : st.length - tkN k + gvN k ≤ 8) : ∃ h', f_X7_reckon h 49 (nI k) = some h' ∧ Fw h h' ∧ OutW h' (rkS k st) := by
  have hne : ∀ a b : Nat, a < 2 ^ 31 → b < 2 ^ 31 → a ≠ b → ¬ nI a = nI b := fun a b ha hb q e => q ((nI_eq ha hb).mp e)
  obtain ⟨a, r, rfl⟩ : ∃ a r, st = a :: r := by
    cases st with
    | nil => exact absurd ht (by rcases (show k = 14 ∨ k = 15 ∨ k = 16 ∨ k = 17 ∨ k = 18 ∨ k = 19 ∨ k = 20 ∨ k = 21 ∨ k = 22 ∨ k = 23 ∨ k = 24 by omega) with rfl | rfl | rfl | rfl | rfl | rfl | rfl | rfl | rfl | rfl | rfl <;> decide)
    | cons a r => exact ⟨a, r, rfl⟩
  obtain ⟨h1, e1, f1, n1, w1, j1⟩ := q_pop S w
  have S1 := f1.1.S S
  rw [h0] at n1
  have hl := w.2.1
  rw [List.length_cons] at hl ht hg
  have hu : f_X7_reckon h 49 (nI k) = Option.bind (if nI k = 20 then Option.bind (f_X7_choose h1 49 a) fun h5 => some h5 else if nI k = 21 then Option.bind (if lg_cmp a 0 = 0 then some (0 : Int32) else some (2 : Int32)) fun x6 => Option.bind (pI h1 7 49 3 x6) fun h7 => some h7 else if nI k = 22 then Option.bind (f_X7_push h1 49 a) fun h9 => Option.bind (f_X7_push h9 49 a) fun h11 => some h11 else if nI k = 23 then Option.bind (f_X7_pop h1 49) fun w => match w with
      | (x12, h13) => Option.bind (f_X7_join h13 49 (nI k) x12 a) fun h15 => some h15
      else if nI k = 24 then some h1 else Option.bind (f_X7_pop h1 49) fun w => match w with
      | (x16, h17) => Option.bind (f_X7_join h17 49 (nI k) x16 a) fun h19 => some h19) fun h3 => some h3 := by
    unfold f_X7_reckon
    rw [if_pos (k_49 S), e1, bs]
  rw [hu]
  rcases (show (14 ≤ k ∧ k ≤ 19) ∨ k = 20 ∨ k = 21 ∨ k = 22 ∨ k = 23 ∨ k = 24 by omega) with q | rfl | rfl | rfl | rfl | rfl
  · have t2 : tkN k = 2 := by rcases (show k = 14 ∨ k = 15 ∨ k = 16 ∨ k = 17 ∨ k = 18 ∨ k = 19 by omega) with rfl | rfl | rfl | rfl | rfl | rfl <;> rfl
    obtain ⟨b, t, rfl⟩ : ∃ b t, r = b :: t := by
      cases r with
      | nil => rw [t2] at ht; simp at ht
      | cons b t => exact ⟨b, t, rfl⟩
    obtain ⟨h2, e2, f2, n2, w2, -⟩ := q_pop S1 w1
    rw [List.length_cons] at hl
    obtain ⟨h3, e3, f3, o3⟩ := q_join (f2.1.S S1) (a := a) (b := b) w2 (by omega) (by rw [n2, n1]) q
    refine ⟨h3, ?_, (f1.tr f2).tr f3, o3⟩
    rw [if_neg (show ¬ nI k = 20 from hne k 20 (by omega) (by decide) (by omega)), if_neg (show ¬ nI k = 21 from hne k 21 (by omega) (by decide) (by omega)), if_neg (show ¬ nI k = 22 from hne k 22 (by omega) (by decide) (by omega)), if_neg (show ¬ nI k = 23 from hne k 23 (by omega) (by decide) (by omega)), if_neg (show ¬ nI k = 24 from hne k 24 (by omega) (by decide) (by omega)), e2, bs]
    show Option.bind (Option.bind (f_X7_join h2 49 (nI k) b a) fun h19 => some h19) (fun h3 => some h3) = _
    rw [e3, bs, bs]
  · obtain ⟨b, r2, rfl⟩ : ∃ b t, r = b :: t := by
      cases r with
      | nil => exact absurd ht (by decide)
      | cons b t => exact ⟨b, t, rfl⟩
    obtain ⟨c, u, rfl⟩ : ∃ b t, r2 = b :: t := by
      cases r2 with
      | nil => have h3 : (3 : Nat) ≤ 2 := ht; omega
      | cons b t => exact ⟨b, t, rfl⟩
    obtain ⟨h2, e2, f2, n2, w2, -⟩ := q_pop S1 w1
    have S2 := f2.1.S S1
    obtain ⟨h3, e3, f3, n3, w3, -⟩ := q_pop S2 w2
    rw [List.length_cons, List.length_cons] at hl
    obtain ⟨h4, e4, f4, o4⟩ := q_push (f3.1.S S2) w3 (by omega) (by rw [n3, n2, n1]) (if c ≤ 0 then a else b)
    refine ⟨h4, ?_, ((f1.tr f2).tr f3).tr f4, o4⟩
    rw [if_pos (show nI 20 = 20 from rfl)]
    unfold f_X7_choose
    rw [if_pos (k_49 S1), e2, bs]
    show Option.bind (Option.bind (Option.bind (f_X7_pop h2 49) fun w => match w with
      | (x3, h4) => Option.bind (if lg_cmp x3 0 ≤ 0 then some a else some b) fun x5 => Option.bind (f_X7_push h4 49 x5) fun h7 => some h7) fun h5 => some h5) (fun h3 => some h3) = _
    rw [e3, bs]
    show Option.bind (Option.bind (Option.bind (if lg_cmp c 0 ≤ 0 then some a else some b) fun x5 => Option.bind (f_X7_push h3 49 x5) fun h7 => some h7) fun h5 => some h5) (fun h3 => some h3) = _
    have e5 : (if lg_cmp c 0 ≤ 0 then some a else some b) = some (if c ≤ 0 then a else b) := by
      by_cases q : c ≤ 0
      · rw [if_pos ((cmp_le c 0).mpr q), if_pos q]
      · rw [if_neg (fun e => q ((cmp_le c 0).mp e)), if_neg q]
    rw [e5, bs, e4, bs, bs, bs]
  · rw [if_neg (show ¬ nI 21 = 20 by decide), if_pos (show nI 21 = 21 from rfl)]
    by_cases q : a = 0
    · refine ⟨sI h1 49 3 0, ?_, f1.tr ⟨Fq.si (Or.inl rfl), by rw [sI_I, if_neg (by omega)]⟩, ?_⟩
      · rw [if_pos ((cmp_eq a 0).mpr q), bs, pi_49 S1, bs, bs]
      · have hr : rkS 21 (a :: r) = (if a = 0 then .ok r else .error 2) := rfl
        rw [hr, if_pos q]
        exact ⟨by rw [sI_I, if_pos ⟨rfl, rfl⟩], by rw [sI_I, if_neg (by omega)]; exact w1.1, w1.2.1, w1.2.2⟩
    · refine ⟨sI h1 49 3 2, ?_, f1.tr ⟨Fq.si (Or.inl rfl), by rw [sI_I, if_neg (by omega)]⟩, ?_⟩
      · rw [if_neg (fun e => q ((cmp_eq a 0).mp e)), bs, pi_49 S1, bs, bs]
      · have hr : rkS 21 (a :: r) = (if a = 0 then .ok r else .error 2) := rfl
        rw [hr, if_neg q]
        show aI (sI h1 49 3 2) 49 3 = nI 2
        rw [sI_I, if_pos ⟨rfl, rfl⟩]
        rfl
  · rw [if_neg (show ¬ nI 22 = 20 by decide), if_neg (show ¬ nI 22 = 21 by decide), if_pos (show nI 22 = 22 from rfl)]
    have ba := hb a List.mem_cons_self
    have hg' : r.length + 1 - 1 + 2 ≤ 8 := hg
    obtain ⟨h2, e2, f2, o2⟩ := q_push S1 w1 (by omega) n1 a
    rw [ps_ok ba] at o2
    obtain ⟨h3, e3, f3, o3⟩ := q_push (f2.1.S S1) o2.2 (by rw [List.length_cons]; omega) o2.1 a
    rw [ps_ok ba] at o3
    exact ⟨h3, by rw [e2, bs, e3, bs, bs], (f1.tr f2).tr f3, o3⟩
  · obtain ⟨b, t, rfl⟩ : ∃ b t, r = b :: t := by
      cases r with
      | nil => exact absurd ht (by decide)
      | cons b t => exact ⟨b, t, rfl⟩
    rw [if_neg (show ¬ nI 23 = 20 by decide), if_neg (show ¬ nI 23 = 21 by decide), if_neg (show ¬ nI 23 = 22 by decide), if_pos (show nI 23 = 23 from rfl)]
    have ba := hb a List.mem_cons_self
    have bb := hb b (List.mem_cons_of_mem _ List.mem_cons_self)
    obtain ⟨h2, e2, f2, n2, w2, -⟩ := q_pop S1 w1
    have S2 := f2.1.S S1
    rw [List.length_cons] at hl
    obtain ⟨h3, e3, f3, o3⟩ := q_push S2 w2 (by omega) (by rw [n2, n1]) a
    rw [ps_ok ba] at o3
    obtain ⟨h4, e4, f4, o4⟩ := q_push (f3.1.S S2) o3.2 (by rw [List.length_cons]; omega) o3.1 b
    rw [ps_ok bb] at o4
    refine ⟨h4, ?_, ((f1.tr f2).tr f3).tr f4, o4⟩
    rw [e2, bs]
    show Option.bind (Option.bind (f_X7_join h2 49 (nI 23) b a) fun h15 => some h15) (fun h3 => some h3) = _
    unfold f_X7_join
    rw [if_pos (k_49 S2), if_neg (show ¬ nI 23 = 14 by decide), if_neg (show ¬ nI 23 = 15 by decide), if_neg (show ¬ nI 23 = 16 by decide), if_neg (show ¬ nI 23 = 17 by decide), if_neg (show ¬ nI 23 = 18 by decide), if_neg (show ¬ nI 23 = 19 by decide), if_neg (show ¬ (nI 23 = 20 ∨ nI 23 = 21 ∨ nI 23 = 22) by decide), if_pos (show nI 23 = 23 from rfl), e3, bs, e4, bs, bs, bs, bs]
  · rw [if_neg (show ¬ nI 24 = 20 by decide), if_neg (show ¬ nI 24 = 21 by decide), if_neg (show ¬ nI 24 = 22 by decide), if_neg (show ¬ nI 24 = 23 by decide), if_pos (show nI 24 = 24 from rfl)]
    exact ⟨h1, bs _ _, f1, n1, w1⟩
end Reckon
