/-! THE OTHER ONE: work, isTouched -/
def QV (a i : Nat) : Prop := a = 69 ∨ a = 75 ∨ (a = 53 ∧ (i = 28 ∨ i = 29 ∨ i = 32))
theorem QS_V {a i : Nat} (q : QS a i) : QV a i := by unfold QS at q; unfold QV; omega
theorem QL_V {a i : Nat} (q : QL a i) : QV a i := by unfold QL at q; unfold QV; omega
section RWork4
variable {h : AH} {B : BK} {A : AP} {b : Nat} {F : Nat → Int64}
theorem Ck.ql {h' : AH} (x : Ck h B A b F) (hb : Bx b) (f : Fg h h' QL) : Ck h' B A b F := ⟨x.1.ql hb f, fun d hd q => by rw [f.j (by unfold QL; omega)]; exact x.2.1 d hd q, x.2.2⟩
/-- nothing is done where a maker has failed -/
theorem w26f (W : WfB B) (x : Ck h B A b F) {c : Nat} (h0 : aI h 53 28 ≠ -1) (n : Nat) (t a s : Int32) : f_X9_work_26 53 b (nI c) (nI (kiN c)) (nI (owN c)) (n + 1) h t a s = some h := by
  have S := x.1.1
  unfold f_X9_work_26
  rw [g_53_7 S, bs, ld_56 S ki9, bs, gi_53 S, bs]
  by_cases q : aI h 56 (kiN c) ≤ s
  · rw [if_pos q]
  · rw [if_neg q, if_neg h0]
theorem w26l (W : WfB B) (hb : Bx b) (f : WfA A (bT B) (bL B)) {c : Nat} (hc : c < 258) (hC : isC B A c = true) : ∀ (m n : Nat) (h : AH) (s : Nat) (st : List Int64), s + m = nsN B c → m < n → Ck h B A b F → LkR h (idL B A c (nsN B c)) → wkR B A F c s = .ok st → st.length ≤ 8 → StR (aJ h 75) st → aI h 53 28 = -1 →
    ∃ h', f_X9_work_26 53 b (nI c) (nI (kiN c)) (nI (owN c)) (n + 1) h (nI st.length) (nI (idL B A c s).length) (nI s) = some h' ∧ Fg h h' QS ∧ ((∃ y k, wkR B A F c (nsN B c) = .error (y, k) ∧ aI h' 53 28 = nI y ∧ aI h' 53 29 = nI k) ∨ ∃ r, wkR B A F c (nsN B c) = .ok r ∧ aI h' 53 28 = -1 ∧ StR (aJ h' 75) r) := by
  have h24 := n24 W c
  intro m
  induction m with
  | zero =>
    intro n h s st hs hn x lk e hl sr h0
    refine ⟨h, ?_, Fg.rf _ _, Or.inr ⟨st, by rw [show nsN B c = s by omega]; exact e, h0, sr⟩⟩
    have S := x.1.1
    unfold f_X9_work_26
    rw [g_53_7 S, bs, ld_56 S ki9, bs, x.1.2.1.2.2.1 _ ki9, if_pos (nI_le (show bN B (kiN c) ≤ s from by unfold nsN at hs; omega) (by omega))]
  | succ m ih =>
    intro n h s st hs hn x lk e hl sr h0
    obtain ⟨n, rfl⟩ : ∃ j, n = j + 1 := ⟨n - 1, by omega⟩
    have hs' : s < nsN B c := by omega
    obtain ⟨h1, t1, e1, f1, o1, g1⟩ := w26s W hb f hc hC hs' x lk e hl sr h0 (n + 1)
    have h25 : cdN B c s < 25 := (ok_at W hc hs').c
    have x1 := x.qs hb f1
    cases er : wk1 B A F c s st with
    | error y =>
      rw [er] at o1
      have o1' : aI h1 53 28 = nI y := o1
      have hy : aI h1 53 28 ≠ -1 := by
        rw [o1']
        rcases wk_err h25 er with q | q | q <;> rw [q] <;> decide
      have ey : wkR B A F c (s + 1) = .error (y, s) := by
        unfold wkR
        rw [e]
        simp only []
        rw [er]
      have eall : ∀ k, wkR B A F c (s + 1 + k) = .error (y, s) := by
        intro k
        induction k with
        | zero => exact ey
        | succ k ih2 =>
          show wkR B A F c (s + 1 + k + 1) = _
          unfold wkR
          rw [ih2]
      refine ⟨h1, by rw [e1, w26f W x1 hy], f1, Or.inl ⟨y, s, ?_, o1', g1⟩⟩
      have := eall (nsN B c - (s + 1))
      rw [show s + 1 + (nsN B c - (s + 1)) = nsN B c by omega] at this
      exact this
    | ok r =>
      rw [er] at o1
      obtain ⟨o2, o3, o4⟩ := o1
      have er2 : wkR B A F c (s + 1) = .ok r := by
        unfold wkR
        rw [e]
        simp only []
        rw [er]
      obtain ⟨i1, -⟩ := wkR_len W f hc hC (s + 1) (by omega) r er2
      have hok := (W.2.2 (kiN c) ki9).2.1 s hs'
      obtain ⟨h2, e2, f2, r2⟩ := ih n h1 (s + 1) r (by omega) (by omega) x1 (lk.qs f1) er2 (by rw [i1]; exact hok.2.2) o4 o2
      exact ⟨h2, by rw [e1, o3, e2], f1.tr f2, r2⟩
theorem r_work (W : WfB B) (hb : Bx b) (f : WfA A (bT B) (bL B)) {c : Nat} (hc : c < 258) (hC : isC B A c = true) (hz : fzC A c = false) (x : Ck h B A b F) (h0 : aI h 53 28 = -1) : ∃ v h', f_X9_work h 53 b (nI c) = some (v, h') ∧ Fg h h' QV ∧ ((∃ y k, wkA B A F c = .error (y, k) ∧ aI h' 53 28 = nI y ∧ aI h' 53 29 = nI k) ∨ (wkA B A F c = .ok v ∧ aI h' 53 28 = -1)) := by
  have h24 := n24 W c
  obtain ⟨h1, e1, f1, l1⟩ := r_lookAt W hb f hc hC x.1
  have hid : idA B A c = idL B A c (nsN B c) := by unfold idA; rw [if_neg (by rw [hz]; decide)]
  rw [hid] at l1
  have x1 := x.ql hb f1
  obtain ⟨h2, e2, f2, r2⟩ := w26l W hb f hc hC (nsN B c) (FU - 1) h1 0 [] (by omega) (by unfold FU; omega) x1 l1 rfl (by simp) trivial (by rw [f1.i (by unfold QL; omega)]; exact h0)
  have e2' : f_X9_work_26 53 b (nI c) (nI (kiN c)) (nI (owN c)) FU h1 0 0 0 = some h2 := e2
  have S2 := f2.S (f1.S x.1.1)
  refine ⟨aJ h2 75 0, h2, ?_, (f1.mono (fun a i q => QL_V q)).tr (f2.mono (fun a i q => QS_V q)), ?_⟩
  · unfold f_X9_work
    have l0 : ldJ h2 75 0 = some (aJ h2 75 0) := ld_75 S2 (i := 0) (by decide)
    rw [if_pos (k_53 x.1.1), r_kindOf h hc, bs, r_ownerOf h hc, bs, e1, bs, e2', bs, g_53_41 S2, bs, l0, bs]
  · unfold wkA
    rcases r2 with ⟨y, k, q1, q2, q3⟩ | ⟨r, q1, q2, q3⟩
    · exact Or.inl ⟨y, k, by rw [q1], q2, q3⟩
    · refine Or.inr ⟨?_, q2⟩
      rw [q1]
      obtain ⟨i1, -⟩ := wkR_len W f hc hC (nsN B c) (Nat.le_refl _) r q1
      have hn0 : nsN B c ≠ 0 := by
        have hC' := hC
        unfold isC at hC'
        rw [Bool.and_eq_true] at hC'
        have := hC'.1
        unfold nsN
        simpa using this
      have hl1 : r.length = 1 := by
        rw [i1]
        exact ((W.2.2 (kiN c) ki9).2.2).resolve_left hn0
      cases r with
      | nil => simp at hl1
      | cons v t =>
        cases t with
        | nil =>
          have := q3.1
          show Except.ok v = Except.ok (aJ h2 75 0)
          rw [← this]
          rfl
        | cons _ _ => simp at hl1
theorem r_work_f (W : WfB B) (hb : Bx b) (f : WfA A (bT B) (bL B)) {c : Nat} (hc : c < 258) (hC : isC B A c = true) (x : Ck h B A b F) (h0 : aI h 53 28 ≠ -1) : ∃ v h', f_X9_work h 53 b (nI c) = some (v, h') ∧ Fg h h' QV ∧ aI h' 53 28 = aI h 53 28 := by
  obtain ⟨h1, e1, f1, l1⟩ := r_lookAt W hb f hc hC x.1
  have x1 := x.ql hb f1
  have k1 : aI h1 53 28 = aI h 53 28 := f1.i (by unfold QL; omega)
  have S1 := x1.1.1
  refine ⟨aJ h1 75 0, h1, ?_, f1.mono (fun a i q => QL_V q), k1⟩
  unfold f_X9_work
  have l0 : ldJ h1 75 0 = some (aJ h1 75 0) := ld_75 S1 (i := 0) (by decide)
  have e2 : f_X9_work_26 53 b (nI c) (nI (kiN c)) (nI (owN c)) FU h1 0 0 0 = some h1 := w26f W x1 (by rw [k1]; exact h0) (FU - 1) 0 0 0
  rw [if_pos (k_53 x.1.1), r_kindOf h hc, bs, r_ownerOf h hc, bs, e1, bs, e2, bs, g_53_41 S1, bs, l0, bs]
end RWork4
/-! looks that differ -/
section RTouch
variable {B : BK} {P A : AP} {N F : Nat → Int64}
set_option maxRecDepth 8192 in
/-- a step differs just when its looks, or their values, do -/
theorem df_id {W : WfB B} (fP : WfA P (bT B) (bL B)) (fA : WfA A (bT B) (bL B)) {c s : Nat} (hc : c < 258) (hP : isC B P c = true) (hA : isC B A c = true) (hs : s < nsN B c) : dfS B P A N F c s = false ↔ idS B P c s = idS B A c s ∧ ∀ i, i ∈ idS B A c s → vlG A F (owN c) i = vlG P N (owN c) i := by
  have how := ow_lt hc
  obtain ⟨lp, -, p2, p3⟩ := c_ls W fP hc hP
  obtain ⟨la, -, a2, a3⟩ := c_ls W fA hc hA
  have h25 : cdN B c s < 25 := (ok_at W hc hs).c
  rcases (show (1 ≤ cdN B c s ∧ cdN B c s ≤ 3) ∨ (cdN B c s = 9 ∨ cdN B c s = 10 ∨ cdN B c s = 11) ∨ (4 ≤ cdN B c s ∧ cdN B c s ≤ 13 ∧ ¬ (cdN B c s = 9 ∨ cdN B c s = 10 ∨ cdN B c s = 11)) ∨ (cdN B c s = 0 ∨ 14 ≤ cdN B c s) by omega) with q | q | q | q
  · obtain ⟨i, ei, ev⟩ := vl_gi (F := F) (W := W) fA hc hA hs q
    obtain ⟨j, ej, ew⟩ := vl_gi (F := N) (W := W) fP hc hP hs q
    have hd : dfS B P A N F c s = ((decide (cdN B c s = 2 ∨ cdN B c s = 3) && decide (lp ≠ la)) || decide (giN B P c s ≠ giN B A c s)) := by
      unfold dfS
      rw [sd_giv (by omega) (by omega), sd_giv (by omega) (by omega), p3, a3, decide_eq_true q]
      simp
    have hij : (¬ ((cdN B c s = 2 ∨ cdN B c s = 3) ∧ lp ≠ la)) ↔ j = i := by
      have e1 := ei
      have e2 := ej
      unfold idS at e1 e2
      rcases (show cdN B c s = 1 ∨ cdN B c s = 2 ∨ cdN B c s = 3 by omega) with q1 | q1 | q1
      · rw [if_pos q1] at e1 e2
        have x1 := (List.cons.inj e1).1
        have x2 := (List.cons.inj e2).1
        constructor
        · intro _; rw [← x1, ← x2]
        · intro _ y; omega
      · rw [if_neg (by omega), if_pos q1, a3] at e1
        rw [if_neg (by omega), if_pos q1, p3] at e2
        have x1 := (List.cons.inj e1).1
        have x2 := (List.cons.inj e2).1
        constructor
        · intro y
          have : lp = la := Classical.byContradiction (fun z => y ⟨Or.inl q1, z⟩)
          omega
        · intro y z
          exact z.2 (by omega)
      · rw [if_neg (by omega), if_neg (by omega), if_pos q1, a3] at e1
        rw [if_neg (by omega), if_neg (by omega), if_pos q1, p3] at e2
        have x1 := (List.cons.inj e1).1
        have x2 := (List.cons.inj e2).1
        constructor
        · intro y
          have : lp = la := Classical.byContradiction (fun z => y ⟨Or.inr q1, z⟩)
          rw [this] at x2
          omega
        · intro y z
          apply z.2
          by_cases q2 : vaN B c s = 0
          · rw [if_pos q2] at x1 x2; omega
          · rw [if_neg q2] at x1 x2; omega
    rw [hd, ei, ej, Bool.or_eq_false_iff]
    constructor
    · rintro ⟨q1, q2⟩
      have y1 : ¬ ((cdN B c s = 2 ∨ cdN B c s = 3) ∧ lp ≠ la) := fun y => by
        rw [decide_eq_true y.1, decide_eq_true y.2] at q1; cases q1
      have y2 : giN B P c s = giN B A c s := Classical.byContradiction (fun y => by rw [decide_eq_true y] at q2; cases q2)
      have y3 := hij.mp y1
      refine ⟨by rw [y3], fun k hk => ?_⟩
      rw [List.mem_singleton.mp hk, ev, ← y2, ← ew, y3]
    · rintro ⟨q1, q2⟩
      have y3 : j = i := (List.cons.inj q1).1
      have y1 := hij.mpr y3
      have y2 := q2 i (List.mem_singleton.mpr rfl)
      rw [ev, ← y3, ew] at y2
      refine ⟨?_, decide_eq_false (fun y => y y2.symm)⟩
      by_cases z : cdN B c s = 2 ∨ cdN B c s = 3
      · rw [decide_eq_false (fun y => y1 ⟨z, y⟩), Bool.and_false]
      · rw [decide_eq_false z, Bool.false_and]
  · have e1 : ∀ X, idS B X c s = (sdS B X c s).map (fun d => 5000 + d) := fun X => by
      unfold idS
      rw [if_neg (by omega), if_neg (by omega), if_neg (by omega), if_pos q]
    have hd : dfS B P A N F c s = (decide (sdS B P c s ≠ sdS B A c s) || (sdS B A c s).any (fun d => decide (N d ≠ F d))) := by
      unfold dfS
      have q1 : ¬ (cdN B c s = 2 ∨ cdN B c s = 3) := by omega
      have q2 : ¬ (1 ≤ cdN B c s ∧ cdN B c s ≤ 3) := by omega
      simp only [q1, q2, decide_false, Bool.false_and, Bool.or_false]
    have hmap : (sdS B P c s).map (fun d => 5000 + d) = (sdS B A c s).map (fun d => 5000 + d) ↔ sdS B P c s = sdS B A c s := by
      constructor
      · intro e
        have := congrArg (List.map (fun d => d - 5000)) e
        rw [List.map_map, List.map_map] at this
        have id1 : ((fun d => d - 5000) ∘ fun d : Nat => 5000 + d) = id := by funext d; show 5000 + d - 5000 = d; omega
        rw [id1, List.map_id, List.map_id] at this
        exact this
      · intro e; rw [e]
    rw [hd, e1, e1, hmap, Bool.or_eq_false_iff, List.any_eq_false]
    constructor
    · rintro ⟨q1, q2⟩
      refine ⟨Classical.byContradiction (fun y => by rw [decide_eq_true y] at q1; cases q1), fun i hi => ?_⟩
      obtain ⟨d, d1, d2⟩ := List.mem_map.mp hi
      rw [← d2, vl_c, vl_c]
      have := q2 d d1
      exact (Classical.byContradiction (fun y => this (decide_eq_true (fun z => y z.symm))))
    · rintro ⟨q1, q2⟩
      refine ⟨decide_eq_false (fun y => y q1), fun d hd2 y => ?_⟩
      have := q2 (5000 + d) (List.mem_map.mpr ⟨d, hd2, rfl⟩)
      rw [vl_c, vl_c] at this
      exact (of_decide_eq_true y) this.symm
  · have e1 : ∀ X, idS B X c s = [idO (seN X c (cdN B c s) (vaN B c s))] := fun X => by
      unfold idS
      rw [if_neg (by omega), if_neg (by omega), if_neg (by omega), if_neg q.2.2, if_pos q]
    have e2 : ∀ X, sdS B X c s = (seN X c (cdN B c s) (vaN B c s)).toList := fun X => by unfold sdS; rw [if_neg q.2.2, if_pos q]
    have hd : dfS B P A N F c s = (decide (sdS B P c s ≠ sdS B A c s) || (sdS B A c s).any (fun d => decide (N d ≠ F d))) := by
      unfold dfS
      have q1 : ¬ (cdN B c s = 2 ∨ cdN B c s = 3) := by omega
      have q2 : ¬ (1 ≤ cdN B c s ∧ cdN B c s ≤ 3) := by omega
      simp only [q1, q2, decide_false, Bool.false_and, Bool.or_false]
    have v0 : ∀ (X : AP) (M : Nat → Int64), vlG X M (owN c) 0 = 0 := fun X M => by
      unfold vlG
      rw [if_neg (by decide), if_neg (by decide), if_neg (by decide), if_neg (by decide), if_neg (by decide)]
    rw [hd, e1, e1, e2, e2]
    cases seN P c (cdN B c s) (vaN B c s) with
    | none =>
      cases seN A c (cdN B c s) (vaN B c s) with
      | none => simp [idO, v0]
      | some d =>
        constructor
        · intro y; simp at y
        · rintro ⟨y, -⟩
          have : (0 : Nat) = 5000 + d := (List.cons.inj y).1
          omega
    | some d =>
      cases seN A c (cdN B c s) (vaN B c s) with
      | none =>
        constructor
        · intro y; simp at y
        · rintro ⟨y, -⟩
          have : 5000 + d = (0 : Nat) := (List.cons.inj y).1
          omega
      | some e =>
        by_cases q1 : d = e
        · subst q1
          constructor
          · intro y
            refine ⟨rfl, fun i hi => ?_⟩
            have hi' : i = 5000 + d := List.mem_singleton.mp hi
            rw [hi', vl_c, vl_c]
            by_cases z : N d = F d
            · exact z.symm
            · simp [z] at y
          · rintro ⟨-, y⟩
            have := y (5000 + d) (List.mem_singleton.mpr rfl)
            rw [vl_c, vl_c] at this
            simp [this]
        · constructor
          · intro y; simp [q1] at y
          · rintro ⟨y, -⟩
            have : 5000 + d = 5000 + e := (List.cons.inj y).1
            omega
  · have e1 : ∀ X, idS B X c s = [] := fun X => by
      unfold idS
      rw [if_neg (by omega), if_neg (by omega), if_neg (by omega), if_neg (by omega), if_neg (by omega)]
    have hd : dfS B P A N F c s = false := by
      unfold dfS
      have q1 : ¬ (cdN B c s = 2 ∨ cdN B c s = 3) := by omega
      have q2 : ¬ (1 ≤ cdN B c s ∧ cdN B c s ≤ 3) := by omega
      rw [sd_giv (by omega) (by omega), sd_giv (by omega) (by omega)]
      simp [q1, q2]
    rw [e1, e1]
    simp [hd]
end RTouch
