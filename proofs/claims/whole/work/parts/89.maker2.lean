/-! the class: maker, its fault -/
theorem dgt : ∀ d, d < 9 → ∀ g, g < 3 → ∀ t, t < 4 → t ≤ d → nI d + (nI g - nI t) = nI (d - t + g) := by decide +kernel
theorem m1s : ∀ s, s < 25 → (-1 : Int32) - nI s ≠ 0 := by decide +kernel
theorem gvI_n {k : Nat} (hk : k < 25) : gvI (nI k) = some (nI (gvN k)) := by
  have := (show ∀ k, k < 25 → gvI (nI k) = some (nI (gvN k)) by decide +kernel) k hk
  exact this
theorem gv2 {k : Nat} (hk : k < 25) : gvN k ≤ 2 := (show ∀ k, k < 25 → gvN k ≤ 2 by decide +kernel) k hk
def cF (C : List (Int32 × Int32)) (s : Nat) : Nat := ((C[s]?).getD (0, 0)).1.toNatClampNeg
def vF (C : List (Int32 × Int32)) (s : Nat) : Int32 := ((C[s]?).getD (0, 0)).2
theorem cF_at {C : List (Int32 × Int32)} {s : Nat} (hs : s < C.length) : cF C s = C[s].1.toNatClampNeg ∧ vF C s = C[s].2 := by
  unfold cF vF
  rw [List.getElem?_eq_getElem hs]
  exact ⟨rfl, rfl⟩
/-- no fault: a maker -/
theorem fl_ok {o : Bool} {C : List (Int32 × Int32)} (hC : C.length ≤ 24) : ∀ (r : List (Int32 × Int32)) (s d : Nat), C.drop s = r → s ≤ C.length → d = dpN (cF C) s → flG o C r s d = 0 → (∀ j, s ≤ j → j < C.length → (okS o (cF C j) (vF C j) ∧ C[j]? = some (nI (cF C j), vF C j)) ∧ tkN (cF C j) ≤ dpN (cF C) j ∧ dpN (cF C) (j + 1) ≤ 8) ∧ dpN (cF C) C.length = 1 := by
  intro r
  induction r with
  | nil =>
    intro s d hr hs hd h
    have hl : C.length ≤ s := List.drop_eq_nil_iff.mp hr
    have e : C.length = s := by omega
    have h' : (if d = 1 then (0 : Int32) else -1 - nI C.length) = 0 := h
    refine ⟨fun j h1 h2 => by omega, ?_⟩
    by_cases q : d = 1
    · rw [e, ← hd]; exact q
    · rw [if_neg q] at h'
      exact absurd h' (m1s C.length (by omega))
  | cons cv r ih =>
    intro s d hr hs hd h
    obtain ⟨c, v⟩ := cv
    have hl : s < C.length := by
      rcases Nat.lt_or_ge s C.length with q | q
      · exact q
      · rw [List.drop_eq_nil_of_le q] at hr; cases hr
    have h2 := List.drop_eq_getElem_cons hl
    rw [hr] at h2
    have e1 : C[s] = (c, v) := (List.cons.inj h2).1.symm
    have e2 : C.drop (s + 1) = r := (List.cons.inj h2).2.symm
    obtain ⟨k1, k2⟩ := cF_at hl
    rw [e1] at k1 k2
    have h' : (if isB o c v = true ∧ tkV c ≤ d ∧ d - tkV c + gvV c ≤ 8 then flG o C r (s + 1) (d - tkV c + gvV c) else -1 - nI s) = 0 := h
    by_cases q : isB o c v = true ∧ tkV c ≤ d ∧ d - tkV c + gvV c ≤ 8
    · rw [if_pos q] at h'
      obtain ⟨q1, q2, q3⟩ := q
      obtain ⟨o1, o2⟩ := is_ok q1
      have k1' : cF C s = c.toNatClampNeg := k1
      have k2' : vF C s = v := k2
      have et : tkV c = tkN (cF C s) := by unfold tkV; rw [k1']
      have eg : gvV c = gvN (cF C s) := by unfold gvV; rw [k1']
      have ed : d - tkV c + gvV c = dpN (cF C) (s + 1) := by rw [et, eg, hd]; rfl
      obtain ⟨i1, i2⟩ := ih (s + 1) (d - tkV c + gvV c) e2 (by omega) ed h'
      refine ⟨fun j h1 h2 => ?_, i2⟩
      rcases Nat.lt_or_ge s j with q4 | q4
      · exact i1 j q4 h2
      · have : j = s := by omega
        subst this
        refine ⟨⟨by rw [k1', k2']; exact o2, ?_⟩, by rw [← et, ← hd]; exact q2, by rw [← ed]; exact q3⟩
        rw [List.getElem?_eq_getElem hl, e1, k1', k2', ← o1]
    · rw [if_neg q] at h'
      exact absurd h' (m1s s (by omega))
theorem cpI_g {h : AH} {a b sp dp n : Nat} (ka : aK h a = 10) (kb : aK h b = 10) (ha : sp + n ≤ aE h a) (hb : dp + n ≤ aE h b) (hsp : sp < 2 ^ 31) (hdp : dp < 2 ^ 31) (hn : n < 2 ^ 31) : cpI h a (nI sp) b (nI dp) (nI n) = some (rI h b (va_cpy (aI h a) (aI h b) sp dp n)) := by
  unfold cpI
  rw [if_pos ⟨⟨ka, kb⟩, ⟨nI_nn hsp, nI_nn hdp, nI_nn hn⟩, by rw [nI_clamp hsp, nI_clamp hn]; omega, by rw [nI_clamp hdp, nI_clamp hn]; omega⟩, nI_clamp hsp, nI_clamp hdp, nI_clamp hn]
section Maker
variable {h : AH} {S : SX}
theorem flt4 (Sx : Sh h) {C : List (Int32 × Int32)} (x : ClR h C) (hC : C.length ≤ 24) {k : Nat} (hk : k < 9) : ∀ (r : List (Int32 × Int32)) (n s d : Nat), C.drop s = r → s ≤ C.length → r.length < n → d ≤ 8 →
    (∃ d', d' ≤ 8 ∧ f_X0_faultFor_4 1 (nI k) n h (nI d) (nI s) = some (.inr (nI d')) ∧ flG (decide (k < 6)) C r s d = (if d' = 1 then 0 else -1 - nI C.length)) ∨ ∃ f, f_X0_faultFor_4 1 (nI k) n h (nI d) (nI s) = some (.inl f) ∧ flG (decide (k < 6)) C r s d = f := by
  intro r
  induction r with
  | nil =>
    intro n s d hr hs hn hd
    obtain ⟨n, rfl⟩ : ∃ j, n = j + 1 := ⟨n - 1, by omega⟩
    have hl : C.length ≤ s := List.drop_eq_nil_iff.mp hr
    refine Or.inl ⟨d, hd, ?_, rfl⟩
    unfold f_X0_faultFor_4
    rw [gi_1 Sx, bs, x.1, if_pos (nI_le hl (by omega))]
  | cons cv r ih =>
    intro n s d hr hs hn hd
    obtain ⟨n, rfl⟩ : ∃ j, n = j + 1 := ⟨n - 1, by omega⟩
    obtain ⟨c, v⟩ := cv
    rw [List.length_cons] at hn
    have hl : s < C.length := by
      rcases Nat.lt_or_ge s C.length with q | q
      · exact q
      · rw [List.drop_eq_nil_of_le q] at hr; cases hr
    have h2 := List.drop_eq_getElem_cons hl
    rw [hr] at h2
    have e1 : C[s] = (c, v) := (List.cons.inj h2).1.symm
    have e2 : C.drop (s + 1) = r := (List.cons.inj h2).2.symm
    have l5 : aI h 5 s = c := by rw [(x.2 s hl).1, e1]
    have l6 : aI h 6 s = v := by rw [(x.2 s hl).2, e1]
    have ek : decide (¬ nI k < 0 ∧ ¬ 6 ≤ nI k) = decide (k < 6) := by
      apply decide_eq_decide.mpr
      constructor
      · intro q
        rcases Nat.lt_or_ge k 6 with q2 | q2
        · exact q2
        · exact absurd (nI_le (a := 6) q2 (by omega)) q.2
      · intro q; exact ⟨nI_nn (by omega), nI_ge (b := 6) q (by decide)⟩
    have hu : f_X0_faultFor_4 1 (nI k) (n + 1) h (nI d) (nI s) = if bI (isB (decide (k < 6)) c v) = 0 then some (.inl (-1 - nI s)) else Option.bind (tkI c) fun x10 => if x10 ≤ nI d then Option.bind (gvI c) fun x11 => Option.bind (tkI c) fun x12 => if nI d + (x11 - x12) ≤ 8 then f_X0_faultFor_4 1 (nI k) n h (nI d + (x11 - x12)) (nI (s + 1)) else some (.inl (-1 - nI s)) else some (.inl (-1 - nI s)) := by
      conv => lhs; unfold f_X0_faultFor_4
      have tk : f_X8_isThingKind h (nI k) = some (bI (decide (k < 6))) := by
        unfold f_X8_isThingKind
        rw [if_neg (nI_nn (by omega))]
        by_cases q : k < 6
        · rw [if_neg (show ¬ (6 : Int32) ≤ nI k from nI_ge (b := 6) q (by decide)), bs, bz1, bs]; simp [q, bI]
        · rw [if_pos (show (6 : Int32) ≤ nI k from nI_le (a := 6) (by omega) (by omega)), bs, bz0, bs]; simp [q, bI]
      rw [gi_1 Sx, bs, x.1, if_neg (nI_ge hl (by omega)), g_1_3 Sx, bs, ld_5 Sx (by omega), bs, l5, tk, bs, g_1_4 Sx, bs, ld_6 Sx (by omega), bs, l6, q_isStep, bs, nI_1]
    rw [hu]
    show (∃ d', d' ≤ 8 ∧ _ ∧ (if isB (decide (k < 6)) c v = true ∧ tkV c ≤ d ∧ d - tkV c + gvV c ≤ 8 then flG (decide (k < 6)) C r (s + 1) (d - tkV c + gvV c) else -1 - nI s) = _) ∨ ∃ f, _ ∧ (if isB (decide (k < 6)) c v = true ∧ tkV c ≤ d ∧ d - tkV c + gvV c ≤ 8 then flG (decide (k < 6)) C r (s + 1) (d - tkV c + gvV c) else -1 - nI s) = f
    cases eb : isB (decide (k < 6)) c v with
    | false =>
      rw [if_pos (by decide), if_neg (fun q => by cases q.1)]
      exact Or.inr ⟨_, rfl, rfl⟩
    | true =>
      obtain ⟨o1, o2⟩ := is_ok eb
      have h25 := o2.c
      have t3 := tk3 c.toNatClampNeg
      have g2 := gv2 h25
      have ht : tkI c = some (nI (tkV c)) := by rw [o1]; unfold tkV; rw [tkI_n h25, nI_clamp (by omega)]
      have hg : gvI c = some (nI (gvV c)) := by rw [o1]; unfold gvV; rw [gvI_n h25, nI_clamp (by omega)]
      rw [if_neg (by decide), ht, hg, bs]
      have t3' : tkV c ≤ 3 := t3
      have g2' : gvV c ≤ 2 := g2
      by_cases q1 : tkV c ≤ d
      · rw [if_pos (nI_le q1 (by omega)), bs, bs, dgt d (by omega) _ (by omega) _ (by omega) q1]
        by_cases q2 : d - tkV c + gvV c ≤ 8
        · rw [if_pos (show nI (d - tkV c + gvV c) ≤ 8 from nI_le (b := 8) q2 (by decide)), if_pos ⟨rfl, q1, q2⟩]
          exact ih n (s + 1) (d - tkV c + gvV c) e2 (by omega) (by omega) q2
        · rw [if_neg (show ¬ nI (d - tkV c + gvV c) ≤ 8 from nI_ge (a := 8) (by omega) (by omega)), if_neg (fun q => q2 q.2.2)]
          exact Or.inr ⟨_, rfl, rfl⟩
      · rw [if_neg (nI_ge (by omega) (by omega)), if_neg (fun q => q1 q.2.1)]
        exact Or.inr ⟨_, rfl, rfl⟩
theorem q_fault (Sx : Sh h) {C : List (Int32 × Int32)} (x : ClR h C) (hC : C.length ≤ 24) {k : Nat} (hk : k < 9) : f_X0_faultFor h 1 (nI k) = some (flG (decide (k < 6)) C C 0 0) := by
  unfold f_X0_faultFor
  rw [if_pos (k_1 Sx), show (0 : Int32) = nI 0 from rfl]
  rcases flt4 Sx x hC hk C FU 0 0 rfl (by omega) (by unfold FU; omega) (by omega) with ⟨d', h8, e1, e2⟩ | ⟨f, e1, e2⟩
  · rw [e1, bs, e2]
    simp only []
    by_cases q : d' = 1
    · rw [if_pos (show nI d' = 1 by rw [q]; rfl), if_pos q, bs]; rfl
    · rw [if_neg (show ¬ nI d' = 1 from fun e => q ((nI_eq (b := 1) (by omega) (by decide)).mp e)), if_neg q, gi_1 Sx, bs, x.1, bs]
  · rw [e1, bs, e2]
theorem q_maker (W : WfS S) (x : InvC h S) (k : Int32) : CallOk h (f_X8_maker h 0 k) (oMaker S k) := by
  have Sx := x.1
  have hC := W.2.1
  unfold f_X8_maker
  rw [if_pos (k_0 Sx), n_open x, bs]
  cases eo : tO S with
  | true =>
    have : oMaker S k = (.error 0, S) := by unfold oMaker; rw [if_pos eo]
    rw [this, if_pos rfl]
    exact call_e W x 0
  | false =>
    rw [if_neg (by decide)]
    simp only []
    unfold oMaker
    rw [if_neg (show ¬ tO S = true by rw [eo]; decide)]
    rcases dc_or k (n := 9) (by decide) with ⟨e5, q⟩ | ⟨j, hj, e6, e5, q1, -, q3⟩
    · have : (if k < 0 then some (0 : Int32) else if 9 ≤ k then some 0 else some 1) = some 0 := by
        rcases q with q | ⟨q1, q2, -⟩
        · rw [if_pos q]
        · rw [if_neg q1, if_pos (show (9 : Int32) ≤ k from q2)]
      rw [this, e5, bs, need_0, bs]
      exact call_e W x 1
    have : (if k < 0 then some (0 : Int32) else if 9 ≤ k then some 0 else some 1) = some 1 := by
      rw [if_neg q1, if_neg (show ¬ (9 : Int32) ≤ k from q3)]
    rw [this, e5, bs, need_1, bs, e6]
    simp only []
    rw [g_0_0 Sx, bs]
    unfold f_X0_makeMaker
    rw [if_pos (k_1 Sx), q_fault Sx x.2.2.1 hC hj, bs]
    by_cases qf : flG (decide (j < 6)) (tC S) (tC S) 0 0 = 0
    · rw [if_pos qf, qf, if_pos rfl]
      obtain ⟨g1, g2⟩ := fl_ok hC (tC S) 0 0 rfl (by omega) rfl qf
      have m24 : 24 * nI j = nI (24 * j) := by rw [show (24 : Int32) = nI 24 from rfl, pk_mul]
      obtain ⟨h1, eh1⟩ : ∃ z, z = rI h 2 (va_cpy (aI h 5) (aI h 2) 0 (24 * j) (tC S).length) := ⟨_, rfl⟩
      have f1 : Fr h h1 (fun a => a = 2) := by rw [eh1]; exact Fr.ri rfl
      have S1 := f1.S Sx
      have c1 : cpI h 5 0 2 (nI (24 * j)) (nI (tC S).length) = some h1 := by
        rw [eh1]
        exact cpI_g (sp := 0) (k_5 Sx) (k_2 Sx) (by rw [e_5 Sx]; omega) (by rw [e_2 Sx]; omega) (by decide) (by omega) (by omega)
      obtain ⟨h2, eh2⟩ : ∃ z, z = rI h1 3 (va_cpy (aI h1 6) (aI h1 3) 0 (24 * j) (tC S).length) := ⟨_, rfl⟩
      have f2 : Fr h1 h2 (fun a => a = 3) := by rw [eh2]; exact Fr.ri rfl
      have S2 := f2.S S1
      have c2 : cpI h1 6 0 3 (nI (24 * j)) (nI (tC S).length) = some h2 := by
        rw [eh2]
        exact cpI_g (sp := 0) (k_6 S1) (k_3 S1) (by rw [e_6 S1]; omega) (by rw [e_3 S1]; omega) (by decide) (by omega) (by omega)
      obtain ⟨h3, eh3⟩ : ∃ z, z = sI h2 4 j (nI (tC S).length) := ⟨_, rfl⟩
      have f3 : Fr h2 h3 (fun a => a = 4) := by rw [eh3]; exact Fr.si rfl
      have S3 := f3.S S2
      obtain ⟨h4, eh4⟩ : ∃ z, z = sI h3 1 5 0 := ⟨_, rfl⟩
      have f4 : Fr h3 h4 (fun a => a = 1) := by rw [eh4]; exact Fr.si rfl
      have l0 : aI h 1 5 = nI (tC S).length := x.2.2.1.1
      have l1 : aI h1 1 5 = nI (tC S).length := by rw [f1.i (by decide)]; exact l0
      have l2 : aI h2 1 5 = nI (tC S).length := by rw [f2.i (by decide)]; exact l1
      rw [g_1_3 Sx, bs, g_1_0 Sx, bs, gi_1 Sx, bs, l0, m24, c1, bs, g_1_4 S1, bs, g_1_1 S1, bs, gi_1 S1, bs, l1, c2, bs, g_1_2 S2, bs, gi_1 S2, bs, l2, st_4 S2 hj, bs, ← eh3, bs, pi_1 S3, bs, ← eh4, bs]
      have FF : Fr h h4 (fun a => 1 ≤ a ∧ a ≤ 4) := (((f1.mono (fun a q => by omega)).tr (f2.mono (fun a q => by omega))).tr (f3.mono (fun a q => by omega))).tr (f4.mono (fun a q => by omega))
      have i1 : ∀ i, i ≠ 5 → aI h4 1 i = aI h 1 i := fun i q => by rw [eh4, sI_I, if_neg (fun y => q y.2), f3.i (by decide), f2.i (by decide), f1.i (by decide)]
      have i4 : ∀ i, aI h4 4 i = if i = j then nI (tC S).length else aI h 4 i := fun i => by
        rw [f4.i (by decide), eh3, sI_I]
        by_cases q : i = j
        · rw [if_pos ⟨rfl, q⟩, if_pos q]
        · rw [if_neg (fun y => q y.2), if_neg q, f2.i (by decide), f1.i (by decide)]
      have i2 : ∀ i, aI h4 2 i = va_cpy (aI h 5) (aI h 2) 0 (24 * j) (tC S).length i := fun i => by
        rw [f4.i (by decide), f3.i (by decide), f2.i (by decide), eh1, rI_I, if_pos rfl]
      have i3 : ∀ i, aI h4 3 i = va_cpy (aI h 6) (aI h 3) 0 (24 * j) (tC S).length i := fun i => by
        rw [f4.i (by decide), f3.i (by decide), eh2, rI_I, if_pos rfl, f1.i (by decide), f1.i (by decide)]
      refine ⟨h4, rfl, x.bk eo (FF.mono (fun a q => by omega)) ⟨?_, ?_, fun a ha => ?_, fun a s ha hs => ?_⟩ ⟨?_, fun i hi => by simp at hi⟩ (FF.R x.2.2.2.1 (fun a q1 q2 => by omega)) (FF.R x.2.2.2.2.1 (fun a q1 q2 => by omega)), ?_, FF.k.mono (fun a _ q => by omega)⟩
      · rw [i1 6 (by decide)]; exact x.2.1.1
      · rw [i1 7 (by decide)]; exact x.2.1.2.1
      · rw [i4]
        show _ = nI (if a = j then (tC S).length else bN (tB S) a)
        by_cases q : a = j
        · rw [if_pos q, if_pos q]
        · rw [if_neg q, if_neg q]; exact x.2.1.2.2.1 a ha
      · rw [i2, i3]
        have hs' : s < (if a = j then (tC S).length else bN (tB S) a) := hs
        show _ = nI (if a = j then cF (tC S) s else bC (tB S) a s) ∧ _ = (if a = j then vF (tC S) s else bV (tB S) a s)
        by_cases q : a = j
        · rw [if_pos q] at hs'
          rw [if_pos q, if_pos q, q, pk_cpy_in (by omega) (by omega), pk_cpy_in (by omega) (by omega), show 0 + (24 * j + s - 24 * j) = s by omega]
          obtain ⟨⟨-, g3⟩, -⟩ := g1 s (by omega) hs'
          rw [List.getElem?_eq_getElem hs'] at g3
          have g4 := Option.some.inj g3
          rw [(x.2.2.1.2 s hs').1, (x.2.2.1.2 s hs').2, g4]
          exact ⟨rfl, rfl⟩
        · rw [if_neg q] at hs'
          have h24 := (W.1.2.2 a ha).1
          rw [if_neg q, if_neg q, pk_cpy_out (by omega), pk_cpy_out (by omega)]
          exact x.2.1.2.2.2 a s ha hs'
      · rw [eh4, sI_I, if_pos ⟨rfl, rfl⟩]; rfl
      · refine wf_bk W eo ⟨W.1.1, W.1.2.1, fun a ha => ?_⟩ (by simp) W.2.2.1 W.2.2.2.1 W.2.2.2.2.1 W.2.2.2.2.2.1 (W.2.2.2.2.2.2.2.1 eo).1
        by_cases q : a = j
        · subst q
          have e1 : bN (mkB (tB S) a (tC S)) a = (tC S).length := if_pos rfl
          have e2 : bC (mkB (tB S) a (tC S)) a = cF (tC S) := by funext s; exact if_pos rfl
          have e3 : bV (mkB (tB S) a (tC S)) a = vF (tC S) := by funext s; exact if_pos rfl
          rw [e1, e2, e3]
          exact ⟨hC, fun s hs => ⟨(g1 s (by omega) hs).1.1, (g1 s (by omega) hs).2⟩, Or.inr g2⟩
        · have e1 : bN (mkB (tB S) j (tC S)) a = bN (tB S) a := if_neg q
          have e2 : bC (mkB (tB S) j (tC S)) a = bC (tB S) a := by funext s; exact if_neg q
          have e3 : bV (mkB (tB S) j (tC S)) a = bV (tB S) a := by funext s; exact if_neg q
          rw [e1, e2, e3]
          exact W.1.2.2 a ha
    · rw [if_neg qf, if_neg qf, bs, pi_1 Sx, bs]
      have f4 : Fr h (sI h 1 5 0) (fun a => a = 1) := Fr.si rfl
      have i1 : ∀ i, i ≠ 5 → aI (sI h 1 5 0) 1 i = aI h 1 i := fun i q => by rw [sI_I, if_neg (fun y => q y.2)]
      refine ⟨sI h 1 5 0, rfl, x.bk eo (f4.mono (fun a q => by omega)) ⟨?_, ?_, ?_, ?_⟩ ⟨?_, fun i hi => by simp at hi⟩ (f4.R x.2.2.2.1 (fun a q1 q2 => by omega)) (f4.R x.2.2.2.2.1 (fun a q1 q2 => by omega)), wf_bk W eo W.1 (by simp) W.2.2.1 W.2.2.2.1 W.2.2.2.2.1 W.2.2.2.2.2.1 (W.2.2.2.2.2.2.2.1 eo).1, f4.k.mono (fun a _ q => by omega)⟩
      · rw [i1 6 (by decide)]; exact x.2.1.1
      · rw [i1 7 (by decide)]; exact x.2.1.2.1
      · rw [f4.i (a := 4) (by omega)]; exact x.2.1.2.2.1
      · rw [f4.i (a := 2) (by omega), f4.i (a := 3) (by omega)]; exact x.2.1.2.2.2
      · rw [sI_I, if_pos ⟨rfl, rfl⟩]; rfl
end Maker
