/-! THE OTHER ONE: what is told -/
def mSh (k : Nat) : Int32 := if k = 2 then 1 else 2
def RefR {α : Type} (m : Nat → Int32) (h : AH) (S : SX) (r : Option (α × AH)) (o : Except Nat α) : Prop := ∃ v h', r = some (v, h') ∧ (match o with
  | .ok a => aI h' 53 0 = 0 ∧ v = a
  | .error k => aI h' 53 0 = m k) ∧ InvR h' S ∧ Fg h h' QY
section RTold
variable {h : AH} {S : SX}
theorem rr_s {α : Type} {m : Nat → Int32} (x : InvR h S) (v : α) : RefR m h S (some (v, sI h 53 0 0)) (.ok v) := ⟨v, _, rfl, ⟨c0_0 0, rfl⟩, x.c0 0, c0_fg 0⟩
theorem rr_e {m : Nat → Int32} (x : InvR h S) (k : Nat) (c : Int32) (hc : m k = c) : RefR m h S (Option.bind (f_X9_fail (sI h 53 0 0) 53 c) fun w => match w with
    | (x8, h9) => some (x8, h9)) (.error k) := by
  refine ⟨0, sI (sI h 53 0 0) 53 0 c, ?_, ?_, (x.c0 0).c0 c, (c0_fg 0).tr (c0_fg c)⟩
  · rw [r_fail (x.c0 0).1, bs]
  · show aI _ 53 0 = m k
    rw [c0_0, hc]
theorem rr_l {m : Nat → Int32} (x : InvR h S) (k : Nat) (c : Int32) (hc : m k = c) : RefR m h S (Option.bind (f_X9_fail (sI h 53 0 0) 53 c) fun w => match w with
    | (x8, h9) => some (x8.toInt64, h9)) (.error k) := by
  refine ⟨(0 : Int32).toInt64, sI (sI h 53 0 0) 53 0 c, ?_, ?_, (x.c0 0).c0 c, (c0_fg 0).tr (c0_fg c)⟩
  · rw [r_fail (x.c0 0).1, bs]
  · show aI _ 53 0 = m k
    rw [c0_0, hc]
theorem WfS.nz (W : WfS S) : ∀ d, isC (tB S) (tP S) d = false → tN S d = 0 := fun d hd => by
  cases e : tO S with
  | true => exact (W.2.2.2.2.2.2.1 e).1.2.2.2.1 d hd
  | false => exact (W.2.2.2.2.2.2.2.1 e).2.1 d
theorem r_shadow (W : WfS S) (x : InvR h S) (t k : Int32) : RefR mSh h S (f_X9_shadow h 53 t k) (oShadow S t k) := by
  have Sx := x.1
  have x0 := x.c0 0
  have S0 := x0.1
  unfold f_X9_shadow oShadow
  rw [if_pos (k_53 Sx), pi_53 Sx, bs]
  rcases r_thing W x0 t with ⟨e1, e2⟩ | ⟨t', t1, t2, t3, e1, e2⟩
  · rw [e1, e2, bs, if_pos rfl]; exact rr_l x 2 1 rfl
  rw [e1, e2, bs, if_neg (by decide)]
  simp only []
  rcases dc_le k (n := 5) (by decide) with ⟨e5, q | ⟨q1, q2⟩⟩ | ⟨j, hj, e6, e5, q1, q2⟩
  · have e5' : dcN k 6 = none := e5
    rw [e5', if_pos q]; exact rr_l x 1 2 rfl
  · have e5' : dcN k 6 = none := e5
    rw [e5', if_neg q1, if_neg (show ¬ k ≤ 5 from q2)]; exact rr_l x 1 2 rfl
  have e5' : dcN k 6 = some j := e5
  have hc : 6 * t' + j < 258 := by omega
  have ei : 6 * t + k = nI (6 * t' + j) := by rw [t3, e6, show (6 : Int32) = nI 6 from rfl, pk_mul, nI_add]
  rw [e5', if_neg q1, if_pos (show k ≤ 5 from q2), g_53_11 S0, bs, ei, r_isCell S0 W.1 x0.2.1 (S0.b (Or.inr (Or.inl rfl))) x0.2.2.2.2.1 W.2.2.2.2.1 hc, bs]
  cases ec : isC (tB S) (tP S) (6 * t' + j) with
  | false =>
    rw [if_pos (show bI false = 0 from rfl), bs]
    simp only []
    rw [W.nz _ ec]
    exact rr_s x 0
  | true =>
    rw [if_neg (show ¬ bI true = 0 by decide), g_53_13 S0, bs, ld_62 S0 hc, bs, bs, x0.2.2.2.2.2.1 _ hc]
    exact rr_s x _
theorem r_listShadow (W : WfS S) (x : InvR h S) (l k : Int32) : RefR mSh h S (f_X9_listShadow h 53 l k) (oListShadow S l k) := by
  have Sx := x.1
  have x0 := x.c0 0
  have S0 := x0.1
  unfold f_X9_listShadow oListShadow
  rw [if_pos (k_53 Sx), pi_53 Sx, bs]
  rcases r_list W x0 l with ⟨e1, e2⟩ | ⟨t', t1, t2, t3, e1, e2⟩
  · rw [e1, e2, bs, if_pos rfl]; exact rr_l x 2 1 rfl
  rw [e1, e2, bs, if_neg (by decide)]
  simp only []
  rcases dc_le k (n := 8) (by decide) with ⟨e5, q | ⟨q1, q2⟩⟩ | ⟨j, hj, e6, e5, q1, q2⟩
  · have e5' : dcN k 9 = none := e5
    have q6 : k < 6 := by
      have h1 := Int32.lt_iff_toInt_lt.mp q
      refine Int32.lt_iff_toInt_lt.mpr ?_
      have h3 : (6 : Int32).toInt = 6 := by decide
      rw [ti0] at h1
      omega
    rw [e5', if_pos q6]; exact rr_l x 1 2 rfl
  · have e5' : dcN k 9 = none := e5
    rw [e5', if_neg (show ¬ k ≤ 8 from q2)]
    by_cases q6 : k < 6
    · rw [if_pos q6]; exact rr_l x 1 2 rfl
    · rw [if_neg q6]; exact rr_l x 1 2 rfl
  have e5' : dcN k 9 = some j := e5
  rw [e5', if_pos (show k ≤ 8 from q2), e6]
  simp only []
  by_cases q6 : j < 6
  · rw [if_pos (show nI j < 6 from nI_lt (b := 6) q6 (by decide)), if_pos q6]; exact rr_l x 1 2 rfl
  have hc : 240 + 3 * t' + (j - 6) < 258 := by omega
  have ei : ((240 + 3 * l) + nI j) - 6 = nI (240 + 3 * t' + (j - 6)) := by
    rw [t3, show (3 : Int32) = nI 3 from rfl, pk_mul, show (240 : Int32) = nI 240 from rfl, nI_add, nI_add, show (6 : Int32) = nI 6 from rfl, nI_min (by omega)]
    congr 1
    omega
  rw [if_neg (show ¬ nI j < 6 from nI_nlt (b := 6) (by omega) (by omega)), if_neg q6, ei, bs, gi_53 S0, bs, x0.f1]
  cases eo : tO S with
  | false =>
    rw [if_neg (show ¬ bI (!false) = 0 by decide), bs, (W.2.2.2.2.2.2.2.1 eo).2.1]
    exact rr_s x 0
  | true =>
    rw [if_pos (show bI (!true) = 0 from rfl), g_53_11 S0, bs, r_isCell S0 W.1 x0.2.1 (S0.b (Or.inr (Or.inl rfl))) x0.2.2.2.2.1 W.2.2.2.2.1 hc, bs]
    cases ec : isC (tB S) (tP S) (240 + 3 * t' + (j - 6)) with
    | false =>
      rw [if_pos (show bI false = 0 from rfl), bs, W.nz _ ec]
      exact rr_s x 0
    | true =>
      rw [if_neg (show ¬ bI true = 0 by decide), g_53_13 S0, bs, ld_62 S0 hc, bs, bs, x0.2.2.2.2.2.1 _ hc]
      exact rr_s x _
theorem r_where (W : WfS S) (x : InvR h S) (t w : Int32) : RefR mSh h S (f_X9_where h 53 t w) (oWhere S t w) := by
  have Sx := x.1
  have x0 := x.c0 0
  have S0 := x0.1
  have wb := S0.b (b := 59) (Or.inl rfl)
  have R := x0.pl
  have f := W.2.2.1
  unfold f_X9_where oWhere
  rw [if_pos (k_53 Sx), pi_53 Sx, bs]
  rcases r_thing W x0 t with ⟨e1, e2⟩ | ⟨t', t1, t2, t3, e1, e2⟩
  · rw [e1, e2, bs, if_pos rfl]; exact rr_e x 2 1 rfl
  rw [e1, e2, bs, if_neg (by decide), t3]
  simp only []
  rcases dc_le w (n := 9) (by decide) with ⟨e5, q | ⟨q1, q2⟩⟩ | ⟨j, hj, e6, e5, q1, q2⟩
  · have e5' : dcN w 10 = none := e5
    rw [e5', if_pos q]; exact rr_e x 1 2 rfl
  · have e5' : dcN w 10 = none := e5
    rw [e5', if_neg q1, if_neg (show ¬ w ≤ 9 from q2)]; exact rr_e x 1 2 rfl
  have e5' : dcN w 10 = some j := e5
  rw [e5', if_neg q1, if_pos (show w ≤ 9 from q2), g_53_10 S0, bs, R.hm wb t2, bs, e6]
  simp only []
  have n : ∀ k, k < 10 → j ≠ k → ¬ nI j = nI k := fun k hk q e => q ((nI_eq (by omega) (by omega)).mp e)
  obtain ⟨st, hst⟩ : ∃ y, (if ov (hmA (tA S) t') = -1 then some (0 : Int32) else some 1) = some y ∧ ((hmA (tA S) t' = none ∧ y = 0) ∨ ∃ l k, hmA (tA S) t' = some l ∧ spA (tA S) t' = some k ∧ k < qS (tA S) l ∧ qR (tA S) l k = t' ∧ y = 1) := by
    rcases hm_or f t' with ⟨eh, es, -⟩ | ⟨l, k, -, hl, hk, ek, eh, es⟩
    · exact ⟨0, by rw [eh, ov_n, if_pos rfl], Or.inl ⟨eh, rfl⟩⟩
    · exact ⟨1, by rw [eh, ov_s, if_neg (nI_nm (by omega))], Or.inr ⟨l, k, eh, es, hk, ek, rfl⟩⟩
  obtain ⟨est, hor⟩ := hst
  rw [est, bs]
  rcases (show j = 0 ∨ j = 1 ∨ j = 2 ∨ j = 3 ∨ j = 4 ∨ j = 5 ∨ 6 ≤ j by omega) with rfl | rfl | rfl | rfl | rfl | rfl | q6
  · rw [if_pos (show nI 0 = 0 from rfl), bs, R.hm wb t2, bs]
    exact rr_s x _
  · rw [if_neg (show ¬ nI 1 = 0 by decide), if_pos (show nI 1 = 1 from rfl)]
    have hw : whN (tA S) t' 1 = ov (spA (tA S) t') := rfl
    rw [hw]
    rcases hor with ⟨eh, ey⟩ | ⟨l, k, eh, es, hk, ek, ey⟩
    · have es : spA (tA S) t' = none := by unfold spA; rw [eh]
      rw [ey, if_pos rfl, bs, es]
      exact rr_s x _
    · rw [ey, if_neg (by decide), bs, r_placeOf wb R f t2 eh hk ek, bs, bs, es]
      exact rr_s x _
  · rw [if_neg (show ¬ nI 2 = 0 by decide), if_neg (show ¬ nI 2 = 1 by decide), if_pos (show nI 2 = 2 from rfl)]
    have hw : whN (tA S) t' 2 = ov ((hmA (tA S) t').bind (fun l => nbB (tA S) l t')) := rfl
    rw [hw]
    rcases hor with ⟨eh, ey⟩ | ⟨l, k, eh, es, hk, ek, ey⟩
    · rw [ey, if_pos rfl, bs, eh]
      exact rr_s x _
    · rw [ey, if_neg (by decide), bs, r_neighbour_b wb R f t2 eh es hk ek, bs, bs, eh]
      exact rr_s x _
  · rw [if_neg (show ¬ nI 3 = 0 by decide), if_neg (show ¬ nI 3 = 1 by decide), if_neg (show ¬ nI 3 = 2 by decide), if_pos (show nI 3 = 3 from rfl)]
    have hw : whN (tA S) t' 3 = ov ((hmA (tA S) t').bind (fun l => nbA (tA S) l t')) := rfl
    rw [hw]
    rcases hor with ⟨eh, ey⟩ | ⟨l, k, eh, es, hk, ek, ey⟩
    · rw [ey, if_pos rfl, bs, eh]
      exact rr_s x _
    · rw [ey, if_neg (by decide), bs, r_neighbour_a wb R f t2 eh es hk ek, bs, bs, eh]
      exact rr_s x _
  · rw [if_neg (show ¬ nI 4 = 0 by decide), if_neg (show ¬ nI 4 = 1 by decide), if_neg (show ¬ nI 4 = 2 by decide), if_neg (show ¬ nI 4 = 3 by decide), if_pos (show nI 4 = 4 from rfl), bs, R.lk wb t2, bs]
    exact rr_s x _
  · rw [if_neg (show ¬ nI 5 = 0 by decide), if_neg (show ¬ nI 5 = 1 by decide), if_neg (show ¬ nI 5 = 2 by decide), if_neg (show ¬ nI 5 = 3 by decide), if_neg (show ¬ nI 5 = 4 by decide), if_pos (show nI 5 = 5 from rfl), bs, r_isFrozenThing wb R f t2, bs]
    have : (if bI (fzA (tA S) t') = 0 then some (0 : Int32) else some 1) = some (bI (fzA (tA S) t')) := by cases fzA (tA S) t' <;> rfl
    rw [this, bs]
    exact rr_s x _
  · rw [if_neg (show ¬ nI j = 0 from n 0 (by decide) (by omega)), if_neg (show ¬ nI j = 1 from n 1 (by decide) (by omega)), if_neg (show ¬ nI j = 2 from n 2 (by decide) (by omega)), if_neg (show ¬ nI j = 3 from n 3 (by decide) (by omega)), if_neg (show ¬ nI j = 4 from n 4 (by decide) (by omega)), if_neg (show ¬ nI j = 5 from n 5 (by decide) (by omega)), bs, i4t, show (6 : Int32) = nI 6 from rfl, nI_min (by omega), wb.ld (by omega), bs]
    have hv : aI (sI h 53 0 0) 59 (4 * t' + j - 6) = qF (tA S) (4 * t' + j - 6) := by
      have := R.1 (4 * t' + j - 6) (by omega)
      rwa [Nat.zero_add] at this
    have : whN (tA S) t' j = qF (tA S) (4 * t' + j - 6) := by
      unfold whN
      rw [if_neg (by omega), if_neg (by omega), if_neg (by omega), if_neg (by omega), if_neg (by omega), if_neg (by omega)]
    rw [this, hv]
    exact rr_s x _
theorem r_at (W : WfS S) (x : InvR h S) (l k : Int32) : RefR mZ h S (f_X9_at h 53 l k) (oAt S l k) := by
  have Sx := x.1
  have x0 := x.c0 0
  have S0 := x0.1
  have wb := S0.b (b := 59) (Or.inl rfl)
  have R := x0.pl
  have f := W.2.2.1
  unfold f_X9_at oAt
  rw [if_pos (k_53 Sx), pi_53 Sx, bs]
  rcases r_list W x0 l with ⟨e1, e2⟩ | ⟨l', l1, l2, l3, e1, e2⟩
  · rw [e1, e2, bs, if_pos rfl]; exact rr_e x 2 1 rfl
  have hlen := f.len l'
  rw [e1, e2, bs, if_neg (by decide), l3]
  simp only []
  unfold atN
  rcases dc_or k (n := qS (tA S) l') (by omega) with ⟨e5, q | ⟨q1, q2, -⟩⟩ | ⟨j, hj, e6, e5, q1, -, q3⟩
  · rw [e5, if_pos q, bs]; exact rr_s x _
  · rw [e5, if_neg q1, g_53_10 S0, bs, R.sz wb l2, bs, if_pos q2, bs]; exact rr_s x _
  · rw [e5, if_neg q1, g_53_10 S0, bs, R.sz wb l2, bs, if_neg q3, bs, e6, R.rw wb f l2 hj, bs, bs]; exact rr_s x _
theorem gt_or (l : List Nat) (k : Int32) (hl : l.length < 2 ^ 31) : (gtL l k = -1 ∧ (k < 0 ∨ (¬ k < 0 ∧ nI l.length ≤ k))) ∨ ∃ j, ∃ hj : j < l.length, k = nI j ∧ gtL l k = nI l[j] ∧ ¬ k < 0 ∧ ¬ nI l.length ≤ k := by
  unfold gtL
  rcases dc_or k (n := l.length) hl with ⟨e5, q | ⟨q1, q2, -⟩⟩ | ⟨j, hj, e6, e5, q1, -, q3⟩
  · exact Or.inl ⟨if_pos q, Or.inl q⟩
  · refine Or.inl ⟨?_, Or.inr ⟨q1, q2⟩⟩
    obtain ⟨j, hj, ej⟩ := nI_of q1
    subst ej
    have := (nI_leI (by omega) hj).mp q2
    rw [if_neg q1, nI_clamp hj, List.getElem?_eq_none (by omega)]
  · refine Or.inr ⟨j, hj, e6, ?_, q1, q3⟩
    rw [if_neg q1, e6, nI_clamp (by omega), List.getElem?_eq_getElem hj]
theorem r_worked (x : InvR h S) (k : Int32) : RefR mZ h S (f_X9_worked h 53 k) (.ok (gtL (tW S) k)) := by
  have Sx := x.1
  have x0 := x.c0 0
  have S0 := x0.1
  obtain ⟨a1, a2, a3⟩ := x0.2.2.2.2.2.2.1
  unfold f_X9_worked
  rw [if_pos (k_53 Sx), pi_53 Sx, bs]
  rcases gt_or (tW S) k (by omega) with ⟨e, q | ⟨q1, q2⟩⟩ | ⟨j, hj, ek, e, q1, q2⟩
  · rw [e, if_pos q, bs]; exact rr_s x _
  · rw [e, if_neg q1, gi_53 S0, bs, a1, if_pos q2, bs]; exact rr_s x _
  · rw [e, if_neg q1, gi_53 S0, bs, a1, if_neg q2, g_53_21 S0, bs, ek, ld_66 S0 (by omega), bs, bs, a3 j hj]; exact rr_s x _
theorem r_ring (x : InvR h S) (k : Int32) : RefR mZ h S (f_X9_ring h 53 k) (.ok (gtL (tR S) k)) := by
  have Sx := x.1
  have x0 := x.c0 0
  have S0 := x0.1
  obtain ⟨a1, a2, a3⟩ := x0.2.2.2.2.2.2.2.1
  unfold f_X9_ring
  rw [if_pos (k_53 Sx), pi_53 Sx, bs]
  rcases gt_or (tR S) k (by omega) with ⟨e, q | ⟨q1, q2⟩⟩ | ⟨j, hj, ek, e, q1, q2⟩
  · rw [e, if_pos q, bs]; exact rr_s x _
  · rw [e, if_neg q1, gi_53 S0, bs, a1, if_pos q2, bs]; exact rr_s x _
  · rw [e, if_neg q1, gi_53 S0, bs, a1, if_neg q2, g_53_25 S0, bs, ek, ld_68 S0 (by omega), bs, bs, a3 j hj]; exact rr_s x _
theorem r_order (W : WfS S) (x : InvR h S) (k : Int32) : RefR mZ h S (f_X9_order h 53 k) (.ok (gtL (orS S) k)) := by
  have Sx := x.1
  have x0 := x.c0 0
  have S0 := x0.1
  unfold f_X9_order
  rw [if_pos (k_53 Sx), pi_53 Sx, bs, gi_53 S0, bs, x0.f1]
  cases eo : tO S with
  | false =>
    have ho : orS S = [] := by unfold orS; rw [if_neg (by rw [eo]; decide)]
    have : gtL (orS S) k = -1 := by
      rw [ho]
      unfold gtL
      split <;> rfl
    rw [if_neg (show ¬ bI (!false) = 0 by decide), this]
    exact rr_s x _
  | true =>
    have hor : orS S = orA (isC (tB S) (tP S)) (rdB (tB S) (tP S)) := by unfold orS; rw [if_pos eo]
    have hal : alB (tB S) (tP S) = true := (W.2.2.2.2.2.2.1 eo).1.2.2.2.2
    rw [if_pos (show bI (!true) = 0 from rfl), hor]
    obtain ⟨h1, e1, f1, -, o1⟩ := r_arrange W.1 (Or.inr (Or.inl rfl)) W.2.2.2.2.1 (b := 60) ⟨S0, x0.2.1, S0.b (Or.inr (Or.inl rfl)), x0.2.2.2.2.1⟩
    have S1 := f1.S S0
    have h8 := o1.2.1
    have fin : ∀ v : Int32, RefR mZ h S (some (v, h1)) (.ok v) := fun v => by
      refine ⟨v, h1, rfl, ⟨?_, rfl⟩, x0.fg f1 (fun a i q => by unfold QA at q; unfold QO; omega), (c0_fg 0).tr (f1.mono (fun a i q => by unfold QA at q; unfold QY; omega))⟩
      rw [f1.i (by unfold QA; omega)]; exact c0_0 0
    rcases gt_or (orA (isC (tB S) (tP S)) (rdB (tB S) (tP S))) k (by omega) with ⟨e, q | ⟨q1, q2⟩⟩ | ⟨j, hj, ek, e, q1, q2⟩
    · have q0 : ¬ (0 : Int32) ≤ k := fun y => by
        have h1 := Int32.lt_iff_toInt_lt.mp q
        have h2 := Int32.le_iff_toInt_le.mp y
        omega
      rw [e, if_neg q0]; exact rr_s x _
    · have q0 : (0 : Int32) ≤ k := by
        obtain ⟨j, hj, ej⟩ := nI_of q1
        rw [ej]; exact nI_le (a := 0) (by omega) hj
      rw [e, if_pos q0, g_53_11 S0, bs, e1, bs, hal]
      simp only []
      rw [if_neg (show ¬ bI true = 0 by decide), gi_53 S1, bs, o1.1, if_pos q2, bs]
      exact fin _
    · have q0 : (0 : Int32) ≤ k := by rw [ek]; exact nI_le (a := 0) (by omega) (by omega)
      rw [e, if_pos q0, g_53_11 S0, bs, e1, bs, hal]
      simp only []
      rw [if_neg (show ¬ bI true = 0 by decide), gi_53 S1, bs, o1.1, if_neg q2, g_53_37 S1, bs, ek, ld_71 S1 (by omega), bs, bs, o1.2.2.1 j hj]
      exact fin _
theorem r_cause (x : InvR h S) (w : Int32) : RefR mZ h S (f_X9_cause h 53 w) (oCause S w) := by
  have Sx := x.1
  have x0 := x.c0 0
  have S0 := x0.1
  obtain ⟨c1, c2, c3, c4⟩ := x0.2.2.2.2.2.2.2.2.1
  unfold f_X9_cause oCause
  rw [if_pos (k_53 Sx), pi_53 Sx, bs]
  rcases dc_le w (n := 3) (by decide) with ⟨e5, q | ⟨q1, q2⟩⟩ | ⟨j, hj, e6, e5, q1, q2⟩
  · have e5' : dcN w 4 = none := e5
    rw [e5', if_pos q]; exact rr_e x 1 1 rfl
  · have e5' : dcN w 4 = none := e5
    rw [e5', if_neg q1, if_neg (show ¬ w ≤ 3 from q2)]; exact rr_e x 1 1 rfl
  have e5' : dcN w 4 = some j := e5
  rw [e5', if_neg q1, if_pos (show w ≤ 3 from q2), e6]
  simp only []
  rcases (show j = 0 ∨ j = 1 ∨ j = 2 ∨ j = 3 by omega) with rfl | rfl | rfl | rfl
  · rw [if_pos (show nI 0 = 0 from rfl), gi_53 S0, bs, bs, c1, if_pos rfl]; exact rr_s x _
  · rw [if_neg (show ¬ nI 1 = 0 by decide), if_pos (show nI 1 = 1 from rfl), gi_53 S0, bs, bs, c2, if_neg (by decide), if_pos rfl]; exact rr_s x _
  · rw [if_neg (show ¬ nI 2 = 0 by decide), if_neg (show ¬ nI 2 = 1 by decide), if_pos (show nI 2 = 2 from rfl), gi_53 S0, bs, bs, c3, if_neg (by decide), if_neg (by decide), if_pos rfl]; exact rr_s x _
  · rw [if_neg (show ¬ nI 3 = 0 by decide), if_neg (show ¬ nI 3 = 1 by decide), if_neg (show ¬ nI 3 = 2 by decide), gi_53 S0, bs, bs, c4, if_neg (by decide), if_neg (by decide), if_neg (by decide)]; exact rr_s x _
theorem ct25 (W : WfS S) (x : InvR h S) (l1 : Int32) : ∀ (m n i : Nat), i + m = 258 → m < n → f_X9_count_25 53 l1 n h (nI (if tO S = true then mnG (isC (tB S) (tP S)) i else 0)) (nI i) = some (nI (if tO S = true then mnG (isC (tB S) (tP S)) 258 else 0)) := by
  have Sx := x.1
  intro m
  induction m with
  | zero =>
    intro n i hi hn
    obtain ⟨n, rfl⟩ : ∃ j, n = j + 1 := ⟨n - 1, by omega⟩
    unfold f_X9_count_25
    rw [if_pos (show (258 : Int32) ≤ nI i from nI_le (a := 258) (by omega) (by omega)), show i = 258 by omega]
  | succ m ih =>
    intro n i hi hn
    obtain ⟨n, rfl⟩ : ∃ j, n = j + 1 := ⟨n - 1, by omega⟩
    have hi8 : i < 258 := by omega
    rw [← ih n (i + 1) (by omega) (by omega)]
    conv => lhs; unfold f_X9_count_25
    rw [if_neg (show ¬ (258 : Int32) ≤ nI i from nI_ge (b := 258) hi8 (by decide)), gi_53 Sx, bs, x.f1, nI_1 i]
    cases eo : tO S with
    | false =>
      rw [if_neg (show ¬ bI (!false) = 0 by decide), bs, if_neg (by decide), if_neg (by decide)]
      rfl
    | true =>
      rw [if_pos (show bI (!true) = 0 from rfl), g_53_11 Sx, bs, r_isCell Sx W.1 x.2.1 (Sx.b (Or.inr (Or.inl rfl))) x.2.2.2.2.1 W.2.2.2.2.1 hi8, bs, if_pos rfl, if_pos rfl, mn_s]
      cases isC (tB S) (tP S) i with
      | false =>
        rw [if_pos (show bI false = 0 from rfl), bs, if_neg (by decide), show (0 : Int32) = nI 0 from rfl, nI_add]
      | true =>
        rw [if_neg (show ¬ bI true = 0 by decide), bs, if_pos rfl, nI_1]
theorem r_count (W : WfS S) (x : InvR h S) (w : Int32) : RefR mZ h S (f_X9_count h 53 w) (oCount S w) := by
  have Sx := x.1
  have x0 := x.c0 0
  have S0 := x0.1
  unfold f_X9_count oCount
  rw [if_pos (k_53 Sx), pi_53 Sx, bs]
  rcases dc_le w (n := 6) (by decide) with ⟨e5, q | ⟨q1, q2⟩⟩ | ⟨j, hj, e6, e5, q1, q2⟩
  · have e5' : dcN w 7 = none := e5
    rw [e5', if_pos q]; exact rr_e x 1 1 rfl
  · have e5' : dcN w 7 = none := e5
    rw [e5', if_neg q1, if_neg (show ¬ w ≤ 6 from q2)]; exact rr_e x 1 1 rfl
  have e5' : dcN w 7 = some j := e5
  have hct : f_X9_count_25 53 (nI j) FU (sI h 53 0 0) 0 0 = some (nI (if tO S = true then mnG (isC (tB S) (tP S)) 258 else 0)) := by
    have := ct25 W x0 (nI j) 258 FU 0 rfl (by unfold FU; omega)
    have e : (if tO S = true then mnG (isC (tB S) (tP S)) 0 else 0) = 0 := by split <;> rfl
    rw [e] at this
    exact this
  rw [e5', if_neg q1, if_pos (show w ≤ 6 from q2), e6, hct, bs]
  simp only []
  rcases (show j = 0 ∨ j = 1 ∨ j = 2 ∨ j = 3 ∨ j = 4 ∨ j = 5 ∨ j = 6 by omega) with rfl | rfl | rfl | rfl | rfl | rfl | rfl
  · rw [if_pos (show nI 0 = 0 from rfl), gi_53 S0, bs, bs, x0.t2, if_pos rfl]; exact rr_s x _
  · rw [if_neg (show ¬ nI 1 = 0 by decide), if_pos (show nI 1 = 1 from rfl), gi_53 S0, bs, bs, x0.l3, if_neg (by decide), if_pos rfl]; exact rr_s x _
  · have : (if tO S = true then mnG (isC (tB S) (tP S)) 258 else 0) = (orS S).length := by
      unfold orS
      cases eo : tO S with
      | false => rfl
      | true =>
        have hal : alB (tB S) (tP S) = true := (W.2.2.2.2.2.2.1 eo).1.2.2.2.2
        rw [if_pos rfl, if_pos rfl]
        exact ((or_len (fun c d q => rdB_c c d q)).2.mpr (al_iff.mp hal)).symm
    rw [if_neg (show ¬ nI 2 = 0 by decide), if_neg (show ¬ nI 2 = 1 by decide), if_pos (show nI 2 = 2 from rfl), bs, this, if_neg (by decide), if_neg (by decide), if_pos rfl]; exact rr_s x _
  · rw [if_neg (show ¬ nI 3 = 0 by decide), if_neg (show ¬ nI 3 = 1 by decide), if_neg (show ¬ nI 3 = 2 by decide), if_pos (show nI 3 = 3 from rfl), gi_53 S0, bs, bs, x0.2.2.2.2.2.2.2.2.2.2.1, if_neg (by decide), if_neg (by decide), if_neg (by decide), if_pos rfl]; exact rr_s x _
  · rw [if_neg (show ¬ nI 4 = 0 by decide), if_neg (show ¬ nI 4 = 1 by decide), if_neg (show ¬ nI 4 = 2 by decide), if_neg (show ¬ nI 4 = 3 by decide), if_pos (show nI 4 = 4 from rfl), gi_53 S0, bs, bs, x0.f30, if_neg (by decide), if_neg (by decide), if_neg (by decide), if_neg (by decide), if_pos rfl]; exact rr_s x _
  · rw [if_neg (show ¬ nI 5 = 0 by decide), if_neg (show ¬ nI 5 = 1 by decide), if_neg (show ¬ nI 5 = 2 by decide), if_neg (show ¬ nI 5 = 3 by decide), if_neg (show ¬ nI 5 = 4 by decide), if_pos (show nI 5 = 5 from rfl), gi_53 S0, bs, bs, x0.f31, if_neg (by decide), if_neg (by decide), if_neg (by decide), if_neg (by decide), if_neg (by decide), if_pos rfl]; exact rr_s x _
  · rw [if_neg (show ¬ nI 6 = 0 by decide), if_neg (show ¬ nI 6 = 1 by decide), if_neg (show ¬ nI 6 = 2 by decide), if_neg (show ¬ nI 6 = 3 by decide), if_neg (show ¬ nI 6 = 4 by decide), if_neg (show ¬ nI 6 = 5 by decide), gi_53 S0, bs, x0.f15, if_neg (show ¬ 6 = 0 by decide), if_neg (show ¬ 6 = 1 by decide), if_neg (show ¬ 6 = 2 by decide), if_neg (show ¬ 6 = 3 by decide), if_neg (show ¬ 6 = 4 by decide), if_neg (show ¬ 6 = 5 by decide)]
    cases eg : tG S with
    | false =>
      rw [if_pos (show bI false = 0 from rfl), bs, W.2.2.2.2.2.2.2.2.1 eg]; exact rr_s x _
    | true =>
      rw [if_neg (show ¬ bI true = 0 by decide), gi_53 S0, bs, bs, x0.f16 eg]; exact rr_s x _
end RTold
