/-! THE OTHER ONE: more of its moves -/
theorem dc_lt (a : Int32) {n : Nat} (hn : n + 1 < 2 ^ 31) : (dcN a (n + 1) = none ∧ (a < 0 ∨ (¬ a < 0 ∧ nI n < a))) ∨ ∃ k, k ≤ n ∧ a = nI k ∧ dcN a (n + 1) = some k ∧ ¬ a < 0 ∧ ¬ nI n < a := by
  rcases dc_or a (n := n + 1) hn with ⟨e5, q | ⟨q1, q2, -⟩⟩ | ⟨k, hk, e6, e5, q1, q2, q3⟩
  · exact Or.inl ⟨e5, Or.inl q⟩
  · refine Or.inl ⟨e5, Or.inr ⟨q1, ?_⟩⟩
    obtain ⟨j, hj, ej⟩ := nI_of q1
    subst ej
    have := (nI_leI (by omega) hj).mp q2
    exact nI_lt (by omega) hj
  · exact Or.inr ⟨k, by omega, e6, e5, q1, by rw [e6]; exact nI_nlt (by omega) (by omega)⟩
theorem i160 (t k : Nat) : ((160 : Int32) + 2 * nI t) + nI k = nI (160 + (2 * t + k)) := by
  rw [show (2 : Int32) = nI 2 from rfl, pk_mul, show (160 : Int32) = nI 160 from rfl, nI_add, nI_add, Nat.add_assoc]
section RMoves2
variable {h : AH} {S : SX}
theorem r_turn (W : WfS S) (x : InvR h S) (l a b : Int32) : RefOk mMv h (f_X9_turn h 53 l a b) (oTurn S l a b) := by
  have Sx := x.1
  have x0 := x.c0 0
  have S0 := x0.1
  have w := S0.b (b := 59) (Or.inl rfl)
  have R := x0.pl
  have f := W.2.2.1
  unfold f_X9_turn oTurn
  rw [if_pos (k_53 Sx), pi_53 Sx, bs]
  rcases r_list W x0 l with ⟨e1, e2⟩ | ⟨l', l1, l2, l3, e1, e2⟩
  · rw [e1, e2, bs, if_pos rfl]; exact ref_e x 2 1 rfl
  rw [e1, e2, bs, if_neg (by decide), gi_53 S0, bs, x0.f1]
  simp only []
  by_cases qo : tO S = false
  · rw [if_pos qo, qo, if_neg (show ¬ bI (!false) = 0 by decide)]; exact ref_e x 0 2 rfl
  have hO := o_ne qo
  have hlen := f.len l'
  rw [if_neg qo, hO, if_pos (show bI (!true) = 0 from rfl), g_53_10 S0, l3]
  have bad : (a < 0 ∨ b < a ∨ ¬ b < nI (qS (tA S) l')) → (match dcN b (qS (tA S) l') with
      | none => (Except.error 1, S)
      | some b => match dcN a (b + 1) with
        | none => (Except.error 1, S)
        | some a => if a < b ∧ a < qZ (tA S) l' then (Except.ok (-3), S) else mvO S (revA (tA S) l' a b)) = ((Except.error 1, S) : Except Nat Int32 × SX) := by
    intro q
    rcases dc_or b (n := qS (tA S) l') (by omega) with ⟨e5, -⟩ | ⟨b', hb, e6, e5, q1, q2, -⟩
    · rw [e5]
    · rw [e5]
      simp only []
      rcases dc_or a (n := b' + 1) (by omega) with ⟨e7, -⟩ | ⟨a', ha, e8, e7, q3, q4, -⟩
      · rw [e7]
      · exfalso
        rcases q with q | q | q
        · exact q3 q
        · rw [e6, e8] at q
          exact nI_nlt (by omega) (by omega) q
        · exact q q2
  by_cases q1 : a < 0
  · have := bad (Or.inl q1)
    rw [if_pos q1]
    refine (congrArg (RefOk mMv h _) this).mpr (ref_e x 1 3 rfl)
  by_cases q2 : b < a
  · have := bad (Or.inr (Or.inl q2))
    rw [if_neg q1, if_pos q2]
    refine (congrArg (RefOk mMv h _) this).mpr (ref_e x 1 3 rfl)
  by_cases q3 : b < nI (qS (tA S) l')
  · obtain ⟨a', ha, ea⟩ := nI_of q1
    have qb : ¬ b < 0 := fun e => q2 (by
      rw [ea]
      have : (0 : Int32) ≤ nI a' := nI_le (a := 0) (by omega) ha
      exact Int32.lt_of_lt_of_le e this)
    obtain ⟨b', hb, eb⟩ := nI_of qb
    have hb' : b' < qS (tA S) l' := by
      rw [eb] at q3
      rcases Nat.lt_or_ge b' (qS (tA S) l') with y | y
      · exact y
      · exact absurd q3 (nI_nlt y hb)
    have hab : a' ≤ b' := by
      rw [ea, eb] at q2
      rcases Nat.lt_or_ge b' a' with y | y
      · exact absurd (nI_lt y ha) q2
      · exact y
    have d1 : dcN b (qS (tA S) l') = some b' := by
      unfold dcN
      rw [if_neg qb, eb, nI_clamp hb, if_pos hb']
    have d2 : dcN a (b' + 1) = some a' := by
      unfold dcN
      rw [if_neg q1, ea, nI_clamp ha, if_pos (by omega)]
    obtain ⟨h1, b1, b2, b3, b4⟩ := r_begun x0 (fun l => f.len l)
    obtain ⟨h2, c1, c2, c3⟩ := r_rev (b2.S S0) b3 b4 f hb' hab
    rw [if_neg q1, if_neg q2, bs, R.sz w l2, bs, if_pos q3, b1, bs, d1]
    simp only []
    rw [d2, ea, eb, c1, bs]
    have kc := kc_rev f hb' hab
    refine ref_m W hO x (b2.tr c2) c3 (rev_wf f hb' hab) (fun q => ?_) (fun q => ?_)
    · simp only []; rw [if_pos (kc.mp q)]
    · simp only []; rw [if_neg (fun y => q (kc.mpr y))]
  · have := bad (Or.inr (Or.inr q3))
    rw [if_neg q1, if_neg q2, bs, R.sz w l2, bs, if_neg q3]
    refine (congrArg (RefOk mMv h _) this).mpr (ref_e x 1 3 rfl)
theorem r_tails (W : WfS S) (x : InvR h S) (l a m b : Int32) : RefOk mMv h (f_X9_tails h 53 l a m b) (oTails S l a m b) := by
  have Sx := x.1
  have x0 := x.c0 0
  have S0 := x0.1
  have w := S0.b (b := 59) (Or.inl rfl)
  have R := x0.pl
  have f := W.2.2.1
  have z := W.2.2.2.1
  unfold f_X9_tails oTails
  rw [if_pos (k_53 Sx), pi_53 Sx, bs]
  rcases r_list W x0 l with ⟨e1, e2⟩ | ⟨l', l1, l2, l3, e1, e2⟩
  · rw [e1, e2, bs, if_pos rfl]; exact ref_e x 2 1 rfl
  rcases r_list W x0 m with ⟨e3, e4⟩ | ⟨m', m1, m2, m3, e3, e4⟩
  · rw [e1, e2, bs, if_neg (by decide), e3, e4, bs, if_pos rfl]; exact ref_e x 2 1 rfl
  rw [e1, e2, bs, if_neg (by decide), e3, e4, bs, if_neg (by decide), gi_53 S0, bs, x0.f1]
  simp only []
  by_cases qo : tO S = false
  · rw [if_pos qo, qo, if_neg (show ¬ bI (!false) = 0 by decide)]; exact ref_e x 0 2 rfl
  have hO := o_ne qo
  have hl40 := f.len l'
  have hm40 := f.len m'
  rw [if_neg qo, hO, if_pos (show bI (!true) = 0 from rfl), g_53_10 S0, bs, l3, m3, R.sz w l2, bs, bs, R.sz w m2, bs]
  by_cases qe : l' = m'
  · rw [if_pos (by rw [qe]), if_pos qe]; exact ref_e x 1 3 rfl
  rw [if_neg (fun e => qe ((nI_eq (by omega) (by omega)).mp e)), if_neg qe]
  rcases dc_lt a (n := qS (tA S) l') (by omega) with ⟨e5, q | ⟨q1, q2⟩⟩ | ⟨k, hk, e6, e5, q1, q2⟩
  · rw [e5, if_pos q]; exact ref_e x 1 3 rfl
  · rw [e5, if_neg q1, if_pos q2]; exact ref_e x 1 3 rfl
  rw [e5, if_neg q1, if_neg q2]
  simp only []
  rcases dc_le b (n := qS (tA S) m') (by omega) with ⟨e7, q | ⟨q3, q4⟩⟩ | ⟨j, hj, e8, e7, q3, q4⟩
  · rw [e7, if_pos q]; exact ref_e x 1 3 rfl
  · rw [e7, if_neg q3, if_neg q4]; exact ref_e x 1 3 rfl
  obtain ⟨h1, b1, b2, b3, b4⟩ := r_begun x0 (fun l => f.len l)
  have S1 := b2.S S0
  obtain ⟨h2, h3, c1, c2, c3, c4, c5⟩ := r_cross S1 b3 b4 f l1 m1 qe hk hj
  have S3 := c4.S (c3.S S1)
  have F : ∀ {g : AH} (i : Nat) (v : Int32), Fg g (sI g 61 i v) (fun a _ => a = 61) := fun i v => Fg.si rfl
  have S4 := (F (g := h3) (492 + l') (nI (k + qS (tA S) m' - j))).S S3
  rw [e7, if_neg q3, if_pos q4, b1, bs, e6, e8, c1, bs, c2, bs, g_53_12 S3, bs, a492, nI_add, nI_min (by omega), st_61 S3 (by omega), bs, g_53_12 S4, bs, a492, nI_add, nI_min (by omega), st_61 S4 (by omega), bs]
  have kc := kc_cr f z l1 m1 qe hk hj
  refine ref_m W hO x ((((b2.tr c3).tr c4).tr (F _ _)).tr (F _ _)) c5 (cr_wf f l1 m1 qe hk hj) (fun q => ?_) (fun q => ?_)
  · simp only []; rw [if_pos (kc.mp q)]
  · simp only []; rw [if_neg (fun y => q (kc.mpr y))]
theorem r_fact (W : WfS S) (x : InvR h S) (t i v : Int32) : RefOk mMv h (f_X9_fact h 53 t i v) (oFact S t i v) := by
  have Sx := x.1
  have x0 := x.c0 0
  have S0 := x0.1
  have f := W.2.2.1
  unfold f_X9_fact oFact
  rw [if_pos (k_53 Sx), pi_53 Sx, bs]
  rcases r_thing W x0 t with ⟨e1, e2⟩ | ⟨t', t1, t2, t3, e1, e2⟩
  · rw [e1, e2, bs, if_pos rfl]; exact ref_e x 2 1 rfl
  rw [e1, e2, bs, if_neg (by decide), gi_53 S0, bs, x0.f1]
  simp only []
  by_cases qo : tO S = false
  · rw [if_pos qo, qo, if_neg (show ¬ bI (!false) = 0 by decide)]; exact ref_e x 0 2 rfl
  have hO := o_ne qo
  rw [if_neg qo, hO, if_pos (show bI (!true) = 0 from rfl), t3]
  rcases dc_le i (n := 3) (by decide) with ⟨e5, q | ⟨q1, q2⟩⟩ | ⟨k, hk, e6, e5, q1, q2⟩
  · have e5' : dcN i 4 = none := e5
    rw [e5', if_pos q]; exact ref_e x 1 3 rfl
  · have e5' : dcN i 4 = none := e5
    rw [e5', if_neg q1, if_neg (show ¬ i ≤ 3 from q2)]; exact ref_e x 1 3 rfl
  have e5' : dcN i 4 = some k := e5
  obtain ⟨h1, b1, b2, b3, b4⟩ := r_begun x0 (fun l => f.len l)
  have S1 := b2.S S0
  rw [e5', if_neg q1, if_pos (show i ≤ 3 from q2), b1, bs, g_53_12 S1, bs, e6, i4t, st_61 S1 (by omega), bs]
  have kc := kc_F (T := bT (tB S)) (A := tA S) (v := v) t1 (show k < 4 by omega)
  refine ref_m W hO x (b2.tr (Fg.si rfl)) (rp_F b3 (by omega) v) f (fun q => ?_) (fun q => ?_)
  · simp only []; rw [if_pos (kc.mp q)]
  · simp only []; rw [if_neg (fun y => q (kc.mpr y))]
theorem r_listFact (W : WfS S) (x : InvR h S) (l i v : Int32) : RefOk mMv h (f_X9_listFact h 53 l i v) (oListFact S l i v) := by
  have Sx := x.1
  have x0 := x.c0 0
  have S0 := x0.1
  have f := W.2.2.1
  unfold f_X9_listFact oListFact
  rw [if_pos (k_53 Sx), pi_53 Sx, bs]
  rcases r_list W x0 l with ⟨e1, e2⟩ | ⟨l', l1, l2, l3, e1, e2⟩
  · rw [e1, e2, bs, if_pos rfl]; exact ref_e x 2 1 rfl
  rw [e1, e2, bs, if_neg (by decide), gi_53 S0, bs, x0.f1]
  simp only []
  by_cases qo : tO S = false
  · rw [if_pos qo, qo, if_neg (show ¬ bI (!false) = 0 by decide)]; exact ref_e x 0 2 rfl
  have hO := o_ne qo
  rw [if_neg qo, hO, if_pos (show bI (!true) = 0 from rfl), l3]
  rcases dc_le i (n := 1) (by decide) with ⟨e5, q | ⟨q1, q2⟩⟩ | ⟨k, hk, e6, e5, q1, q2⟩
  · have e5' : dcN i 2 = none := e5
    rw [e5', if_pos q]; exact ref_e x 1 3 rfl
  · have e5' : dcN i 2 = none := e5
    rw [e5', if_neg q1, if_neg (show ¬ i ≤ 1 from q2)]; exact ref_e x 1 3 rfl
  have e5' : dcN i 2 = some k := e5
  obtain ⟨h1, b1, b2, b3, b4⟩ := r_begun x0 (fun l => f.len l)
  have S1 := b2.S S0
  rw [e5', if_neg q1, if_pos (show i ≤ 1 from q2), b1, bs, g_53_12 S1, bs, e6, i160, st_61 S1 (by omega), bs]
  refine ref_m W hO x (b2.tr (Fg.si rfl)) (rp_L b3 (by omega) v) f (fun q => absurd q kc_L) (fun q => rfl)
theorem r_freeze (W : WfS S) (x : InvR h S) (l n : Int32) : RefOk mMv h (f_X9_freeze h 53 l n) (oFreeze S l n) := by
  have Sx := x.1
  have x0 := x.c0 0
  have S0 := x0.1
  have w := S0.b (b := 59) (Or.inl rfl)
  have R := x0.pl
  have f := W.2.2.1
  unfold f_X9_freeze oFreeze
  rw [if_pos (k_53 Sx), pi_53 Sx, bs]
  rcases r_list W x0 l with ⟨e1, e2⟩ | ⟨l', l1, l2, l3, e1, e2⟩
  · rw [e1, e2, bs, if_pos rfl]; exact ref_e x 2 1 rfl
  rw [e1, e2, bs, if_neg (by decide), gi_53 S0, bs, x0.f1]
  simp only []
  by_cases qo : tO S = false
  · rw [if_pos qo, qo, if_neg (show ¬ bI (!false) = 0 by decide)]; exact ref_e x 0 2 rfl
  have hO := o_ne qo
  have hlen := f.len l'
  rw [if_neg qo, hO, if_pos (show bI (!true) = 0 from rfl), l3]
  rcases dc_le n (n := qS (tA S) l') (by omega) with ⟨e5, q | ⟨q1, q2⟩⟩ | ⟨k, hk, e6, e5, q1, q2⟩
  · rw [e5, if_pos q]; exact ref_e x 1 3 rfl
  · rw [e5, if_neg q1, g_53_10 S0, bs, R.sz w l2, bs, if_neg q2]; exact ref_e x 1 3 rfl
  obtain ⟨h1, b1, b2, b3, b4⟩ := r_begun x0 (fun l => f.len l)
  have S1 := b2.S S0
  rw [e5, if_neg q1, g_53_10 S0, bs, R.sz w l2, bs, if_pos q2, b1, bs, g_53_12 S1, bs, e6, a498, st_61 S1 (by omega), bs]
  refine ref_m W hO x (b2.tr (Fg.si rfl)) (rp_Z f b3 l2 k) ?_ (fun q => absurd q kc_Z) (fun q => rfl)
  obtain ⟨b1, b2, b3, b4, b5, b6, b7⟩ := f
  refine ⟨b1, b2, b3, b4, b5, fun m => ?_, b7⟩
  show (if m = l' then k else qZ (tA S) m) ≤ 40
  split
  · omega
  · exact b6 m
theorem r_link (W : WfS S) (x : InvR h S) (t u : Int32) : RefOk mMv h (f_X9_link h 53 t u) (oLink S t u) := by
  have Sx := x.1
  have x0 := x.c0 0
  have S0 := x0.1
  have f := W.2.2.1
  unfold f_X9_link oLink
  rw [if_pos (k_53 Sx), pi_53 Sx, bs]
  rcases r_thing W x0 t with ⟨e1, e2⟩ | ⟨t', t1, t2, t3, e1, e2⟩
  · rw [e1, e2, bs, if_pos rfl]; exact ref_e x 2 1 rfl
  rw [e1, e2, bs, if_neg (by decide)]
  simp only []
  have fin : (u = -1 ∨ ∃ v, v < bT (tB S) ∧ u = nI v) → RefOk mMv h (Option.bind (gI (sI h 53 0 0) 9 53 1) fun x19 => if x19 = 0 then if t = u then Option.bind (f_X9_fail (sI h 53 0 0) 53 3) fun w => match w with
      | (x26, h27) => some (x26, h27) else Option.bind (f_X9_begun (sI h 53 0 0) 53) fun h21 => Option.bind (gP h21 9 53 12) fun x22 => Option.bind (stI h21 x22 (172 + t) u) fun h23 => Option.bind (f_X9_done h23 53) fun w => match w with
      | (x24, h25) => some (x24, h25) else Option.bind (f_X9_fail (sI h 53 0 0) 53 2) fun w => match w with
      | (x28, h29) => some (x28, h29)) (if tO S = false then (.error 0, S) else if t = u then (.error 1, S) else if fzA (tA S) t' = true ∧ qK (tA S) t' ≠ u then (.ok (-3), S) else mvO S (seK (tA S) t' u)) := by
    intro hu
    rw [gi_53 S0, bs, x0.f1]
    by_cases qo : tO S = false
    · rw [if_pos qo, qo, if_neg (show ¬ bI (!false) = 0 by decide)]; exact ref_e x 0 2 rfl
    have hO := o_ne qo
    rw [if_neg qo, hO, if_pos (show bI (!true) = 0 from rfl)]
    by_cases qe : t = u
    · rw [if_pos qe, if_pos qe]; exact ref_e x 1 3 rfl
    obtain ⟨h1, b1, b2, b3, b4⟩ := r_begun x0 (fun l => f.len l)
    have S1 := b2.S S0
    rw [if_neg qe, if_neg qe, b1, bs, g_53_12 S1, bs, t3, a172, st_61 S1 (by omega), bs]
    have kc := kc_K (T := bT (tB S)) (A := tA S) (v := u) t1
    refine ref_m W hO x (b2.tr (Fg.si rfl)) (rp_K b3 t2 u) ?_ (fun q => ?_) (fun q => ?_)
    · obtain ⟨b1, b2, b3, b4, b5, b6, b7⟩ := f
      refine ⟨b1, b2, b3, b4, b5, b6, fun m hm => ?_⟩
      show (if m = t' then u else qK (tA S) m) = -1 ∨ ∃ v, v < bT (tB S) ∧ (if m = t' then u else qK (tA S) m) = nI v
      split
      · exact hu
      · exact b7 m hm
    · rw [if_pos (kc.mp q)]
    · rw [if_neg (fun y => q (kc.mpr y))]
  by_cases qm : u = -1
  · rw [if_pos qm, if_neg (show ¬ (u ≠ -1 ∧ dcN u (bT (tB S)) = none) from fun q => q.1 qm)]
    exact fin (Or.inl qm)
  rw [if_neg qm]
  rcases r_thing W x0 u with ⟨e3, e4⟩ | ⟨u', u1, u2, u3, e3, e4⟩
  · rw [e4, bs, if_pos rfl, if_pos ⟨qm, e3⟩]; exact ref_e x 2 1 rfl
  · rw [e4, bs, if_neg (by decide), if_neg (show ¬ (u ≠ -1 ∧ dcN u (bT (tB S)) = none) from fun q => by rw [e3] at q; cases q.2)]
    exact fin (Or.inr ⟨u', u1, u3⟩)
end RMoves2
