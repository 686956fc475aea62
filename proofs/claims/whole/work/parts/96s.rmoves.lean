/-! THE OTHER ONE: its moves -/
def mMv (k : Nat) : Int32 := if k = 2 then 1 else if k = 0 then 2 else 3
theorem dc_le (a : Int32) {n : Nat} (hn : n + 1 < 2 ^ 31) : (dcN a (n + 1) = none ∧ (a < 0 ∨ (¬ a < 0 ∧ ¬ a ≤ nI n))) ∨ ∃ k, k ≤ n ∧ a = nI k ∧ dcN a (n + 1) = some k ∧ ¬ a < 0 ∧ a ≤ nI n := by
  rcases dc_or a (n := n + 1) hn with ⟨e5, q | ⟨q1, q2, -⟩⟩ | ⟨k, hk, e6, e5, q1, q2, q3⟩
  · exact Or.inl ⟨e5, Or.inl q⟩
  · refine Or.inl ⟨e5, Or.inr ⟨q1, ?_⟩⟩
    obtain ⟨j, hj, ej⟩ := nI_of q1
    subst ej
    have := (nI_leI (by omega) hj).mp q2
    exact nI_ge (by omega) hj
  · exact Or.inr ⟨k, by omega, e6, e5, q1, by rw [e6]; exact nI_le (by omega) (by omega)⟩
section RMoves
variable {h : AH} {S : SX}
theorem InvR.f1 (x : InvR h S) : aI h 53 1 = bI (!tO S) := x.2.2.2.2.2.2.2.2.2.1.1
theorem InvR.pl (x : InvR h S) : RpR h 59 0 (tA S) := x.2.2.2.1
theorem off_all {A : AP} {T Ls t : Nat} (f : WfA A T Ls) (hn : hmA A t = none) : ∀ l k, k < qS A l → qR A l k ≠ t := by
  rcases hm_or f t with ⟨-, -, q⟩ | ⟨l, k, -, -, -, -, q, -⟩
  · exact q
  · rw [hn] at q; cases q
theorem r_place (W : WfS S) (x : InvR h S) (t l a : Int32) : RefOk mMv h (f_X9_place h 53 t l a) (oPlace S t l a) := by
  have Sx := x.1
  have x0 := x.c0 0
  have S0 := x0.1
  have w := S0.b (b := 59) (Or.inl rfl)
  have R := x0.pl
  have f := W.2.2.1
  have z := W.2.2.2.1
  unfold f_X9_place oPlace
  rw [if_pos (k_53 Sx), pi_53 Sx, bs]
  rcases r_thing W x0 t with ⟨e1, e2⟩ | ⟨t', t1, t2, t3, e1, e2⟩
  · rw [e1, e2, bs, if_pos rfl]; exact ref_e x 2 1 rfl
  rcases r_list W x0 l with ⟨e3, e4⟩ | ⟨l', l1, l2, l3, e3, e4⟩
  · rw [e1, e2, bs, if_neg (by decide), e3, e4, bs, if_pos rfl]; exact ref_e x 2 1 rfl
  rw [e1, e2, bs, if_neg (by decide), e3, e4, bs, if_neg (by decide), gi_53 S0, bs, x0.f1]
  simp only []
  by_cases qo : tO S = false
  · rw [if_pos qo, qo, if_neg (show ¬ bI (!false) = 0 by decide)]; exact ref_e x 0 2 rfl
  have hO := o_ne qo
  have hlen := f.len l'
  rw [if_neg qo, hO, if_pos (show bI (!true) = 0 from rfl), g_53_10 S0, l3, t3]
  rcases dc_le a (n := qS (tA S) l') (by omega) with ⟨e5, q | ⟨q1, q2⟩⟩ | ⟨k, hk, e6, e5, q1, q2⟩
  · rw [e5, if_pos q]; exact ref_e x 1 3 rfl
  · rw [e5, if_neg q1, bs, R.sz w l2, bs, if_neg q2]; exact ref_e x 1 3 rfl
  rw [e5, if_neg q1, bs, R.sz w l2, bs, if_pos q2, bs, R.hm w t2, bs]
  simp only []
  cases eh : hmA (tA S) t' with
  | some m =>
    rw [ov_s, if_neg (nI_nm (by have := hm6 eh; omega)), if_neg (by simp)]
    exact ref_s x (-4)
  | none =>
    obtain ⟨h1, b1, b2, b3, b4⟩ := r_begun x0 (fun l => f.len l)
    obtain ⟨h2, c1, c2, c3⟩ := r_in (b2.S S0) b3 f t1 l1 hk eh
    rw [ov_n, if_pos rfl, if_pos rfl, b1, bs, e6, c1, bs]
    have kc := kc_ins f z t1 l1 hk (off_all f eh)
    refine ref_m W hO x (b2.tr c2) c3 (ins_wf f t1 l1 hk (off_all f eh)) (fun q => ?_) (fun q => ?_)
    · rw [if_pos (kc.mp q)]
    · rw [if_neg (fun y => q (kc.mpr y))]
theorem r_take (W : WfS S) (x : InvR h S) (t : Int32) : RefOk mMv h (f_X9_take h 53 t) (oTake S t) := by
  have Sx := x.1
  have x0 := x.c0 0
  have S0 := x0.1
  have w := S0.b (b := 59) (Or.inl rfl)
  have R := x0.pl
  have f := W.2.2.1
  unfold f_X9_take oTake
  rw [if_pos (k_53 Sx), pi_53 Sx, bs]
  rcases r_thing W x0 t with ⟨e1, e2⟩ | ⟨t', t1, t2, t3, e1, e2⟩
  · rw [e1, e2, bs, if_pos rfl]; exact ref_e x 2 1 rfl
  rw [e1, e2, bs, if_neg (by decide), gi_53 S0, bs, x0.f1]
  simp only []
  by_cases qo : tO S = false
  · rw [if_pos qo, qo, if_neg (show ¬ bI (!false) = 0 by decide)]; exact ref_e x 0 2 rfl
  have hO := o_ne qo
  rw [if_neg qo, hO, if_pos (show bI (!true) = 0 from rfl), g_53_10 S0, bs, t3, R.hm w t2, bs]
  rcases hm_or f t' with ⟨eh, es, -⟩ | ⟨l, k, -, hl, hk, ek, eh, es⟩
  · rw [eh, es, ov_n, if_pos rfl]
    exact ref_s x (-4)
  · obtain ⟨h1, b1, b2, b3, b4⟩ := r_begun x0 (fun l => f.len l)
    obtain ⟨h2, c1, c2, c3⟩ := r_out (b2.S S0) b3 f hk
    rw [ek] at c1
    rw [eh, es, ov_s, if_neg (nI_nm (by omega)), b1, bs, c1, bs]
    have kc := kc_rem f hk
    refine ref_m W hO x (b2.tr c2) c3 (rem_wf f hk) (fun q => ?_) (fun q => ?_)
    · simp only []; rw [if_pos (kc.mp q)]
    · simp only []; rw [if_neg (fun y => q (kc.mpr y))]
theorem r_move (W : WfS S) (x : InvR h S) (t l a : Int32) : RefOk mMv h (f_X9_move h 53 t l a) (oMove S t l a) := by
  have Sx := x.1
  have x0 := x.c0 0
  have S0 := x0.1
  have w := S0.b (b := 59) (Or.inl rfl)
  have R := x0.pl
  have f := W.2.2.1
  have z := W.2.2.2.1
  unfold f_X9_move oMove
  rw [if_pos (k_53 Sx), pi_53 Sx, bs]
  rcases r_thing W x0 t with ⟨e1, e2⟩ | ⟨t', t1, t2, t3, e1, e2⟩
  · rw [e1, e2, bs, if_pos rfl]; exact ref_e x 2 1 rfl
  rcases r_list W x0 l with ⟨e3, e4⟩ | ⟨l', l1, l2, l3, e3, e4⟩
  · rw [e1, e2, bs, if_neg (by decide), e3, e4, bs, if_pos rfl]; exact ref_e x 2 1 rfl
  rw [e1, e2, bs, if_neg (by decide), e3, e4, bs, if_neg (by decide), gi_53 S0, bs, x0.f1]
  simp only []
  by_cases qo : tO S = false
  · rw [if_pos qo, qo, if_neg (show ¬ bI (!false) = 0 by decide)]; exact ref_e x 0 2 rfl
  have hO := o_ne qo
  have hlen := f.len l'
  rw [if_neg qo, hO, if_pos (show bI (!true) = 0 from rfl), g_53_10 S0, l3, t3]
  have key : ∃ d, (qS (tA S) l' + (if hmA (tA S) t' = some l' then 0 else 1)) = d + 1 - (if hmA (tA S) t' = some l' then 1 else 0) ∧ d = qS (tA S) l' ∧ (hmA (tA S) t' = some l' → 0 < qS (tA S) l') := by
    refine ⟨_, ?_, rfl, fun q => ?_⟩
    · split <;> omega
    · rcases hm_or f t' with ⟨e, -, -⟩ | ⟨l, k, -, -, hk, -, e, -⟩
      · rw [e] at q; cases q
      · rw [e] at q; cases q; omega
  obtain ⟨-, -, -, hpos⟩ := key
  obtain ⟨n, hn⟩ : ∃ n, n + 1 = qS (tA S) l' + (if hmA (tA S) t' = some l' then 0 else 1) := by
    by_cases q : hmA (tA S) t' = some l'
    · rw [if_pos q]; exact ⟨qS (tA S) l' - 1, by have := hpos q; omega⟩
    · rw [if_neg q]; exact ⟨qS (tA S) l', rfl⟩
  have hx : Option.bind (if ov (hmA (tA S) t') = nI l' then some (1 : Int32) else some 0) (fun x15 => some (nI (qS (tA S) l') - x15)) = some (nI n) := by
    by_cases q : hmA (tA S) t' = some l'
    · rw [if_pos q] at hn
      rw [if_pos (by rw [q]; rfl), bs, show (1 : Int32) = nI 1 from rfl, nI_min (by omega)]
      congr 2
      omega
    · rw [if_neg q] at hn
      rw [if_neg (show ¬ ov (hmA (tA S) t') = nI l' from fun e => q ((ov_eq (b := some l') (fun x e => by have := hm6 e; omega) (fun x e => by cases e; omega)).mp e)), bs, show (0 : Int32) = nI 0 from rfl, nI_min (by omega)]
      congr 2
      omega
  obtain ⟨y15, ey1, ey2⟩ : ∃ y, (if ov (hmA (tA S) t') = nI l' then some (1 : Int32) else some 0) = some y ∧ nI (qS (tA S) l') - y = nI n := by
    by_cases q : ov (hmA (tA S) t') = nI l'
    · rw [if_pos q] at hx ⊢; exact ⟨1, rfl, Option.some.inj hx⟩
    · rw [if_neg q] at hx ⊢; exact ⟨0, rfl, Option.some.inj hx⟩
  rw [← hn]
  have hn40 : n ≤ 40 := by split at hn <;> omega
  rcases dc_le a (n := n) (by omega) with ⟨e5, q | ⟨q1, q2⟩⟩ | ⟨k, hk, e6, e5, q1, q2⟩
  · rw [e5, if_pos q]; exact ref_e x 1 3 rfl
  · rw [e5, if_neg q1, bs, R.sz w l2, bs, bs, R.hm w t2, bs, ey1, bs, ey2, if_neg q2]; exact ref_e x 1 3 rfl
  rw [e5, if_neg q1, bs, R.sz w l2, bs, bs, R.hm w t2, bs, ey1, bs, ey2, if_pos q2, bs, R.hm w t2, bs]
  simp only []
  rcases hm_or f t' with ⟨eh, es, -⟩ | ⟨m, j, -, hm, hj, ej, eh, es⟩
  · rw [eh, es, ov_n, if_pos rfl]
    exact ref_s x (-4)
  · obtain ⟨h1, b1, b2, b3, b4⟩ := r_begun x0 (fun l => f.len l)
    obtain ⟨h2, c1, c2, c3⟩ := r_out (b2.S S0) b3 f hj
    have hk' : k ≤ qS (remA (tA S) m j) l' := by
      show k ≤ remS (tA S) m l'
      unfold remS
      by_cases q : l' = m
      · subst q
        rw [if_pos rfl]
        rw [if_pos eh] at hn
        omega
      · rw [if_neg q]
        rw [if_neg (fun e => by rw [eh] at e; cases e; exact q rfl)] at hn
        omega
    obtain ⟨h3, d1, d2, d3⟩ := r_in (c2.S (b2.S S0)) c3 (rem_wf f hj) (f.2.2.1 m j hj) l1 hk' (hm_rem f hj)
    rw [ej] at c1
    have d1' : f_X9_in h2 53 (nI t') (nI l') (nI k) = some h3 := by rw [← ej]; exact d1
    rw [eh, es, ov_s, if_neg (nI_nm (by omega)), b1, bs, c1, bs, e6, d1', bs]
    have kc := kc_mov f z hj l1 hk'
    have fm := mv_wf f hj l1 hk'
    rw [ej] at kc fm d3
    refine ref_m W hO x ((b2.tr c2).tr d2) d3 fm (fun q => ?_) (fun q => ?_)
    · simp only []; rw [if_neg (kc.mp q)]
    · simp only []
      by_cases y : (m = l' ∧ j = k) ∨ (¬ j < qZ (tA S) m ∧ ¬ k < qZ (tA S) l')
      · rw [if_pos y]
      · exact absurd (kc.mpr y) q
theorem r_swap (W : WfS S) (x : InvR h S) (t u : Int32) : RefOk mMv h (f_X9_swap h 53 t u) (oSwap S t u) := by
  have Sx := x.1
  have x0 := x.c0 0
  have S0 := x0.1
  have w := S0.b (b := 59) (Or.inl rfl)
  have R := x0.pl
  have f := W.2.2.1
  unfold f_X9_swap oSwap
  rw [if_pos (k_53 Sx), pi_53 Sx, bs]
  rcases r_thing W x0 t with ⟨e1, e2⟩ | ⟨t', t1, t2, t3, e1, e2⟩
  · rw [e1, e2, bs, if_pos rfl]; exact ref_e x 2 1 rfl
  rcases r_thing W x0 u with ⟨e3, e4⟩ | ⟨u', u1, u2, u3, e3, e4⟩
  · rw [e1, e2, bs, if_neg (by decide), e3, e4, bs, if_pos rfl]; exact ref_e x 2 1 rfl
  rw [e1, e2, bs, if_neg (by decide), e3, e4, bs, if_neg (by decide), gi_53 S0, bs, x0.f1]
  simp only []
  by_cases qo : tO S = false
  · rw [if_pos qo, qo, if_neg (show ¬ bI (!false) = 0 by decide)]; exact ref_e x 0 2 rfl
  have hO := o_ne qo
  rw [if_neg qo, hO, if_pos (show bI (!true) = 0 from rfl), t3, u3]
  by_cases qt : t' = u'
  · rw [if_pos (by rw [qt]), if_pos qt]; exact ref_e x 1 3 rfl
  rw [if_neg (fun e => qt ((nI_eq (by omega) (by omega)).mp e)), if_neg qt, g_53_10 S0, bs, R.hm w t2, bs, bs, R.hm w u2, bs]
  rcases hm_or f t' with ⟨eh, es, -⟩ | ⟨l, k, -, hl, hk, ek, eh, es⟩
  · rw [eh, es, ov_n, if_pos rfl]
    exact ref_s x (-4)
  rcases hm_or f u' with ⟨eh', es', -⟩ | ⟨m, j, -, hm, hj, ej, eh', es'⟩
  · rw [eh, es, eh', es', ov_s, if_neg (nI_nm (by omega)), ov_n, if_pos rfl]
    exact ref_s x (-4)
  · have hne : ¬ (l = m ∧ k = j) := fun y => by
      obtain ⟨rfl, rfl⟩ := y
      exact qt (ek.symm.trans ej)
    have ll := f.len l
    have lm := f.len m
    obtain ⟨h1, b1, b2, b3, b4⟩ := r_begun x0 (fun l => f.len l)
    have S1 := b2.S S0
    have w1 := S1.b (b := 59) (Or.inl rfl)
    have F : ∀ {g : AH} (i : Nat) (v : Int32), Fg g (sI g 61 i v) (fun a _ => a = 61) := fun i v => Fg.si rfl
    have S2 := (F (g := h1) (252 + 40 * l + k) (nI u')).S S1
    have w2 := S2.b (b := 59) (Or.inl rfl)
    have b42 := (F (g := h1) (252 + 40 * l + k) (nI u')).R b4 (by omega)
    have S3 := (F (g := sI h1 61 (252 + 40 * l + k) (nI u')) (252 + 40 * m + j) (nI t')).S S2
    have S4 := (F (g := sI (sI h1 61 (252 + 40 * l + k) (nI u')) 61 (252 + 40 * m + j) (nI t')) (212 + t') (nI m)).S S3
    have rx := rp_exc b3 f hk hj hne
    rw [ek, ej] at rx
    rw [eh, es, eh', es', ov_s, if_neg (nI_nm (by omega)), ov_s, if_neg (nI_nm (by omega)), b1, bs, g_53_12 S1, bs, g_53_10 S1, bs, r_placeOf w1 b4 f t2 eh hk ek, bs, a252k, st_61 S1 (by omega), bs, g_53_12 S2, bs, g_53_10 S2, bs, r_placeOf w2 b42 f u2 eh' hj ej, bs, a252k, st_61 S2 (by omega), bs, g_53_12 S3, bs, a212, st_61 S3 (by omega), bs, g_53_12 S4, bs, a212, st_61 S4 (by omega), bs]
    have kc := kc_exc f hk hj hne
    refine ref_m W hO x ((((b2.tr (F _ _)).tr (F _ _)).tr (F _ _)).tr (F _ _)) rx (exc_wf f hk hj) (fun q => ?_) (fun q => ?_)
    · simp only []; rw [if_pos (kc.mp q)]
    · simp only []; rw [if_neg (fun y => q (kc.mpr y))]
end RMoves
