/-! the class's moves: move, turn, tails -/
section Moves2
variable {h : AH} {S : SX}
theorem q_move (W : WfS S) (x : InvC h S) (t l a : Int32) : CallOk h (f_X8_move h 0 t l a) (oMove S t l a) := by
  have Sx := x.1
  have w := S_7 Sx
  have R := x.2.2.2.1
  have f := W.2.2.1
  have z := W.2.2.2.1
  unfold f_X8_move oMove
  rw [if_pos (k_0 Sx)]
  rcases n_thing W x t with ⟨e1, e2⟩ | ⟨t', t1, t2, t3, e1, e2⟩
  · rw [e1, e2, bs]; exact call_e W x 2
  rcases n_list W x l with ⟨e3, e4⟩ | ⟨l', l1, l2, l3, e3, e4⟩
  · rw [e1, e2, bs, e3]; simp only []; rw [e4, bs]; exact call_e W x 2
  rw [e1, e2, bs, e3]
  simp only []
  rw [e4, bs]
  simp only []
  rw [n_closed x, bs]
  by_cases qo : tO S = false
  · rw [if_pos qo, if_neg (by rw [qo]; decide)]; exact call_e W x 0
  have hO := o_ne qo
  have hlen := f.len l'
  rw [if_neg qo, if_pos hO, t3, l3]
  simp only []
  rw [g_0_1 Sx, bs, w.p 3 (by decide), bs, x.hm t2, bs]
  have hsame : (if ov (hmA (tA S) t') = nI l' then some (1 : Int32) else some 0) = some (bI (decide (hmA (tA S) t' = some l'))) := by
    have : ov (hmA (tA S) t') = nI l' ↔ hmA (tA S) t' = some l' := ov_inj (b := some l') (fun y e => by have := hm6 e; omega) (fun y e => by cases e; omega)
    by_cases q : hmA (tA S) t' = some l'
    · rw [if_pos (this.mpr q)]; simp [q, bI]
    · rw [if_neg (fun e => q (this.mp e))]; simp [q, bI]
  rw [hsame, bs]
  have hneed : (if a < 0 then some (0 : Int32) else Option.bind (some 7) fun x12 => Option.bind (gP h 4 x12 6) fun x13 => Option.bind (ldI h x13 (nI l')) fun x14 => Option.bind (if bI (decide (hmA (tA S) t' = some l')) = 0 then some (0 : Int32) else some 1) fun x15 => if (x14 - x15) < a then some (0 : Int32) else some 1) = some (if (dcN a (qS (tA S) l' + (if hmA (tA S) t' = some l' then 0 else 1))).isSome = true then 1 else 0) := by
    rw [bs, w.p 6 (by decide), bs, x.sz l2, bs]
    by_cases qs : hmA (tA S) t' = some l'
    · have hpos : 0 < qS (tA S) l' := by
        rcases hm_or f t' with ⟨h1, -, -⟩ | ⟨m, k, -, -, hk, -, h1, -⟩
        · rw [h1] at qs; cases qs
        · rw [h1] at qs; cases qs; omega
      rw [if_pos qs, if_neg (show ¬ bI (decide (hmA (tA S) t' = some l')) = 0 by simp [qs, bI]), bs, show (1 : Int32) = nI 1 from rfl, pk_sub (by omega), Nat.add_zero]
      rcases dc_or a (n := qS (tA S) l') (by omega) with ⟨e5, q⟩ | ⟨k, hk, e6, e5, q1, q2, q3⟩
      · rw [e5]
        rcases q with q | ⟨q1, q2, -⟩
        · rw [if_pos q]; rfl
        · rw [if_neg q1]
          obtain ⟨j, hj, ej⟩ := nI_of q1
          subst ej
          have := (nI_leI (by omega) hj).mp q2
          rw [if_pos (nI_lt (by omega) hj)]
          rfl
      · rw [e5, if_neg q1, e6, if_neg (nI_nlt (by omega) (by omega))]
        rfl
    · rw [if_neg qs, if_pos (show bI (decide (hmA (tA S) t' = some l')) = 0 by simp [qs, bI]), bs, show nI (qS (tA S) l') - 0 = nI (qS (tA S) l') from pk_sub (b := 0) (by omega)]
      rcases dc_or a (n := qS (tA S) l' + 1) (by omega) with ⟨e5, q⟩ | ⟨k, hk, e6, e5, q1, q2, q3⟩
      · rw [e5]
        rcases q with q | ⟨q1, q2, -⟩
        · rw [if_pos q]; rfl
        · rw [if_neg q1]
          obtain ⟨j, hj, ej⟩ := nI_of q1
          subst ej
          have := (nI_leI (by omega) hj).mp q2
          rw [if_pos (nI_lt (by omega) hj)]
          rfl
      · rw [e5, if_neg q1, e6, if_neg (nI_nlt (by omega) (by omega))]
        rfl
  rw [hneed, bs]
  have hb : qS (tA S) l' + (if hmA (tA S) t' = some l' then 0 else 1) < 2 ^ 31 := by split <;> omega
  rcases dc_or a hb with ⟨e5, -⟩ | ⟨k, hk, e6, e5, -, -, -⟩
  · rw [e5, if_neg (by simp), need_0, bs]
    exact call_e W x 1
  rw [e5, if_pos (by simp), need_1, bs]
  simp only []
  rw [g_0_1 Sx, bs, w.p 3 (by decide), bs, x.hm t2, bs]
  rcases hm_or f t' with ⟨h1, h2, -⟩ | ⟨m, j, -, hm, hj, ht, h1, h2⟩
  · rw [h1, h2, ov_n, if_pos rfl]
    exact call_s W x (-4)
  rw [h1, h2, ov_s, if_neg (nI_nm (by omega)), e6]
  rw [h1] at hk
  have hlenm := f.len m
  have hk40 : k ≤ 40 := by split at hk <;> omega
  have hstay : (if bI (decide (some m = some l')) = 0 then some (0 : Int32) else Option.bind (some 7) fun x22 => Option.bind (gP h 4 x22 4) fun x23 => Option.bind (ldI h x23 (nI t')) fun x24 => if x24 = nI k then some (1 : Int32) else some 0) = some (bI (decide (m = l' ∧ j = k))) := by
    rw [bs, w.p 4 (by decide), bs, x.sp t2, bs, h2, ov_s]
    by_cases q : m = l'
    · subst q
      rw [if_neg (by simp [bI])]
      by_cases q2 : j = k
      · rw [if_pos (by rw [q2])]; simp [q2, bI]
      · rw [if_neg (fun e => q2 ((nI_eq (by omega) (by omega)).mp e))]; simp [q2, bI]
    · rw [if_pos (by simp [q, bI])]; simp [q, bI]
  rw [hstay, bs]
  have hins : ∀ (h1 : AH), RepC h1 7 (remA (tA S) m j) → WPl h1 7 → ∃ h', f_X4_insert h1 7 (nI t') (nI l') (nI k) = some h' ∧ FrI h1 h' (fun a => 7 + 4 ≤ a ∧ a ≤ 7 + 7) ∧ RepC h' 7 (insA (remA (tA S) m j) l' k t') ∧ WfA (insA (remA (tA S) m j) l' k t') (bT (tB S)) (bL (tB S)) := fun h1 r1 w1 => q_insert w1 r1 (rem_wf f hj) t1 l1 (by
    show k ≤ remS (tA S) m l'
    unfold remS
    by_cases q : l' = m
    · rw [if_pos q]
      rw [if_pos (by rw [q])] at hk
      subst q
      omega
    · rw [if_neg q]
      rw [if_neg (fun e => q (Option.some.inj e).symm)] at hk
      omega) (by rw [← ht]; exact hm_rem f hj)
  obtain ⟨h1, m1, m2, m3, m4⟩ := q_remove w R f hj
  rw [ht] at m1
  have S1 := (fI_fr m2).S Sx
  obtain ⟨h3, n1, n2, n3, n4⟩ := hins h1 m3 (S_7 S1)
  have F3 : Fr h h3 (fun a => 7 < a ∧ a ≤ 15) := (fI_fr m2).tr (fI_fr n2)
  have fin : ∀ (hz : (l' = m ∧ k = j) ∨ qZ (tA S) m ≤ j), CallOk h (Option.bind (some 7) fun x25 => Option.bind (f_X4_remove h x25 (nI t')) fun h27 => Option.bind (gP h27 8 0 1) fun x28 => Option.bind (f_X4_insert h27 x28 (nI t') (nI l') (nI k)) fun h30 => Option.bind (f_X8_settle h30 0) fun w => some (Except.ok w.1, w.2)) (mvO S (insA (remA (tA S) m j) l' k t')) := by
    intro hz
    rw [bs, m1, bs, g_0_1 S1, bs, n1, bs]
    exact call_m W hO x F3 n3 n4 (zf_mv z hj hz)
  by_cases qst : m = l' ∧ j = k
  · rw [if_neg (by simp [qst, bI])]
    simp only []
    rw [if_pos (Or.inl qst)]
    exact fin (Or.inl ⟨qst.1.symm, qst.2.symm⟩)
  · rw [if_pos (show bI (decide (m = l' ∧ j = k)) = 0 by simp [qst, bI]), bs, q_isFrozen w R f t2, bs, bs, w.p 7 (by decide), bs, x.fz l2, bs, ← ht, fz_at f hj, ht]
    simp only []
    have hz := f.2.2.2.2.2.1 l'
    by_cases qz : j < qZ (tA S) m
    · rw [if_neg (show ¬ (if decide (j < qZ (tA S) m) = true then (1 : Int32) else 0) = 0 by simp [qz]), if_neg (fun q => q.elim qst (fun q2 => q2.1 qz))]
      exact call_s W x (-3)
    · rw [if_pos (show (if decide (j < qZ (tA S) m) = true then (1 : Int32) else 0) = 0 by simp [qz])]
      by_cases qy : k < qZ (tA S) l'
      · rw [if_neg (nI_ge qy (by omega)), if_neg (fun q => q.elim qst (fun q2 => q2.2 qy))]
        exact call_s W x (-3)
      · rw [if_pos (nI_le (by omega) (by omega)), if_pos (Or.inr ⟨qz, qy⟩)]
        exact fin (Or.inr (by omega))
theorem q_turn (W : WfS S) (x : InvC h S) (l a b : Int32) : CallOk h (f_X8_turn h 0 l a b) (oTurn S l a b) := by
  have Sx := x.1
  have w := S_7 Sx
  have R := x.2.2.2.1
  have f := W.2.2.1
  have z := W.2.2.2.1
  unfold f_X8_turn oTurn
  rw [if_pos (k_0 Sx)]
  rcases n_list W x l with ⟨e1, e2⟩ | ⟨l', l1, l2, l3, e1, e2⟩
  · rw [e1, e2, bs]; exact call_e W x 2
  rw [e1, e2, bs]
  simp only []
  rw [n_closed x, bs]
  by_cases qo : tO S = false
  · rw [if_pos qo, if_neg (by rw [qo]; decide)]; exact call_e W x 0
  have hO := o_ne qo
  have hlen := f.len l'
  rw [if_neg qo, if_pos hO, l3]
  simp only []
  rw [g_0_1 Sx, bs, w.p 6 (by decide), bs, x.sz l2, bs]
  have bad : (if a < 0 then some (0 : Int32) else if b < a then some 0 else if nI (qS (tA S) l') ≤ b then some 0 else some 1) = some 0 ∨ ∃ a' b', b' < qS (tA S) l' ∧ a' ≤ b' ∧ a = nI a' ∧ b = nI b' ∧ dcN b (qS (tA S) l') = some b' ∧ dcN a (b' + 1) = some a' ∧ (if a < 0 then some (0 : Int32) else if b < a then some 0 else if nI (qS (tA S) l') ≤ b then some 0 else some 1) = some 1 := by
    by_cases q1 : a < 0
    · exact Or.inl (if_pos q1)
    · rw [if_neg q1]
      by_cases q2 : b < a
      · exact Or.inl (if_pos q2)
      · rw [if_neg q2]
        by_cases q3 : nI (qS (tA S) l') ≤ b
        · exact Or.inl (if_pos q3)
        · obtain ⟨a', ha, ea⟩ := nI_of q1
          have q4 : ¬ b < 0 := fun q => by
            have h1 := Int32.lt_iff_toInt_lt.mp q
            have h2 : ¬ b.toInt < a.toInt := fun y => q2 (Int32.lt_iff_toInt_lt.mpr y)
            have h3 : ¬ a.toInt < (0 : Int32).toInt := fun y => q1 (Int32.lt_iff_toInt_lt.mpr y)
            omega
          obtain ⟨b', hb, eb⟩ := nI_of q4
          subst ea eb
          have c1 : b' < qS (tA S) l' := by
            rcases Nat.lt_or_ge b' (qS (tA S) l') with c | c
            · exact c
            · exact absurd (nI_le c hb) q3
          have c2 : a' ≤ b' := by
            rcases Nat.lt_or_ge b' a' with c | c
            · exact absurd (nI_lt c ha) q2
            · exact c
          refine Or.inr ⟨a', b', c1, c2, rfl, rfl, ?_, ?_, if_neg q3⟩
          · unfold dcN
            rw [if_neg q4, nI_clamp hb, if_pos c1]
          · unfold dcN
            rw [if_neg q1, nI_clamp ha, if_pos (by omega)]
  rcases bad with q | ⟨a', b', c1, c2, ea, eb, d1, d2, q⟩
  · have hn : (match dcN b (qS (tA S) l') with
        | none => ((.error 1, S) : Except Nat Int32 × SX)
        | some b => match dcN a (b + 1) with
          | none => (.error 1, S)
          | some a => if a < b ∧ a < qZ (tA S) l' then (.ok (-3), S) else mvO S (revA (tA S) l' a b)) = (.error 1, S) := by
      rcases dc_or b (n := qS (tA S) l') (by omega) with ⟨e5, -⟩ | ⟨k, hk, e6, e5, -, -, q3⟩
      · rw [e5]
      · rw [e5]
        simp only []
        rcases dc_or a (n := k + 1) (by omega) with ⟨e7, -⟩ | ⟨j, hj, e8, e7, q1, -, -⟩
        · rw [e7]
        · exfalso
          rw [if_neg q1, e6, e8, if_neg (nI_nlt (by omega) (by omega)), if_neg (nI_ge hk (by omega))] at q
          cases q
    rw [q, bs, need_0, bs]
    show CallOk h _ (match dcN b (qS (tA S) l') with
        | none => ((.error 1, S) : Except Nat Int32 × SX)
        | some b => match dcN a (b + 1) with
          | none => (.error 1, S)
          | some a => if a < b ∧ a < qZ (tA S) l' then (.ok (-3), S) else mvO S (revA (tA S) l' a b))
    rw [hn]
    exact call_e W x 1
  rw [q, bs, need_1, bs, d1]
  simp only []
  rw [d2, ea, eb]
  simp only []
  obtain ⟨h1, m1, m2, m3, m4⟩ := q_reverse w R f c1 c2
  have fin : CallOk h (Option.bind (some 7) fun x11 => Option.bind (f_X4_reverse h x11 (nI l') (nI a') (nI b')) fun h13 => Option.bind (f_X8_settle h13 0) fun w => some (Except.ok w.1, w.2)) (mvO S (revA (tA S) l' a' b')) := by
    rw [bs, m1, bs]
    exact call_m W hO x (fI_fr m2) m3 m4 (zf_rev z)
  rw [g_0_1 Sx]
  by_cases qe : a' < b'
  · rw [if_neg (nI_ge qe (by omega)), bs, w.p 7 (by decide), bs, x.fz l2, bs]
    have hz := f.2.2.2.2.2.1 l'
    by_cases qz : a' < qZ (tA S) l'
    · rw [if_neg (nI_ge qz (by omega)), if_pos ⟨qe, qz⟩]
      exact call_s W x (-3)
    · rw [if_pos (nI_le (by omega) (by omega)), if_neg (fun q => qz q.2)]
      exact fin
  · rw [if_pos (nI_le (by omega) (by omega)), if_neg (fun q => qe q.1)]
    exact fin
theorem q_tails (W : WfS S) (x : InvC h S) (l a m b : Int32) : CallOk h (f_X8_tails h 0 l a m b) (oTails S l a m b) := by
  have Sx := x.1
  have w := S_7 Sx
  have R := x.2.2.2.1
  have f := W.2.2.1
  have z := W.2.2.2.1
  unfold f_X8_tails oTails
  rw [if_pos (k_0 Sx)]
  rcases n_list W x l with ⟨e1, e2⟩ | ⟨l', l1, l2, l3, e1, e2⟩
  · rw [e1, e2, bs]; exact call_e W x 2
  rw [e1, e2, bs]
  simp only []
  rcases n_list W x m with ⟨e3, e4⟩ | ⟨m', m1, m2, m3, e3, e4⟩
  · rw [e3, e4, bs]; exact call_e W x 2
  rw [e3, e4, bs]
  simp only []
  rw [n_closed x, bs]
  by_cases qo : tO S = false
  · rw [if_pos qo, if_neg (by rw [qo]; decide)]; exact call_e W x 0
  have hO := o_ne qo
  have hlen := f.len l'
  have hlen2 := f.len m'
  rw [if_neg qo, if_pos hO, l3, m3]
  simp only []
  rw [g_0_1 Sx, bs, w.p 6 (by decide), bs, x.sz l2, bs, bs, w.p 6 (by decide), bs, x.sz m2, bs]
  by_cases qe : l' = m'
  · rw [if_pos (show nI l' = nI m' by rw [qe]), if_pos qe, bs, need_0, bs]
    exact call_e W x 1
  rw [if_neg (show ¬ nI l' = nI m' from fun e => qe ((nI_eq (by omega) (by omega)).mp e)), if_neg qe]
  rcases dc_or a (n := qS (tA S) l' + 1) (by omega) with ⟨e5, q⟩ | ⟨a', ha, e6, e5, q1, -, -⟩
  · have : (if a < 0 then some (0 : Int32) else if nI (qS (tA S) l') < a then some 0 else if b < 0 then some 0 else if nI (qS (tA S) m') < b then some 0 else some 1) = some 0 := by
      rcases q with q | ⟨q1, q2, -⟩
      · rw [if_pos q]
      · rw [if_neg q1]
        obtain ⟨j, hj, ej⟩ := nI_of q1
        subst ej
        have := (nI_leI (by omega) hj).mp q2
        rw [if_pos (nI_lt (by omega) hj)]
    rw [this, e5, bs, need_0, bs]
    exact call_e W x 1
  rw [e5, if_neg q1, e6, if_neg (nI_nlt (by omega) (by omega))]
  simp only []
  rcases dc_or b (n := qS (tA S) m' + 1) (by omega) with ⟨e7, q⟩ | ⟨b', hb, e8, e7, q3, -, -⟩
  · have : (if b < 0 then some (0 : Int32) else if nI (qS (tA S) m') < b then some 0 else some 1) = some 0 := by
      rcases q with q | ⟨q1, q2, -⟩
      · rw [if_pos q]
      · rw [if_neg q1]
        obtain ⟨j, hj, ej⟩ := nI_of q1
        subst ej
        have := (nI_leI (by omega) hj).mp q2
        rw [if_pos (nI_lt (by omega) hj)]
    rw [this, e7, bs, need_0, bs]
    exact call_e W x 1
  rw [e7, if_neg q3, e8, if_neg (nI_nlt (by omega) (by omega)), bs, need_1, bs]
  simp only []
  have hz := f.2.2.2.2.2.1 l'
  have hz2 := f.2.2.2.2.2.1 m'
  rw [g_0_1 Sx, bs, w.p 7 (by decide), bs, x.fz l2, bs]
  by_cases qz : a' < qZ (tA S) l'
  · rw [if_pos (nI_lt qz (by omega)), if_pos (Or.inl qz)]
    exact call_s W x (-3)
  rw [if_neg (nI_nlt (by omega) (by omega)), bs, w.p 7 (by decide), bs, x.fz m2, bs]
  by_cases qy : b' < qZ (tA S) m'
  · rw [if_neg (nI_ge qy (by omega)), if_pos (Or.inr qy)]
    exact call_s W x (-3)
  rw [if_pos (nI_le (by omega) (by omega)), if_neg (fun q => q.elim qz qy), bs]
  obtain ⟨h1, n1, n2, n3, n4⟩ := q_crossTails w R f l1 m1 qe (show a' ≤ qS (tA S) l' by omega) (show b' ≤ qS (tA S) m' by omega)
  rw [n1, bs]
  exact call_m W hO x (fI_fr n2) n3 n4 (zf_cr z (by omega) (by omega))
end Moves2
