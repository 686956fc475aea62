/-! the class's moves -/
def seF (A : AP) (i : Nat) (v : Int32) : AP := (fun j => if j = i then v else A.1 j, A.2)
def seL (A : AP) (i : Nat) (v : Int32) : AP := (A.1, fun j => if j = i then v else A.2.1 j, A.2.2)
def seK (A : AP) (i : Nat) (v : Int32) : AP := (A.1, A.2.1, fun j => if j = i then v else A.2.2.1 j, A.2.2.2)
def seZ (A : AP) (i n : Nat) : AP := (A.1, A.2.1, A.2.2.1, A.2.2.2.1, A.2.2.2.2.1, fun j => if j = i then n else A.2.2.2.2.2 j)
def oPlace (S : SX) (t l a : Int32) : Except Nat Int32 × SX := match dcN t (bT (tB S)) with
  | none => (.error 2, S)
  | some t => match dcN l (bL (tB S)) with
    | none => (.error 2, S)
    | some l => if tO S = false then (.error 0, S) else match dcN a (qS (tA S) l + 1) with
      | none => (.error 1, S)
      | some k => if hmA (tA S) t = none then (if k < qZ (tA S) l then (.ok (-3), S) else mvO S (insA (tA S) l k t)) else (.ok (-4), S)
def oTake (S : SX) (t : Int32) : Except Nat Int32 × SX := match dcN t (bT (tB S)) with
  | none => (.error 2, S)
  | some t => if tO S = false then (.error 0, S) else match hmA (tA S) t, spA (tA S) t with
    | some l, some k => if k < qZ (tA S) l then (.ok (-3), S) else mvO S (remA (tA S) l k)
    | _, _ => (.ok (-4), S)
def oMove (S : SX) (t l a : Int32) : Except Nat Int32 × SX := match dcN t (bT (tB S)) with
  | none => (.error 2, S)
  | some t => match dcN l (bL (tB S)) with
    | none => (.error 2, S)
    | some l => if tO S = false then (.error 0, S) else match dcN a (qS (tA S) l + (if hmA (tA S) t = some l then 0 else 1)) with
      | none => (.error 1, S)
      | some k => match hmA (tA S) t, spA (tA S) t with
        | some m, some j => if (m = l ∧ j = k) ∨ (¬ j < qZ (tA S) m ∧ ¬ k < qZ (tA S) l) then mvO S (insA (remA (tA S) m j) l k t) else (.ok (-3), S)
        | _, _ => (.ok (-4), S)
def oSwap (S : SX) (t u : Int32) : Except Nat Int32 × SX := match dcN t (bT (tB S)) with
  | none => (.error 2, S)
  | some t => match dcN u (bT (tB S)) with
    | none => (.error 2, S)
    | some u => if tO S = false then (.error 0, S) else if t = u then (.error 1, S) else match hmA (tA S) t, spA (tA S) t, hmA (tA S) u, spA (tA S) u with
      | some l, some k, some m, some j => if k < qZ (tA S) l ∨ j < qZ (tA S) m then (.ok (-3), S) else mvO S (excA (tA S) l k m j)
      | _, _, _, _ => (.ok (-4), S)
def oTurn (S : SX) (l a b : Int32) : Except Nat Int32 × SX := match dcN l (bL (tB S)) with
  | none => (.error 2, S)
  | some l => if tO S = false then (.error 0, S) else match dcN b (qS (tA S) l) with
    | none => (.error 1, S)
    | some b => match dcN a (b + 1) with
      | none => (.error 1, S)
      | some a => if a < b ∧ a < qZ (tA S) l then (.ok (-3), S) else mvO S (revA (tA S) l a b)
def oTails (S : SX) (l a m b : Int32) : Except Nat Int32 × SX := match dcN l (bL (tB S)) with
  | none => (.error 2, S)
  | some l => match dcN m (bL (tB S)) with
    | none => (.error 2, S)
    | some m => if tO S = false then (.error 0, S) else if l = m then (.error 1, S) else match dcN a (qS (tA S) l + 1) with
      | none => (.error 1, S)
      | some a => match dcN b (qS (tA S) m + 1) with
        | none => (.error 1, S)
        | some b => if a < qZ (tA S) l ∨ b < qZ (tA S) m then (.ok (-3), S) else mvO S (crA (tA S) l a m b)
def oFact (S : SX) (t i v : Int32) : Except Nat Int32 × SX := match dcN t (bT (tB S)) with
  | none => (.error 2, S)
  | some t => if tO S = false then (.error 0, S) else match dcN i 4 with
    | none => (.error 1, S)
    | some i => if fzA (tA S) t = true ∧ qF (tA S) (4 * t + i) ≠ v then (.ok (-3), S) else mvO S (seF (tA S) (4 * t + i) v)
def oListFact (S : SX) (l i v : Int32) : Except Nat Int32 × SX := match dcN l (bL (tB S)) with
  | none => (.error 2, S)
  | some l => if tO S = false then (.error 0, S) else match dcN i 2 with
    | none => (.error 1, S)
    | some i => mvO S (seL (tA S) (2 * l + i) v)
def oLink (S : SX) (t u : Int32) : Except Nat Int32 × SX := match dcN t (bT (tB S)) with
  | none => (.error 2, S)
  | some k => if u ≠ -1 ∧ dcN u (bT (tB S)) = none then (.error 2, S) else if tO S = false then (.error 0, S) else if t = u then (.error 1, S) else if fzA (tA S) k = true ∧ qK (tA S) k ≠ u then (.ok (-3), S) else mvO S (seK (tA S) k u)
def oFreeze (S : SX) (l n : Int32) : Except Nat Int32 × SX := match dcN l (bL (tB S)) with
  | none => (.error 2, S)
  | some l => if tO S = false then (.error 0, S) else match dcN n (qS (tA S) l + 1) with
    | none => (.error 1, S)
    | some n => mvO S (seZ (tA S) l n)
section Moves
variable {h : AH} {S : SX}
theorem fI_fr {h1 : AH} (f : FrI h h1 (fun a => 7 + 4 ≤ a ∧ a ≤ 7 + 7)) : Fr h h1 (fun a => 7 < a ∧ a ≤ 15) := f.g.mono (fun a q => by omega)
theorem o_ne {S : SX} (h : ¬ tO S = false) : tO S = true := by
  cases e : tO S with
  | true => rfl
  | false => exact absurd e h
theorem q_place (W : WfS S) (x : InvC h S) (t l a : Int32) : CallOk h (f_X8_place h 0 t l a) (oPlace S t l a) := by
  have Sx := x.1
  have w := S_7 Sx
  have R := x.2.2.2.1
  have f := W.2.2.1
  have z := W.2.2.2.1
  unfold f_X8_place oPlace
  rw [if_pos (k_0 Sx)]
  rcases n_thing W x t with ⟨e1, e2⟩ | ⟨t', t1, t2, t3, e1, e2⟩
  · rw [e1, e2, bs]; exact call_e W x 2
  rcases n_list W x l with ⟨e3, e4⟩ | ⟨l', l1, l2, l3, e3, e4⟩
  · rw [e1, e2, bs, e3]; simp only []; rw [e4, bs]; exact call_e W x 2
  rw [e1, e2, bs, e3]
  simp only []
  rw [e4, bs]
  simp only []
  rw [n_closed x, bs]
  by_cases qo : tO S = false
  · rw [if_pos qo, if_neg (by rw [qo]; decide)]; exact call_e W x 0
  have hO := o_ne qo
  have hlen := f.len l'
  rw [if_neg qo, if_pos hO, l3]
  simp only []
  rw [g_0_1 Sx, bs, w.p 6 (by decide), bs, w.ld 6 (by decide) (show l' < eP 6 from l2), bs, show aI h (7 + 1 + 6) l' = _ from R.2.2.2.2.2.2.1 l' l2]
  rcases dc_or a (n := qS (tA S) l' + 1) (by omega) with ⟨e5, q⟩ | ⟨k, hk, e6, e5, q1, q2, q3⟩
  · have : (if a < 0 then some (0 : Int32) else if nI (qS (tA S) l') < a then some 0 else some 1) = some 0 := by
      rcases q with q | ⟨q1, q2, -⟩
      · rw [if_pos q]
      · rw [if_neg q1]
        obtain ⟨j, hj, ej⟩ := nI_of q1
        subst ej
        have := (nI_leI (by omega) hj).mp q2
        rw [if_pos (nI_lt (by omega) hj)]
    rw [this, e5, bs, need_0, bs]
    exact call_e W x 1
  · have : (if a < 0 then some (0 : Int32) else if nI (qS (tA S) l') < a then some 0 else some 1) = some 1 := by
      rw [if_neg q1, e6, if_neg (nI_nlt (by omega) (by omega))]
    rw [this, e5, bs, need_1, bs, t3, e6]
    simp only []
    rw [g_0_1 Sx, bs, w.p 3 (by decide), bs, w.ld 3 (by decide) (show t' < eP 3 from t2), bs, show aI h (7 + 1 + 3) t' = _ from R.2.2.2.1 t' t2]
    have hz := f.2.2.2.2.2.1 l'
    cases eh : hmA (tA S) t' with
    | some m =>
      rw [ov_s, if_neg (nI_nm (by have := hm6 eh; omega)), if_neg (by simp)]
      exact call_s W x (-4)
    | none =>
      rw [ov_n, if_pos rfl, if_pos rfl, bs, w.p 7 (by decide), bs, w.ld 7 (by decide) (show l' < eP 7 from l2), bs, show aI h (7 + 1 + 7) l' = _ from R.2.2.2.2.2.2.2 l' l2]
      by_cases qz : k < qZ (tA S) l'
      · rw [if_pos qz, if_neg (nI_ge qz (by omega))]
        exact call_s W x (-3)
      · rw [if_neg qz, if_pos (nI_le (by omega) (by omega)), bs]
        obtain ⟨h1, m1, m2, m3, m4⟩ := q_insert w R f t1 l1 (show k ≤ qS (tA S) l' by omega) eh
        rw [m1, bs]
        exact call_m W hO x (fI_fr m2) m3 m4 (zf_ins z)
/-- reading the plan -/
theorem InvC.sz (x : InvC h S) {l : Nat} (hl : l < 6) : ldI h (7 + 1 + 6) (nI l) = some (nI (qS (tA S) l)) := by
  rw [(S_7 x.1).ld 6 (by decide) (show l < eP 6 from hl), show aI h (7 + 1 + 6) l = _ from x.2.2.2.1.2.2.2.2.2.2.1 l hl]
theorem InvC.fz (x : InvC h S) {l : Nat} (hl : l < 6) : ldI h (7 + 1 + 7) (nI l) = some (nI (qZ (tA S) l)) := by
  rw [(S_7 x.1).ld 7 (by decide) (show l < eP 7 from hl), show aI h (7 + 1 + 7) l = _ from x.2.2.2.1.2.2.2.2.2.2.2 l hl]
theorem InvC.hm (x : InvC h S) {t : Nat} (ht : t < 40) : ldI h (7 + 1 + 3) (nI t) = some (ov (hmA (tA S) t)) := by
  rw [(S_7 x.1).ld 3 (by decide) (show t < eP 3 from ht), show aI h (7 + 1 + 3) t = _ from x.2.2.2.1.2.2.2.1 t ht]
theorem InvC.sp (x : InvC h S) {t : Nat} (ht : t < 40) : ldI h (7 + 1 + 4) (nI t) = some (ov (spA (tA S) t)) := by
  rw [(S_7 x.1).ld 4 (by decide) (show t < eP 4 from ht), show aI h (7 + 1 + 4) t = _ from x.2.2.2.1.2.2.2.2.1 t ht]
theorem InvC.lk (x : InvC h S) {t : Nat} (ht : t < 40) : ldI h (7 + 1 + 2) (nI t) = some (qK (tA S) t) := by
  rw [(S_7 x.1).ld 2 (by decide) (show t < eP 2 from ht), show aI h (7 + 1 + 2) t = _ from x.2.2.2.1.2.2.1 t ht]
theorem InvC.fc (x : InvC h S) {i : Nat} (hi : i < 160) : ldI h (7 + 1 + 0) (nI i) = some (qF (tA S) i) := by
  rw [(S_7 x.1).ld 0 (by decide) (show i < eP 0 from hi), show aI h (7 + 1 + 0) i = _ from x.2.2.2.1.1 i hi]
theorem q_take (W : WfS S) (x : InvC h S) (t : Int32) : CallOk h (f_X8_take h 0 t) (oTake S t) := by
  have Sx := x.1
  have w := S_7 Sx
  have R := x.2.2.2.1
  have f := W.2.2.1
  have z := W.2.2.2.1
  unfold f_X8_take oTake
  rw [if_pos (k_0 Sx)]
  rcases n_thing W x t with ⟨e1, e2⟩ | ⟨t', t1, t2, t3, e1, e2⟩
  · rw [e1, e2, bs]; exact call_e W x 2
  rw [e1, e2, bs]
  simp only []
  rw [n_closed x, bs]
  by_cases qo : tO S = false
  · rw [if_pos qo, if_neg (by rw [qo]; decide)]; exact call_e W x 0
  have hO := o_ne qo
  rw [if_neg qo, if_pos hO, t3]
  simp only []
  rw [g_0_1 Sx, bs, w.p 3 (by decide), bs, x.hm t2, bs]
  rcases hm_or f t' with ⟨h1, h2, -⟩ | ⟨l, k, -, hl, hk, ht, h1, h2⟩
  · rw [h1, h2, ov_n, if_pos rfl]
    exact call_s W x (-4)
  · rw [h1, h2, ov_s, if_neg (nI_nm (by omega)), bs, q_isFrozen w R f t2, bs, ← ht, fz_at f hk]
    simp only []
    by_cases qz : k < qZ (tA S) l
    · rw [if_pos qz, if_neg (by simp [qz])]
      exact call_s W x (-3)
    · rw [if_neg qz, if_pos (by simp [qz]), bs]
      obtain ⟨h1, m1, m2, m3, m4⟩ := q_remove w R f hk
      rw [m1, bs]
      exact call_m W hO x (fI_fr m2) m3 m4 (zf_rem z (by omega) hk)
theorem q_swap (W : WfS S) (x : InvC h S) (t u : Int32) : CallOk h (f_X8_swap h 0 t u) (oSwap S t u) := by
  have Sx := x.1
  have w := S_7 Sx
  have R := x.2.2.2.1
  have f := W.2.2.1
  have z := W.2.2.2.1
  unfold f_X8_swap oSwap
  rw [if_pos (k_0 Sx)]
  rcases n_thing W x t with ⟨e1, e2⟩ | ⟨t', t1, t2, t3, e1, e2⟩
  · rw [e1, e2, bs]; exact call_e W x 2
  rw [e1, e2, bs]
  simp only []
  rcases n_thing W x u with ⟨e3, e4⟩ | ⟨u', u1, u2, u3, e3, e4⟩
  · rw [e3, e4, bs]; exact call_e W x 2
  rw [e3, e4, bs]
  simp only []
  rw [n_closed x, bs]
  by_cases qo : tO S = false
  · rw [if_pos qo, if_neg (by rw [qo]; decide)]; exact call_e W x 0
  have hO := o_ne qo
  rw [if_neg qo, if_pos hO, t3, u3]
  simp only []
  by_cases qe : t' = u'
  · rw [if_pos (show nI t' = nI u' by rw [qe]), if_pos qe, bs, need_0, bs]
    exact call_e W x 1
  rw [if_neg (show ¬ nI t' = nI u' from fun e => qe ((nI_eq (by omega) (by omega)).mp e)), if_neg qe, bs, need_1, bs]
  simp only []
  rw [g_0_1 Sx, bs, w.p 3 (by decide), bs, x.hm t2, bs]
  rcases hm_or f t' with ⟨h1, h2, -⟩ | ⟨l, k, -, hl, hk, ht, h1, h2⟩
  · rw [h1, h2, ov_n, if_pos rfl]
    exact call_s W x (-4)
  rw [h1, h2, ov_s, if_neg (nI_nm (by omega)), bs, w.p 3 (by decide), bs, x.hm u2, bs]
  rcases hm_or f u' with ⟨h3, h4, -⟩ | ⟨m, j, -, hm, hj, hu, h3, h4⟩
  · rw [h3, h4, ov_n, if_pos rfl]
    exact call_s W x (-4)
  rw [h3, h4, ov_s, if_neg (nI_nm (by omega)), bs, q_isFrozen w R f t2, bs, bs, q_isFrozen w R f u2, bs, ← ht, ← hu, fz_at f hk, fz_at f hj]
  simp only []
  have hne : ¬ (l = m ∧ k = j) := fun q => qe (by rw [← ht, ← hu, q.1, q.2])
  by_cases qz : k < qZ (tA S) l
  · rw [if_pos (Or.inl qz), if_neg (by simp [qz])]
    exact call_s W x (-3)
  · rw [if_pos (show (if decide (k < qZ (tA S) l) = true then (1 : Int32) else 0) = 0 by simp [qz])]
    by_cases qy : j < qZ (tA S) m
    · rw [if_pos (Or.inr qy), if_neg (by simp [qy])]
      exact call_s W x (-3)
    · rw [if_neg (show ¬ (k < qZ (tA S) l ∨ j < qZ (tA S) m) from fun q => q.elim qz qy), if_pos (show (if decide (j < qZ (tA S) m) = true then (1 : Int32) else 0) = 0 by simp [qy]), bs]
      obtain ⟨h1, m1, m2, m3, m4⟩ := q_exchange w R f hk hj hne
      rw [m1, bs]
      exact call_m W hO x (fI_fr m2) m3 m4 (zf_exc z)
end Moves
