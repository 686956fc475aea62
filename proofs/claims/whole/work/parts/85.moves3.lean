/-! the class's moves: fact, listFact, link, freeze; groups -/
section Moves3
variable {h : AH} {S : SX}
theorem rep_F {A : AP} (R : RepC h 7 A) {i : Nat} (v : Int32) : RepC (sI h 8 i v) 7 (seF A i v) := by
  obtain ⟨a1, a2⟩ := R
  refine ⟨fun j hj => ?_, ?_⟩
  · show aI (sI h 8 i v) 8 j = if j = i then v else A.1 j
    rw [sI_I]
    by_cases q : j = i
    · rw [if_pos ⟨rfl, q⟩, if_pos q]
    · rw [if_neg (fun y => q y.2), if_neg q]; exact a1 j hj
  · have e : ∀ j, 1 ≤ j → j < 8 → aI (sI h 8 i v) (7 + 1 + j) = aI h (7 + 1 + j) := fun j _ _ => by funext k; rw [sI_I, if_neg (by omega)]
    rw [show aI (sI h 8 i v) (7 + 2) = _ from e 1 (by decide) (by decide), show aI (sI h 8 i v) (7 + 3) = _ from e 2 (by decide) (by decide), show aI (sI h 8 i v) (7 + 4) = _ from e 3 (by decide) (by decide), show aI (sI h 8 i v) (7 + 5) = _ from e 4 (by decide) (by decide), show aI (sI h 8 i v) (7 + 6) = _ from e 5 (by decide) (by decide), show aI (sI h 8 i v) (7 + 7) = _ from e 6 (by decide) (by decide), show aI (sI h 8 i v) (7 + 8) = _ from e 7 (by decide) (by decide)]
    exact a2
theorem rep_L {A : AP} (R : RepC h 7 A) {i : Nat} (v : Int32) : RepC (sI h 9 i v) 7 (seL A i v) := by
  obtain ⟨a1, a2, a3⟩ := R
  refine ⟨?_, fun j hj => ?_, ?_⟩
  · rw [show aI (sI h 9 i v) (7 + 1) = aI h (7 + 1) by funext k; rw [sI_I, if_neg (by omega)]]
    exact a1
  · show aI (sI h 9 i v) 9 j = if j = i then v else A.2.1 j
    rw [sI_I]
    by_cases q : j = i
    · rw [if_pos ⟨rfl, q⟩, if_pos q]
    · rw [if_neg (fun y => q y.2), if_neg q]; exact a2 j hj
  · have e : ∀ j, 2 ≤ j → j < 8 → aI (sI h 9 i v) (7 + 1 + j) = aI h (7 + 1 + j) := fun j _ _ => by funext k; rw [sI_I, if_neg (by omega)]
    rw [show aI (sI h 9 i v) (7 + 3) = _ from e 2 (by decide) (by decide), show aI (sI h 9 i v) (7 + 4) = _ from e 3 (by decide) (by decide), show aI (sI h 9 i v) (7 + 5) = _ from e 4 (by decide) (by decide), show aI (sI h 9 i v) (7 + 6) = _ from e 5 (by decide) (by decide), show aI (sI h 9 i v) (7 + 7) = _ from e 6 (by decide) (by decide), show aI (sI h 9 i v) (7 + 8) = _ from e 7 (by decide) (by decide)]
    exact a3
theorem rep_K {A : AP} (R : RepC h 7 A) {i : Nat} (v : Int32) : RepC (sI h 10 i v) 7 (seK A i v) := by
  obtain ⟨a1, a2, a3, a4⟩ := R
  have e : ∀ j, j ≠ 2 → j < 8 → aI (sI h 10 i v) (7 + 1 + j) = aI h (7 + 1 + j) := fun j _ _ => by funext k; rw [sI_I, if_neg (by omega)]
  refine ⟨?_, ?_, fun j hj => ?_, ?_⟩
  · rw [show aI (sI h 10 i v) (7 + 1) = _ from e 0 (by decide) (by decide)]; exact a1
  · rw [show aI (sI h 10 i v) (7 + 2) = _ from e 1 (by decide) (by decide)]; exact a2
  · show aI (sI h 10 i v) 10 j = if j = i then v else A.2.2.1 j
    rw [sI_I]
    by_cases q : j = i
    · rw [if_pos ⟨rfl, q⟩, if_pos q]
    · rw [if_neg (fun y => q y.2), if_neg q]; exact a3 j hj
  · rw [show aI (sI h 10 i v) (7 + 4) = _ from e 3 (by decide) (by decide), show aI (sI h 10 i v) (7 + 5) = _ from e 4 (by decide) (by decide), show aI (sI h 10 i v) (7 + 6) = _ from e 5 (by decide) (by decide), show aI (sI h 10 i v) (7 + 7) = _ from e 6 (by decide) (by decide), show aI (sI h 10 i v) (7 + 8) = _ from e 7 (by decide) (by decide)]
    exact a4
theorem rep_Z {A : AP} (R : RepC h 7 A) {i : Nat} (n : Nat) : RepC (sI h 15 i (nI n)) 7 (seZ A i n) := by
  obtain ⟨a1, a2, a3, a4, a5, a6, a7, a8⟩ := R
  have e : ∀ j, j < 7 → aI (sI h 15 i (nI n)) (7 + 1 + j) = aI h (7 + 1 + j) := fun j _ => by funext k; rw [sI_I, if_neg (by omega)]
  refine ⟨?_, ?_, ?_, ?_, ?_, ?_, ?_, fun j hj => ?_⟩
  · rw [show aI (sI h 15 i (nI n)) (7 + 1) = _ from e 0 (by decide)]; exact a1
  · rw [show aI (sI h 15 i (nI n)) (7 + 2) = _ from e 1 (by decide)]; exact a2
  · rw [show aI (sI h 15 i (nI n)) (7 + 3) = _ from e 2 (by decide)]; exact a3
  · rw [show aI (sI h 15 i (nI n)) (7 + 4) = _ from e 3 (by decide)]; exact a4
  · rw [show aI (sI h 15 i (nI n)) (7 + 5) = _ from e 4 (by decide)]; exact a5
  · rw [show aI (sI h 15 i (nI n)) (7 + 6) = _ from e 5 (by decide)]; exact a6
  · rw [show aI (sI h 15 i (nI n)) (7 + 7) = _ from e 6 (by decide)]; exact a7
  · show aI (sI h 15 i (nI n)) 15 j = nI (if j = i then n else A.2.2.2.2.2 j)
    rw [sI_I]
    by_cases q : j = i
    · rw [if_pos ⟨rfl, q⟩, if_pos q]
    · rw [if_neg (fun y => q y.2), if_neg q]; exact a8 j hj
theorem q_fact (W : WfS S) (x : InvC h S) (t i v : Int32) : CallOk h (f_X8_fact h 0 t i v) (oFact S t i v) := by
  have Sx := x.1
  have w := S_7 Sx
  have R := x.2.2.2.1
  have f := W.2.2.1
  have z := W.2.2.2.1
  unfold f_X8_fact oFact
  rw [if_pos (k_0 Sx)]
  rcases n_thing W x t with ⟨e1, e2⟩ | ⟨t', t1, t2, t3, e1, e2⟩
  · rw [e1, e2, bs]; exact call_e W x 2
  rw [e1, e2, bs]
  simp only []
  rw [n_closed x, bs]
  by_cases qo : tO S = false
  · rw [if_pos qo, if_neg (by rw [qo]; decide)]; exact call_e W x 0
  have hO := o_ne qo
  rw [if_neg qo, if_pos hO, t3]
  simp only []
  rcases dc_or i (n := 4) (by decide) with ⟨e5, q⟩ | ⟨k, hk, e6, e5, q1, -, q3⟩
  · have : (if i < 0 then some (0 : Int32) else if 4 ≤ i then some 0 else some 1) = some 0 := by
      rcases q with q | ⟨q1, q2, -⟩
      · rw [if_pos q]
      · rw [if_neg q1, if_pos (show (4 : Int32) ≤ i from q2)]
    rw [this, e5, bs, need_0, bs]
    exact call_e W x 1
  have : (if i < 0 then some (0 : Int32) else if 4 ≤ i then some 0 else some 1) = some 1 := by
    rw [if_neg q1, if_neg (show ¬ (4 : Int32) ≤ i from q3)]
  rw [this, e5, bs, need_1, bs, e6, c4]
  simp only []
  have hst : stI h (7 + 1 + 0) (nI (4 * t' + k)) v = some (sI h 8 (4 * t' + k) v) := stI_n (w.2.2.1 0 (by decide)) (by rw [w.2.2.2 0 (by decide)]; show _ < 160; omega) (by rw [w.2.2.2 0 (by decide)]; decide)
  have F3 : Fr h (sI h 8 (4 * t' + k) v) (fun a => 7 < a ∧ a ≤ 15) := Fr.si ⟨by decide, by decide⟩
  have fin : CallOk h (Option.bind (some 7) fun x11 => Option.bind (gP h 4 x11 0) fun x12 => Option.bind (stI h x12 (nI (4 * t' + k)) v) fun h13 => Option.bind (f_X8_settle h13 0) fun w => some (Except.ok w.1, w.2)) (mvO S (seF (tA S) (4 * t' + k) v)) := by
    rw [bs, w.p 0 (by decide), bs, hst, bs]
    exact call_m W hO x F3 (rep_F R v) f z
  rw [g_0_1 Sx, bs, q_isFrozen w R f t2, bs]
  cases ef : fzA (tA S) t' with
  | false =>
    rw [if_pos (show (if false = true then (1 : Int32) else 0) = 0 by decide), if_neg (fun q => by cases q.1)]
    exact fin
  | true =>
    rw [if_neg (show ¬ (if true = true then (1 : Int32) else 0) = 0 by decide), bs, w.p 0 (by decide), bs, x.fc (show 4 * t' + k < 160 by omega), bs]
    by_cases q : qF (tA S) (4 * t' + k) = v
    · rw [if_pos q, if_neg (fun y => y.2 q)]
      exact fin
    · rw [if_neg q, if_pos ⟨rfl, q⟩]
      exact call_s W x (-3)
theorem q_listFact (W : WfS S) (x : InvC h S) (l i v : Int32) : CallOk h (f_X8_listFact h 0 l i v) (oListFact S l i v) := by
  have Sx := x.1
  have w := S_7 Sx
  have R := x.2.2.2.1
  have f := W.2.2.1
  have z := W.2.2.2.1
  unfold f_X8_listFact oListFact
  rw [if_pos (k_0 Sx)]
  rcases n_list W x l with ⟨e1, e2⟩ | ⟨l', l1, l2, l3, e1, e2⟩
  · rw [e1, e2, bs]; exact call_e W x 2
  rw [e1, e2, bs]
  simp only []
  rw [n_closed x, bs]
  by_cases qo : tO S = false
  · rw [if_pos qo, if_neg (by rw [qo]; decide)]; exact call_e W x 0
  have hO := o_ne qo
  rw [if_neg qo, if_pos hO, l3]
  simp only []
  rcases dc_or i (n := 2) (by decide) with ⟨e5, q⟩ | ⟨k, hk, e6, e5, q1, -, q3⟩
  · have : (if i < 0 then some (0 : Int32) else if 2 ≤ i then some 0 else some 1) = some 0 := by
      rcases q with q | ⟨q1, q2, -⟩
      · rw [if_pos q]
      · rw [if_neg q1, if_pos (show (2 : Int32) ≤ i from q2)]
    rw [this, e5, bs, need_0, bs]
    exact call_e W x 1
  have : (if i < 0 then some (0 : Int32) else if 2 ≤ i then some 0 else some 1) = some 1 := by
    rw [if_neg q1, if_neg (show ¬ (2 : Int32) ≤ i from q3)]
  rw [this, e5, bs, need_1, bs, e6, c2]
  simp only []
  have hst : stI h (7 + 1 + 1) (nI (2 * l' + k)) v = some (sI h 9 (2 * l' + k) v) := stI_n (w.2.2.1 1 (by decide)) (by rw [w.2.2.2 1 (by decide)]; show _ < 12; omega) (by rw [w.2.2.2 1 (by decide)]; decide)
  rw [g_0_1 Sx, bs, w.p 1 (by decide), bs, hst, bs]
  exact call_m W hO x (Fr.si ⟨by decide, by decide⟩) (rep_L R v) f z
theorem q_freeze (W : WfS S) (x : InvC h S) (l n : Int32) : CallOk h (f_X8_freeze h 0 l n) (oFreeze S l n) := by
  have Sx := x.1
  have w := S_7 Sx
  have R := x.2.2.2.1
  have f := W.2.2.1
  have z := W.2.2.2.1
  unfold f_X8_freeze oFreeze
  rw [if_pos (k_0 Sx)]
  rcases n_list W x l with ⟨e1, e2⟩ | ⟨l', l1, l2, l3, e1, e2⟩
  · rw [e1, e2, bs]; exact call_e W x 2
  rw [e1, e2, bs]
  simp only []
  rw [n_closed x, bs]
  by_cases qo : tO S = false
  · rw [if_pos qo, if_neg (by rw [qo]; decide)]; exact call_e W x 0
  have hO := o_ne qo
  have hlen := f.len l'
  rw [if_neg qo, if_pos hO, l3]
  simp only []
  rw [g_0_1 Sx, bs, w.p 6 (by decide), bs, x.sz l2, bs]
  rcases dc_or n (n := qS (tA S) l' + 1) (by omega) with ⟨e5, q⟩ | ⟨k, hk, e6, e5, q1, -, q3⟩
  · have : (if n < 0 then some (0 : Int32) else if nI (qS (tA S) l') < n then some 0 else some 1) = some 0 := by
      rcases q with q | ⟨q1, q2, -⟩
      · rw [if_pos q]
      · rw [if_neg q1]
        obtain ⟨j, hj, ej⟩ := nI_of q1
        subst ej
        have := (nI_leI (by omega) hj).mp q2
        rw [if_pos (nI_lt (by omega) hj)]
    rw [this, e5, bs, need_0, bs]
    exact call_e W x 1
  have : (if n < 0 then some (0 : Int32) else if nI (qS (tA S) l') < n then some 0 else some 1) = some 1 := by
    rw [if_neg q1, e6, if_neg (nI_nlt (by omega) (by omega))]
  rw [this, e5, bs, need_1, bs, e6]
  simp only []
  have hst : stI h (7 + 1 + 7) (nI l') (nI k) = some (sI h 15 l' (nI k)) := stI_n (w.2.2.1 7 (by decide)) (by rw [w.2.2.2 7 (by decide)]; show _ < 6; omega) (by rw [w.2.2.2 7 (by decide)]; decide)
  rw [g_0_1 Sx, bs, w.p 7 (by decide), bs, hst, bs]
  refine call_m W hO x (Fr.si ⟨by decide, by decide⟩) (rep_Z R k) ?_ ?_
  · obtain ⟨b1, b2, b3, b4, b5, b6, b7⟩ := f
    refine ⟨b1, b2, b3, b4, b5, fun m => ?_, b7⟩
    show (if m = l' then k else qZ (tA S) m) ≤ 40
    split
    · omega
    · exact b6 m
  · intro m
    show (if m = l' then k else qZ (tA S) m) ≤ qS (tA S) m
    split
    · rename_i q; rw [q]; omega
    · exact z m
theorem q_link (W : WfS S) (x : InvC h S) (t u : Int32) : CallOk h (f_X8_link h 0 t u) (oLink S t u) := by
  have Sx := x.1
  have w := S_7 Sx
  have R := x.2.2.2.1
  have f := W.2.2.1
  have z := W.2.2.2.1
  have hT := f.1
  unfold f_X8_link oLink
  rw [if_pos (k_0 Sx)]
  rcases n_thing W x t with ⟨e1, e2⟩ | ⟨t', t1, t2, t3, e1, e2⟩
  · rw [e1, e2, bs]; exact call_e W x 2
  rw [e1, e2, bs]
  simp only []
  have hst : stI h (7 + 1 + 2) (nI t') u = some (sI h 10 t' u) := stI_n (w.2.2.1 2 (by decide)) (by rw [w.2.2.2 2 (by decide)]; show _ < 40; omega) (by rw [w.2.2.2 2 (by decide)]; decide)
  have fin : (u = -1 ∨ ∃ v, v < bT (tB S) ∧ u = nI v) → tO S = true → CallOk h (Option.bind (if t = u then some (0 : Int32) else some 1) fun x5 => Option.bind (f_X8_need h x5) fun w => match w with
      | (.error k9, h7) => some (.error k9, h7)
      | (.ok x6, h7) => Option.bind (gP h7 8 0 1) fun x8 => Option.bind (f_X4_isFrozen h7 x8 t) fun x9 => if x9 = 0 then Option.bind (gP h7 8 0 1) fun x11 => Option.bind (gP h7 4 x11 2) fun x12 => Option.bind (stI h7 x12 t u) fun h13 => Option.bind (f_X8_settle h13 0) fun w => match w with
          | (x14, h15) => some (.ok x14, h15)
        else Option.bind (gP h7 8 0 1) fun x16 => Option.bind (gP h7 4 x16 2) fun x17 => Option.bind (ldI h7 x17 t) fun x18 => if x18 = u then Option.bind (gP h7 8 0 1) fun x19 => Option.bind (gP h7 4 x19 2) fun x20 => Option.bind (stI h7 x20 t u) fun h21 => Option.bind (f_X8_settle h21 0) fun w => match w with
          | (x22, h23) => some (.ok x22, h23)
          else some (.ok (-3), h7)) (if t = u then (.error 1, S) else if fzA (tA S) t' = true ∧ qK (tA S) t' ≠ u then (.ok (-3), S) else mvO S (seK (tA S) t' u)) := by
    intro hu hO
    by_cases qe : t = u
    · rw [if_pos qe, if_pos qe, bs, need_0, bs]
      exact call_e W x 1
    rw [if_neg qe, if_neg qe, bs, need_1, bs]
    simp only []
    have fin2 : CallOk h (Option.bind (some 7) fun x11 => Option.bind (gP h 4 x11 2) fun x12 => Option.bind (stI h x12 (nI t') u) fun h13 => Option.bind (f_X8_settle h13 0) fun w => some (Except.ok w.1, w.2)) (mvO S (seK (tA S) t' u)) := by
      rw [bs, w.p 2 (by decide), bs, hst, bs]
      refine call_m W hO x (Fr.si ⟨by decide, by decide⟩) (rep_K R u) ?_ z
      obtain ⟨b1, b2, b3, b4, b5, b6, b7⟩ := f
      refine ⟨b1, b2, b3, b4, b5, b6, fun m hm => ?_⟩
      show (if m = t' then u else qK (tA S) m) = -1 ∨ ∃ v, v < bT (tB S) ∧ (if m = t' then u else qK (tA S) m) = nI v
      split
      · exact hu
      · exact b7 m hm
    rw [t3, g_0_1 Sx, bs, q_isFrozen w R f t2, bs]
    cases ef : fzA (tA S) t' with
    | false =>
      rw [if_pos (show (if false = true then (1 : Int32) else 0) = 0 by decide), if_neg (fun q => by cases q.1)]
      exact fin2
    | true =>
      rw [if_neg (show ¬ (if true = true then (1 : Int32) else 0) = 0 by decide), bs, w.p 2 (by decide), bs, x.lk t2, bs]
      by_cases q : qK (tA S) t' = u
      · rw [if_pos q, if_neg (fun y => y.2 q)]
        exact fin2
      · rw [if_neg q, if_pos ⟨rfl, q⟩]
        exact call_s W x (-3)
  by_cases qm : u = -1
  · rw [if_pos qm, if_neg (show ¬ (u ≠ -1 ∧ dcN u (bT (tB S)) = none) from fun q => q.1 qm), n_closed x, bs]
    by_cases qo : tO S = false
    · rw [if_pos qo, if_neg (by rw [qo]; decide)]; exact call_e W x 0
    rw [if_neg qo, if_pos (o_ne qo)]
    exact fin (Or.inl qm) (o_ne qo)
  · rw [if_neg qm]
    rcases n_thing W x u with ⟨e3, e4⟩ | ⟨u', u1, u2, u3, e3, e4⟩
    · rw [e4, bs, if_pos (show u ≠ -1 ∧ dcN u (bT (tB S)) = none from ⟨qm, e3⟩)]; exact call_e W x 2
    rw [e4, bs, if_neg (show ¬ (u ≠ -1 ∧ dcN u (bT (tB S)) = none) from fun q => by rw [e3] at q; cases q.2)]
    simp only []
    rw [n_closed x, bs]
    by_cases qo : tO S = false
    · rw [if_pos qo, if_neg (by rw [qo]; decide)]; exact call_e W x 0
    rw [if_neg qo, if_pos (o_ne qo)]
    exact fin (Or.inr ⟨u', u1, u3⟩) (o_ne qo)
end Moves3
