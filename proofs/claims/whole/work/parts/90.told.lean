/-! the class: what is told -/
def rdQ {α : Type} (h : AH) (S : SX) (r : Option (Except Nat α × AH)) (o : Except Nat α) : Prop := ∃ h', r = some (o, h') ∧ InvC h' S ∧ Fk h h' (fun a => a < 53)
def oShadow (S : SX) (t k : Int32) : Except Nat Int64 := match dcN t (bT (tB S)) with
  | none => .error 2
  | some t => match dcN k 6 with
    | none => .error 1
    | some k => .ok (tN S (6 * t + k))
def oListShadow (S : SX) (l k : Int32) : Except Nat Int64 := match dcN l (bL (tB S)) with
  | none => .error 2
  | some l => match dcN k 9 with
    | none => .error 1
    | some k => if k < 6 then .error 1 else .ok (tN S (240 + 3 * l + (k - 6)))
def whN (A : AP) (t w : Nat) : Int32 := if w = 0 then ov (hmA A t) else if w = 1 then ov (spA A t) else if w = 2 then ov ((hmA A t).bind (fun l => nbB A l t)) else if w = 3 then ov ((hmA A t).bind (fun l => nbA A l t)) else if w = 4 then qK A t else if w = 5 then bI (fzA A t) else qF A (4 * t + w - 6)
def oWhere (S : SX) (t w : Int32) : Except Nat Int32 := match dcN t (bT (tB S)) with
  | none => .error 2
  | some t => match dcN w 10 with
    | none => .error 1
    | some w => .ok (whN (tA S) t w)
def atN (A : AP) (l : Nat) (k : Int32) : Int32 := match dcN k (qS A l) with
  | none => -1
  | some k => nI (qR A l k)
def oAt (S : SX) (l k : Int32) : Except Nat Int32 := match dcN l (bL (tB S)) with
  | none => .error 2
  | some l => .ok (atN (tA S) l k)
def oCause (S : SX) (w : Int32) : Except Nat Int32 := match dcN w 4 with
  | none => .error 1
  | some w => .ok (if w = 0 then (tQ S).1 else if w = 1 then (tQ S).2.1 else if w = 2 then (tQ S).2.2.1 else (tQ S).2.2.2)
def oCount (S : SX) (w : Int32) : Except Nat Int32 := match dcN w 7 with
  | none => .error 1
  | some w => .ok (nI (if w = 0 then bT (tB S) else if w = 1 then bL (tB S) else if w = 2 then (orS S).length else if w = 3 then (tH S).length else if w = 4 then tU S else if w = 5 then tF S else tM S))
section Told
variable {h : AH} {S : SX}
theorem rd_e {α : Type} (x : InvC h S) (k : Nat) : rdQ (α := α) h S (some (.error k, nx h)) (.error k) := ⟨nx h, rfl, x.nx, Fk.nx⟩
theorem rd_s {α : Type} (x : InvC h S) (v : α) : rdQ h S (some (.ok v, h)) (.ok v) := ⟨h, rfl, x, Fk.rf _ _⟩
theorem q_shadow (W : WfS S) (x : InvC h S) (t k : Int32) : rdQ h S (f_X8_shadow h 0 t k) (oShadow S t k) := by
  have Sx := x.1
  unfold f_X8_shadow oShadow
  rw [if_pos (k_0 Sx)]
  rcases n_thing W x t with ⟨e1, e2⟩ | ⟨t', t1, t2, t3, e1, e2⟩
  · rw [e1, e2, bs]; exact rd_e x 2
  rw [e1, e2, bs]
  simp only []
  unfold f_X8_isThingKind
  rcases dc_or k (n := 6) (by decide) with ⟨e5, q⟩ | ⟨j, hj, e6, e5, q1, -, q3⟩
  · have : (if k < 0 then some (0 : Int32) else if 6 ≤ k then some 0 else some 1) = some 0 := by
      rcases q with q | ⟨q1, q2, -⟩
      · rw [if_pos q]
      · rw [if_neg q1, if_pos (show (6 : Int32) ≤ k from q2)]
    rw [this, e5, bs, bz0, bs, bs, need_0, bs]
    exact rd_e x 1
  have : (if k < 0 then some (0 : Int32) else if 6 ≤ k then some 0 else some 1) = some 1 := by
    rw [if_neg q1, if_neg (show ¬ (6 : Int32) ≤ k from q3)]
  rw [this, e5, bs, bz1, bs, bs, need_1, bs, t3, e6]
  simp only []
  rw [g_0_3 Sx, bs, q_shadowOf, bs, ld_25 Sx (by omega), bs, x.2.2.2.2.2.1 _ (by omega)]
  exact rd_s x _
theorem q_listShadow (W : WfS S) (x : InvC h S) (l k : Int32) : rdQ h S (f_X8_listShadow h 0 l k) (oListShadow S l k) := by
  have Sx := x.1
  unfold f_X8_listShadow oListShadow
  rw [if_pos (k_0 Sx)]
  rcases n_list W x l with ⟨e1, e2⟩ | ⟨l', l1, l2, l3, e1, e2⟩
  · rw [e1, e2, bs]; exact rd_e x 2
  rw [e1, e2, bs]
  simp only []
  unfold f_X8_isListKind
  rcases dc_or k (n := 9) (by decide) with ⟨e5, q⟩ | ⟨j, hj, e6, e5, q1, -, q3⟩
  · have : (if k < 6 then some (0 : Int32) else if 9 ≤ k then some 0 else some 1) = some 0 := by
      rcases q with q | ⟨q1, q2, -⟩
      · have q6 : k < 6 := by
          have h1 := Int32.lt_iff_toInt_lt.mp q
          refine Int32.lt_iff_toInt_lt.mpr ?_
          have h3 : (6 : Int32).toInt = 6 := by decide
          rw [ti0] at h1
          omega
        rw [if_pos q6]
      · by_cases q6 : k < 6
        · rw [if_pos q6]
        · rw [if_neg q6, if_pos (show (9 : Int32) ≤ k from q2)]
    rw [this, e5, bs, bz0, bs, bs, need_0, bs]
    exact rd_e x 1
  rw [e5, e6]
  simp only []
  by_cases q6 : j < 6
  · rw [if_pos (show nI j < 6 from nI_lt (b := 6) q6 (by decide)), if_pos q6, bs, bz0, bs, bs, need_0, bs]
    exact rd_e x 1
  · rw [if_neg (show ¬ nI j < 6 from nI_nlt (b := 6) (by omega) (by omega)), if_neg (show ¬ (9 : Int32) ≤ nI j from nI_ge (b := 9) hj (by decide)), if_neg q6, bs, bz1, bs, bs, need_1, bs, l3]
    simp only []
    rw [g_0_3 Sx, bs, q_shadowOfList h l' (by omega), bs, ld_25 Sx (by omega), bs, x.2.2.2.2.2.1 _ (by omega)]
    exact rd_s x _
theorem q_where (W : WfS S) (x : InvC h S) (t w : Int32) : rdQ h S (f_X8_where h 0 t w) (oWhere S t w) := by
  have Sx := x.1
  have w7 := S_7 Sx
  have R := x.2.2.2.1
  have f := W.2.2.1
  unfold f_X8_where oWhere
  rw [if_pos (k_0 Sx)]
  rcases n_thing W x t with ⟨e1, e2⟩ | ⟨t', t1, t2, t3, e1, e2⟩
  · rw [e1, e2, bs]; exact rd_e x 2
  rw [e1, e2, bs, t3]
  simp only []
  rcases dc_or w (n := 10) (by decide) with ⟨e5, q⟩ | ⟨j, hj, e6, e5, q1, -, q3⟩
  · have hne : ∀ k, k < 10 → ¬ w = nI k := fun k hk e => by
      have : dcN w 10 = some k := by
        unfold dcN
        rw [e, if_neg (nI_nn (by omega)), nI_clamp (by omega), if_pos hk]
      rw [this] at e5; cases e5
    have : (if w < 6 then some (0 : Int32) else if 10 ≤ w then some 0 else some 1) = some 0 := by
      by_cases q6 : w < 6
      · rw [if_pos q6]
      · rw [if_neg q6]
        rcases q with q | ⟨q1, q2, -⟩
        · exfalso
          apply q6
          have h1 := Int32.lt_iff_toInt_lt.mp q
          refine Int32.lt_iff_toInt_lt.mpr ?_
          have h3 : (6 : Int32).toInt = 6 := by decide
          rw [ti0] at h1
          omega
        · rw [if_pos (show (10 : Int32) ≤ w from q2)]
    rw [e5, if_neg (show ¬ w = 0 from hne 0 (by decide)), if_neg (show ¬ w = 1 from hne 1 (by decide)), if_neg (show ¬ w = 2 from hne 2 (by decide)), if_neg (show ¬ w = 3 from hne 3 (by decide)), if_neg (show ¬ w = 4 from hne 4 (by decide)), if_neg (show ¬ w = 5 from hne 5 (by decide)), this, bs, need_0, bs]
    exact rd_e x 1
  rw [e5, e6]
  simp only []
  have hj' := hj
  rcases (show j = 0 ∨ j = 1 ∨ j = 2 ∨ j = 3 ∨ j = 4 ∨ j = 5 ∨ 6 ≤ j by omega) with rfl | rfl | rfl | rfl | rfl | rfl | q6
  · rw [if_pos (show nI 0 = 0 from rfl), g_0_1 Sx, bs, w7.p 3 (by decide), bs, x.hm t2, bs]
    exact rd_s x _
  · rw [if_neg (show ¬ nI 1 = 0 by decide), if_pos (show nI 1 = 1 from rfl), g_0_1 Sx, bs, w7.p 4 (by decide), bs, x.sp t2, bs]
    exact rd_s x _
  · rw [if_neg (show ¬ nI 2 = 0 by decide), if_neg (show ¬ nI 2 = 1 by decide), if_pos (show nI 2 = 2 from rfl), g_0_1 Sx, bs, q_neighbour_b w7 R f t2, bs]
    exact rd_s x _
  · rw [if_neg (show ¬ nI 3 = 0 by decide), if_neg (show ¬ nI 3 = 1 by decide), if_neg (show ¬ nI 3 = 2 by decide), if_pos (show nI 3 = 3 from rfl), g_0_1 Sx, bs, q_neighbour_a w7 R f t2, bs]
    exact rd_s x _
  · rw [if_neg (show ¬ nI 4 = 0 by decide), if_neg (show ¬ nI 4 = 1 by decide), if_neg (show ¬ nI 4 = 2 by decide), if_neg (show ¬ nI 4 = 3 by decide), if_pos (show nI 4 = 4 from rfl), g_0_1 Sx, bs, w7.p 2 (by decide), bs, x.lk t2, bs]
    exact rd_s x _
  · rw [if_neg (show ¬ nI 5 = 0 by decide), if_neg (show ¬ nI 5 = 1 by decide), if_neg (show ¬ nI 5 = 2 by decide), if_neg (show ¬ nI 5 = 3 by decide), if_neg (show ¬ nI 5 = 4 by decide), if_pos (show nI 5 = 5 from rfl), g_0_1 Sx, bs, q_isFrozen w7 R f t2, bs]
    have : (if (if fzA (tA S) t' = true then (1 : Int32) else 0) = 0 then some (0 : Int32) else some 1) = some (bI (fzA (tA S) t')) := by cases fzA (tA S) t' <;> rfl
    rw [this, bs]
    exact rd_s x _
  · have n : ∀ k, k < 6 → ¬ nI j = nI k := fun k hk e => by have := (nI_eq (by omega) (by omega)).mp e; omega
    rw [if_neg (show ¬ nI j = 0 from n 0 (by decide)), if_neg (show ¬ nI j = 1 from n 1 (by decide)), if_neg (show ¬ nI j = 2 from n 2 (by decide)), if_neg (show ¬ nI j = 3 from n 3 (by decide)), if_neg (show ¬ nI j = 4 from n 4 (by decide)), if_neg (show ¬ nI j = 5 from n 5 (by decide)), if_neg (show ¬ nI j < 6 from nI_nlt (b := 6) q6 (by omega)), if_neg (show ¬ (10 : Int32) ≤ nI j from nI_ge (b := 10) hj (by decide)), bs, need_1, bs]
    simp only []
    rw [g_0_1 Sx, bs, w7.p 0 (by decide), bs, c4, show nI (4 * t' + j) - 6 = nI (4 * t' + j - 6) from pk_sub (b := 6) (by omega), x.fc (by omega), bs]
    have : whN (tA S) t' j = qF (tA S) (4 * t' + j - 6) := by
      unfold whN
      rw [if_neg (by omega), if_neg (by omega), if_neg (by omega), if_neg (by omega), if_neg (by omega), if_neg (by omega)]
    rw [this]
    exact rd_s x _
theorem q_at (W : WfS S) (x : InvC h S) (l k : Int32) : rdQ h S (f_X8_at h 0 l k) (oAt S l k) := by
  have Sx := x.1
  have w7 := S_7 Sx
  have R := x.2.2.2.1
  have f := W.2.2.1
  unfold f_X8_at oAt
  rw [if_pos (k_0 Sx)]
  rcases n_list W x l with ⟨e1, e2⟩ | ⟨l', l1, l2, l3, e1, e2⟩
  · rw [e1, e2, bs]; exact rd_e x 2
  rw [e1, e2, bs, l3]
  simp only []
  have hlen := f.len l'
  have : f_X4_standsAt h 7 (nI l') k = some (atN (tA S) l' k) := by
    unfold atN
    rcases dc_or k (n := qS (tA S) l') (by omega) with ⟨e5, q⟩ | ⟨j, hj, e6, e5, q1, -, q3⟩
    · rw [e5]
      rcases q with q | ⟨q1, q2, -⟩
      · unfold f_X4_standsAt
        rw [if_pos w7.1, if_pos q]
        rfl
      · obtain ⟨j, hj, ej⟩ := nI_of q1
        subst ej
        rw [q_standsAt w7 R f l2 hj]
        have := (nI_leI (by omega) hj).mp q2
        unfold atA
        rw [if_neg (by omega)]
    · rw [e5, e6, q_standsAt w7 R f l2 (by omega)]
      unfold atA
      rw [if_pos hj]
  rw [g_0_1 Sx, bs, this, bs]
  exact rd_s x _
theorem q_worked (x : InvC h S) (k : Int32) : f_X8_worked h 0 k = some (gtL (tW S) k) := by
  have Sx := x.1
  unfold f_X8_worked
  rw [if_pos (k_0 Sx), g_0_5 Sx, bs, q_getx (Sx.r (by decide)) x.2.2.2.2.2.2.2.1 k, bs]
theorem q_order (x : InvC h S) (k : Int32) : f_X8_order h 0 k = some (gtL (orS S) k) := by
  have Sx := x.1
  unfold f_X8_order
  rw [if_pos (k_0 Sx), g_0_4 Sx, bs, q_getx (Sx.r (by decide)) x.2.2.2.2.2.2.1 k, bs]
theorem q_ring (x : InvC h S) (k : Int32) : f_X8_ring h 0 k = some (gtL (tR S) k) := by
  have Sx := x.1
  unfold f_X8_ring
  rw [if_pos (k_0 Sx), g_0_6 Sx, bs, g_30_1 Sx, bs, g_34_10 Sx, bs, q_getx (Sx.r (by decide)) x.2.2.2.2.2.2.2.2.1 k, bs]
theorem q_cause (x : InvC h S) (w : Int32) : rdQ h S (f_X8_cause h 0 w) (oCause S w) := by
  have Sx := x.1
  obtain ⟨c0, c1, c2, c3⟩ := x.2.2.2.2.2.2.2.2.2.1
  unfold f_X8_cause oCause
  rw [if_pos (k_0 Sx)]
  rcases dc_or w (n := 4) (by decide) with ⟨e5, q⟩ | ⟨j, hj, e6, e5, q1, -, q3⟩
  · have hne : ∀ k, k < 4 → ¬ w = nI k := fun k hk e => by
      have : dcN w 4 = some k := by
        unfold dcN
        rw [e, if_neg (nI_nn (by omega)), nI_clamp (by omega), if_pos hk]
      rw [this] at e5; cases e5
    rw [e5, if_neg (show ¬ w = 0 from hne 0 (by decide)), if_neg (show ¬ w = 1 from hne 1 (by decide)), if_neg (show ¬ w = 2 from hne 2 (by decide)), if_neg (show ¬ w = 3 from hne 3 (by decide)), bs, need_0, bs]
    exact rd_e x 1
  rw [e5, e6]
  simp only []
  rcases (show j = 0 ∨ j = 1 ∨ j = 2 ∨ j = 3 by omega) with rfl | rfl | rfl | rfl
  · rw [if_pos (show nI 0 = 0 from rfl), g_0_6 Sx, bs, gi_30 Sx, bs, c0]
    exact rd_s x _
  · rw [if_neg (show ¬ nI 1 = 0 by decide), if_pos (show nI 1 = 1 from rfl), g_0_6 Sx, bs, gi_30 Sx, bs, c1]
    exact rd_s x _
  · rw [if_neg (show ¬ nI 2 = 0 by decide), if_neg (show ¬ nI 2 = 1 by decide), if_pos (show nI 2 = 2 from rfl), g_0_6 Sx, bs, gi_30 Sx, bs, c2]
    exact rd_s x _
  · rw [if_neg (show ¬ nI 3 = 0 by decide), if_neg (show ¬ nI 3 = 1 by decide), if_neg (show ¬ nI 3 = 2 by decide), if_pos (show nI 3 = 3 from rfl), bs, need_1, bs]
    simp only []
    rw [g_0_6 Sx, bs, gi_30 Sx, bs, c3]
    exact rd_s x _
theorem q_count (x : InvC h S) (w : Int32) : rdQ h S (f_X8_count h 0 w) (oCount S w) := by
  have Sx := x.1
  obtain ⟨e, -, -, p2, -⟩ := x.2.2.2.2.2.2.2.2.2.2.2
  unfold f_X8_count oCount
  rw [if_pos (k_0 Sx)]
  rcases dc_or w (n := 7) (by decide) with ⟨e5, q⟩ | ⟨j, hj, e6, e5, q1, -, q3⟩
  · have hne : ∀ k, k < 7 → ¬ w = nI k := fun k hk e => by
      have : dcN w 7 = some k := by
        unfold dcN
        rw [e, if_neg (nI_nn (by omega)), nI_clamp (by omega), if_pos hk]
      rw [this] at e5; cases e5
    rw [e5, if_neg (show ¬ w = 0 from hne 0 (by decide)), if_neg (show ¬ w = 1 from hne 1 (by decide)), if_neg (show ¬ w = 2 from hne 2 (by decide)), if_neg (show ¬ w = 3 from hne 3 (by decide)), if_neg (show ¬ w = 4 from hne 4 (by decide)), if_neg (show ¬ w = 5 from hne 5 (by decide)), if_neg (show ¬ w = 6 from hne 6 (by decide)), bs, need_0, bs]
    exact rd_e x 1
  rw [e5, e6]
  simp only []
  rcases (show j = 0 ∨ j = 1 ∨ j = 2 ∨ j = 3 ∨ j = 4 ∨ j = 5 ∨ j = 6 by omega) with rfl | rfl | rfl | rfl | rfl | rfl | rfl
  · rw [if_pos (show nI 0 = 0 from rfl), g_0_0 Sx, bs, gi_1 Sx, bs, x.2.1.1]
    exact rd_s x _
  · rw [if_neg (show ¬ nI 1 = 0 by decide), if_pos (show nI 1 = 1 from rfl), g_0_0 Sx, bs, gi_1 Sx, bs, x.2.1.2.1]
    exact rd_s x _
  · rw [if_neg (show ¬ nI 2 = 0 by decide), if_neg (show ¬ nI 2 = 1 by decide), if_pos (show nI 2 = 2 from rfl), g_0_4 Sx, bs, gi_26 Sx, bs, x.2.2.2.2.2.2.1.1]
    exact rd_s x _
  · rw [if_neg (show ¬ nI 3 = 0 by decide), if_neg (show ¬ nI 3 = 1 by decide), if_neg (show ¬ nI 3 = 2 by decide), if_pos (show nI 3 = 3 from rfl), g_0_7 Sx, bs, gi_51 Sx, bs, p2]
    exact rd_s x _
  · rw [if_neg (show ¬ nI 4 = 0 by decide), if_neg (show ¬ nI 4 = 1 by decide), if_neg (show ¬ nI 4 = 2 by decide), if_neg (show ¬ nI 4 = 3 by decide), if_pos (show nI 4 = 4 from rfl), gi_0 Sx, bs, x.o11]
    exact rd_s x _
  · rw [if_neg (show ¬ nI 5 = 0 by decide), if_neg (show ¬ nI 5 = 1 by decide), if_neg (show ¬ nI 5 = 2 by decide), if_neg (show ¬ nI 5 = 3 by decide), if_neg (show ¬ nI 5 = 4 by decide), if_pos (show nI 5 = 5 from rfl), gi_0 Sx, bs, x.o12]
    exact rd_s x _
  · rw [if_neg (show ¬ nI 6 = 0 by decide), if_neg (show ¬ nI 6 = 1 by decide), if_neg (show ¬ nI 6 = 2 by decide), if_neg (show ¬ nI 6 = 3 by decide), if_neg (show ¬ nI 6 = 4 by decide), if_neg (show ¬ nI 6 = 5 by decide), if_pos (show nI 6 = 6 from rfl), bs, need_1, bs]
    simp only []
    rw [gi_0 Sx, bs, x.o10]
    exact rd_s x _
theorem q_isSame (W : WfS S) (x : InvC h S) : ∃ h', f_X8_isSame h 0 = some (bI (agF (tB S) (tP S) (tN S) (orS S) (tN S)), h') ∧ InvC h' S ∧ Fk h h' (fun a => a < 53) := by
  have Sx := x.1
  have g := or_gd (C := isC (tB S) (tP S)) (R := rdB (tB S) (tP S)) (fun c d q => rdB_c c d q)
  have hO : ∀ c, c ∈ orS S → isC (tB S) (tP S) c = true := fun c hc => by
    unfold orS at hc
    split at hc
    · exact (g.2.1 c hc).2
    · simp at hc
  obtain ⟨h1, e1, f1⟩ := q_agrees Sx W.1 x.2.1 x.2.2.2.2.1 W.2.2.2.2.1 x.2.2.2.2.2.1 hO x.2.2.2.2.2.2.1
  refine ⟨h1, ?_, ?_, f1.k.mono (fun a _ q => by omega)⟩
  · unfold f_X8_isSame
    rw [if_pos (k_0 Sx), g_0_6 Sx, bs, g_0_2 Sx, bs, g_0_3 Sx, bs, g_0_4 Sx, bs, e1, bs]
    simp only []
    rw [bz_b, bs]
  · obtain ⟨a1, a2, a3, a4, a5, a6, a7, a8, a9, a10, a11, a12⟩ := x
    refine ⟨f1.S a1, f1.B a2 (by omega) (by omega) (by omega) (by omega), a3.fr (f1.i (by omega)) (f1.i (by omega)) (f1.i (by omega)), f1.R a4 (fun a q1 q2 => by omega), f1.R a5 (fun a q1 q2 => by omega), fun d hd => by rw [f1.j (by omega)]; exact a6 d hd, f1.w a7 (by omega) (by omega), f1.w a8 (by omega) (by omega), f1.w a9 (by omega) (by omega), a10.fr (f1.i (by omega)), ?_, a12.fr f1 (by omega) (by omega) (fun a q1 q2 => by omega)⟩
    rw [f1.i (by omega)]
    exact a11
end Told
