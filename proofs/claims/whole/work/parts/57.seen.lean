/-! the shadow that a step sees -/
def lsN (A : AP) (c : Nat) : Option Nat := if c < 240 then hmA A (owN c) else some (owN c)
def lkN (A : AP) (t : Nat) : Option Nat := if qK A t = -1 then none else if hmA A (qK A t).toNatClampNeg = none then none else some (qK A t).toNatClampNeg
def nbB (A : AP) (l t : Nat) : Option Nat := match spA A t with
  | some (k + 1) => if k < qS A l then some (qR A l k) else none
  | _ => none
def nbA (A : AP) (l t : Nat) : Option Nat := match spA A t with
  | some k => if k + 1 < qS A l then some (qR A l (k + 1)) else none
  | none => none
def thN (A : AP) (l c code : Nat) : Option Nat := if code = 5 then nbB A l (owN c) else if code = 6 then nbA A l (owN c) else if code = 7 then lkN A (owN c) else if code = 12 then (if 0 < qS A l then some (qR A l 0) else none) else if code = 13 then (if 0 < qS A l then some (qR A l (qS A l - 1)) else none) else none
def seN (A : AP) (c code w : Nat) : Option Nat := if code = 4 then some (if c < 240 then 6 * owN c + w else 240 + 3 * owN c + (w - 6)) else match lsN A c with
  | none => none
  | some l => if code = 8 then some (240 + 3 * l + (w - 6)) else (thN A l c code).map (fun t => 6 * t + w)
theorem hm6 {A : AP} {t l : Nat} (e : hmA A t = some l) : l < 6 := List.mem_range.mp (List.mem_of_find?_eq_some (show List.find? _ (List.range 6) = some l from e))
theorem ki_t {c : Nat} (hc : c < 258) : kiN c < 6 ↔ c < 240 := by unfold kiN; split <;> omega
section Seen
variable {h : AH} {p : Nat} {A : AP} {T Ls : Nat}
theorem q_listOf (w : WPl h p) (R : RepC h p A) {c : Nat} (hc : c < 258) : f_X4_listOf h p (nI c) = some (ov (lsN A c)) := by
  unfold f_X4_listOf lsN
  rw [if_pos w.1, q_isOfThing h hc, bs]
  by_cases q : c < 240
  · rw [if_pos q, if_pos q, if_neg (by decide), w.p 3 (by decide), bs, q_ownerOf h hc, bs, w.ld 3 (by decide) (ow40 q : _ < eP 3), bs, show aI h (p + 1 + 3) (owN c) = _ from R.2.2.2.1 _ (ow40 q), bs]
  · rw [if_neg q, if_neg q, if_pos rfl, q_ownerOf h hc, bs, bs]
    rfl
theorem q_neighbour_b (w : WPl h p) (R : RepC h p A) (f : WfA A T Ls) {t : Nat} (ht : t < 40) : f_X4_neighbour h p (nI t) (-1) = some (ov ((hmA A t).bind (fun l => nbB A l t))) := by
  unfold f_X4_neighbour
  rw [if_pos w.1, w.p 3 (by decide), bs, w.ld 3 (by decide) (show t < eP 3 from ht), bs, show aI h (p + 1 + 3) t = _ from R.2.2.2.1 t ht]
  rcases hm_or f t with ⟨e1, e2, -⟩ | ⟨l, k, -, hl, hk, -, e1, e2⟩
  · rw [e1]
    rfl
  · have hlen := f.len l
    rw [e1, ov_s, if_neg (nI_nm (by omega)), w.p 4 (by decide), bs, w.ld 4 (by decide) (show t < eP 4 from ht), bs, show aI h (p + 1 + 4) t = _ from R.2.2.2.2.1 t ht, e2, ov_s]
    show _ = some (ov (nbB A l t))
    unfold nbB
    rw [e2]
    cases k with
    | zero =>
      rw [show nI 0 + (-1) = -1 by decide, q_standsAt_m w]
      rfl
    | succ k =>
      rw [pk_m1, q_standsAt w R f hl (by omega)]
      show _ = some (ov (if k < qS A l then some (qR A l k) else none))
      unfold atA
      rw [if_pos (by omega), if_pos (by omega)]
      rfl
theorem q_neighbour_a (w : WPl h p) (R : RepC h p A) (f : WfA A T Ls) {t : Nat} (ht : t < 40) : f_X4_neighbour h p (nI t) 1 = some (ov ((hmA A t).bind (fun l => nbA A l t))) := by
  unfold f_X4_neighbour
  rw [if_pos w.1, w.p 3 (by decide), bs, w.ld 3 (by decide) (show t < eP 3 from ht), bs, show aI h (p + 1 + 3) t = _ from R.2.2.2.1 t ht]
  rcases hm_or f t with ⟨e1, e2, -⟩ | ⟨l, k, -, hl, hk, -, e1, e2⟩
  · rw [e1]
    rfl
  · have hlen := f.len l
    rw [e1, ov_s, if_neg (nI_nm (by omega)), w.p 4 (by decide), bs, w.ld 4 (by decide) (show t < eP 4 from ht), bs, show aI h (p + 1 + 4) t = _ from R.2.2.2.2.1 t ht, e2, ov_s]
    show _ = some (ov (nbA A l t))
    unfold nbA
    rw [e2, nI_1, q_standsAt w R f hl (by omega)]
    show _ = some (ov (if k + 1 < qS A l then some (qR A l (k + 1)) else none))
    unfold atA
    by_cases c : k + 1 < qS A l
    · rw [if_pos c, if_pos c]; rfl
    · rw [if_neg c, if_neg c]; rfl
theorem q_isFrozenCell (w : WPl h p) (R : RepC h p A) (f : WfA A T Ls) {c : Nat} (hc : c < 258) : f_X4_isFrozenCell h p (nI c) = some (if c < 240 ∧ fzA A (owN c) = true then 1 else 0) := by
  unfold f_X4_isFrozenCell
  rw [if_pos w.1, q_isOfThing h hc, bs]
  by_cases q : c < 240
  · rw [if_pos q, if_neg (by decide), q_ownerOf h hc, bs, q_isFrozen w R f (ow40 q), bs]
    cases e : fzA A (owN c) with
    | false => simp [bz0, bs]
    | true => simp [bz1, bs, q]
  · rw [if_neg q, if_pos rfl]
    simp [bz0, bs, q]
/-- what stands at a place, as a shadow -/
theorem at_th {x : Int32} {o : Option Nat} {w : Nat} (e : x = ov o) (ho : ∀ t, o = some t → t < 40) : (Option.bind (if x = (-1) then some ((-1) : Int32) else Option.bind (f_X8_shadowOf h x (nI w)) fun x10 => some x10) fun x9 => some x9) = some (ov (o.map (fun t => 6 * t + w))) := by
  subst e
  cases o with
  | none => rfl
  | some t =>
    have := ho t rfl
    rw [ov_s, if_neg (nI_nm (by omega)), q_shadowOf]
    rfl
set_option maxHeartbeats 1000000 in
theorem q_seen (w : WPl h p) (R : RepC h p A) (f : WfA A T Ls) {c code v : Nat} (hc : c < 258) (hk : code = 4 ∧ (c < 240 ∨ 6 ≤ v) ∨ code = 5 ∧ c < 240 ∨ code = 6 ∧ c < 240 ∨ code = 7 ∧ c < 240 ∨ code = 8 ∧ 6 ≤ v ∨ code = 12 ∧ ¬ c < 240 ∨ code = 13 ∧ ¬ c < 240) : f_X4_shadowSeen h p (nI c) (nI code) (nI v) = some (ov (seN A c code v)) := by
  unfold f_X4_shadowSeen
  rw [if_pos w.1, q_ownerOf h hc, bs, q_listOf w R hc, bs]
  rcases hk with ⟨rfl, q⟩ | hk
  · unfold seN
    rw [if_pos (show nI 4 = 4 from rfl), if_pos rfl, q_isOfThing h hc, bs]
    by_cases c2 : c < 240
    · rw [if_pos c2, if_pos c2, if_neg (by decide), q_shadowOf]
      rfl
    · rw [if_neg c2, if_neg c2, if_pos rfl, q_shadowOfList h _ (by omega)]
      rfl
  · have hne : code ≠ 4 := by omega
    have hl6 : ∀ l, lsN A c = some l → l < 6 := by
      intro l e
      unfold lsN at e
      split at e
      · exact hm6 e
      · rename_i q
        cases e
        exact ow6 q hc
    rw [if_neg (show ¬ nI code = 4 from fun e => hne ((nI_eq (b := 4) (by omega) (by decide)).mp e))]
    unfold seN
    rw [if_neg hne]
    cases e : lsN A c with
    | none => rfl
    | some l =>
      have hl := hl6 l e
      have hlen := f.len l
      rw [ov_s, if_neg (nI_nm (by omega))]
      rcases hk with ⟨rfl, q⟩ | ⟨rfl, q⟩ | ⟨rfl, q⟩ | ⟨rfl, q⟩ | ⟨rfl, q⟩ | ⟨rfl, q⟩
      · have e1 : hmA A (owN c) = some l := by unfold lsN at e; rw [if_pos q] at e; exact e
        rcases hm_or f (owN c) with ⟨e3, -, -⟩ | ⟨l', k, -, -, hk, -, e3, e2⟩
        · rw [e3] at e1; cases e1
        · rw [e3] at e1
          cases e1
          rw [if_pos (show nI 5 = 5 from rfl), w.p 4 (by decide), bs, w.ld 4 (by decide) (ow40 q : _ < eP 4), bs, show aI h (p + 1 + 4) (owN c) = _ from R.2.2.2.2.1 _ (ow40 q), e2, ov_s]
          have et : thN A l c 5 = nbB A l (owN c) := rfl
          have eq : f_X4_standsAt h p (nI l) (nI k - 1) = some (ov (nbB A l (owN c))) := by
            unfold nbB
            rw [e2]
            cases k with
            | zero =>
              rw [show nI 0 - 1 = -1 by decide, q_standsAt_m w]
              rfl
            | succ k =>
              rw [nI_pred, q_standsAt w R f hl (by omega)]
              show some (atA A l k) = some (ov (if k < qS A l then some (qR A l k) else none))
              unfold atA
              rw [if_pos (by omega), if_pos (by omega)]
              rfl
          rw [eq, bs]
          show _ = some (ov ((thN A l c 5).map _))
          rw [et]
          refine at_th rfl (fun t e9 => ?_)
          unfold nbB at e9
          rw [e2] at e9
          cases k with
          | zero => cases e9
          | succ k =>
            have e10 : (if k < qS A l then some (qR A l k) else none) = some t := e9
            rw [if_pos (by omega)] at e10
            cases e10
            exact f.t40 (by omega)
      · have e1 : hmA A (owN c) = some l := by unfold lsN at e; rw [if_pos q] at e; exact e
        rcases hm_or f (owN c) with ⟨e3, -, -⟩ | ⟨l', k, -, -, hk, -, e3, e2⟩
        · rw [e3] at e1; cases e1
        · rw [e3] at e1
          cases e1
          rw [if_neg (show ¬ nI 6 = 5 by decide), if_pos (show nI 6 = 6 from rfl), w.p 4 (by decide), bs, w.ld 4 (by decide) (ow40 q : _ < eP 4), bs, show aI h (p + 1 + 4) (owN c) = _ from R.2.2.2.2.1 _ (ow40 q), e2, ov_s]
          have et : thN A l c 6 = nbA A l (owN c) := rfl
          have eq : f_X4_standsAt h p (nI l) (nI k + 1) = some (ov (nbA A l (owN c))) := by
            unfold nbA
            rw [e2, nI_1, q_standsAt w R f hl (by omega)]
            show some (atA A l (k + 1)) = some (ov (if k + 1 < qS A l then some (qR A l (k + 1)) else none))
            unfold atA
            by_cases c : k + 1 < qS A l
            · rw [if_pos c, if_pos c]; rfl
            · rw [if_neg c, if_neg c]; rfl
          rw [eq, bs]
          show _ = some (ov ((thN A l c 6).map _))
          rw [et]
          refine at_th rfl (fun t e9 => ?_)
          unfold nbA at e9
          rw [e2] at e9
          have e10 : (if k + 1 < qS A l then some (qR A l (k + 1)) else none) = some t := e9
          split at e10
          · rename_i q9
            cases e10
            exact f.t40 q9
          · cases e10
      · rw [if_neg (show ¬ nI 7 = 5 by decide), if_neg (show ¬ nI 7 = 6 by decide), if_pos (show nI 7 = 7 from rfl), w.p 2 (by decide), bs, w.ld 2 (by decide) (ow40 q : _ < eP 2), bs, show aI h (p + 1 + 2) (owN c) = _ from R.2.2.1 _ (ow40 q)]
        have et : thN A l c 7 = lkN A (owN c) := rfl
        show _ = some (ov ((thN A l c 7).map _))
        rw [et]
        unfold lkN
        rcases f.2.2.2.2.2.2 (owN c) (ow40 q) with e2 | ⟨u, hu, e2⟩
        · rw [e2, if_pos rfl, if_pos rfl, bs]
          exact at_th rfl (fun t e9 => by cases e9)
        · have hu40 : u < 40 := Nat.lt_of_lt_of_le hu f.1
          have L2 : ldI h (p + 1 + 2) (nI (owN c)) = some (nI u) := by rw [w.ld 2 (by decide) (ow40 q : _ < eP 2), show aI h (p + 1 + 2) (owN c) = _ from R.2.2.1 _ (ow40 q), e2]
          rw [e2, if_neg (nI_nm (by omega)), if_neg (nI_nm (by omega)), nI_clamp (by omega), w.p 3 (by decide), bs, bs, L2, bs, w.ld 3 (by decide) (show u < eP 3 from hu40), bs, show aI h (p + 1 + 3) u = _ from R.2.2.2.1 u hu40]
          cases e3 : hmA A u with
          | none =>
            rw [ov_n, if_pos rfl, if_pos rfl, bs]
            exact at_th rfl (fun t e9 => by cases e9)
          | some l' =>
            rw [ov_s, if_neg (nI_nm (by have := hm6 e3; omega)), if_neg (by simp), bs, L2, bs, bs]
            exact at_th rfl (fun t e9 => by cases e9; exact hu40)
      · rw [if_neg (show ¬ nI 8 = 5 by decide), if_neg (show ¬ nI 8 = 6 by decide), if_neg (show ¬ nI 8 = 7 by decide), if_pos (show nI 8 = 8 from rfl), q_shadowOfList h _ q, bs]
        rfl
      · rw [if_neg (show ¬ nI 12 = 5 by decide), if_neg (show ¬ nI 12 = 6 by decide), if_neg (show ¬ nI 12 = 7 by decide), if_neg (show ¬ nI 12 = 8 by decide), if_neg (show ¬ (nI 12 = 9 ∨ nI 12 = 10 ∨ nI 12 = 11) by decide), if_pos (show nI 12 = 12 from rfl), show (0 : Int32) = nI 0 from rfl, q_standsAt w R f hl (by decide), bs]
        have et : thN A l c 12 = (if 0 < qS A l then some (qR A l 0) else none) := rfl
        show _ = some (ov ((thN A l c 12).map _))
        rw [et]
        refine at_th ?_ (fun t e9 => ?_)
        · unfold atA
          split <;> rfl
        · split at e9
          · rename_i q9
            cases e9
            exact f.t40 q9
          · cases e9
      · rw [if_neg (show ¬ nI 13 = 5 by decide), if_neg (show ¬ nI 13 = 6 by decide), if_neg (show ¬ nI 13 = 7 by decide), if_neg (show ¬ nI 13 = 8 by decide), if_neg (show ¬ (nI 13 = 9 ∨ nI 13 = 10 ∨ nI 13 = 11) by decide), if_neg (show ¬ nI 13 = 12 by decide), if_pos (show nI 13 = 13 from rfl), w.p 6 (by decide), bs, w.ld 6 (by decide) (show l < eP 6 from hl), bs, show aI h (p + 1 + 6) l = _ from R.2.2.2.2.2.2.1 l hl]
        have et : thN A l c 13 = (if 0 < qS A l then some (qR A l (qS A l - 1)) else none) := rfl
        show _ = some (ov ((thN A l c 13).map _))
        rw [et]
        have eq : f_X4_standsAt h p (nI l) (nI (qS A l) - 1) = some (ov (if 0 < qS A l then some (qR A l (qS A l - 1)) else none)) := by
          cases e9 : qS A l with
          | zero =>
            rw [show nI 0 - 1 = -1 by decide, q_standsAt_m w]
            rfl
          | succ k =>
            rw [nI_pred, q_standsAt w R f hl (by omega)]
            unfold atA
            rw [if_pos (by omega), if_pos (by omega)]
            rfl
        rw [eq, bs]
        refine at_th rfl (fun t e9 => ?_)
        split at e9
        · rename_i q9
          cases e9
          exact f.t40 (by omega)
        · cases e9
end Seen
