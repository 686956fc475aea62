/-! THE OTHER ONE: looks on the pile; work -/
def fdJ (A : AP) (F : Nat → Int64) (o : Nat) (l : List Nat) : Int64 := l.foldl (fun y d => y + vlG A F o d) 0
section RWork2
variable {h : AH} {B : BK} {A : AP} {b : Nat} {F : Nat → Int64}
theorem vl_c (A : AP) (F : Nat → Int64) (o d : Nat) : vlG A F o (5000 + d) = F d := by
  unfold vlG
  rw [if_pos (by omega), show 5000 + d - 5000 = d by omega]
theorem vl_gi {W : WfB B} (f : WfA A (bT B) (bL B)) {c s : Nat} (hc : c < 258) (hC : isC B A c = true) (hs : s < nsN B c) (h13 : 1 ≤ cdN B c s ∧ cdN B c s ≤ 3) : ∃ i, idS B A c s = [i] ∧ vlG A F (owN c) i = giN B A c s := by
  have how := ow_lt hc
  obtain ⟨l, -, l2, l3⟩ := c_ls W f hc hC
  obtain ⟨-, v2⟩ := ok_giv W hc hs h13
  rcases (show cdN B c s = 1 ∨ cdN B c s = 2 ∨ cdN B c s = 3 by omega) with q | q | q
  · have v3 : vaN B c s < (if c < 240 then 4 else 2) := by omega
    refine ⟨_, by unfold idS; rw [if_pos q], ?_⟩
    unfold giN vlG
    rw [if_pos q]
    by_cases q2 : c < 240
    · rw [if_pos q2] at v3
      rw [if_pos q2, if_pos q2, if_neg (by omega), if_neg (by omega), if_neg (by omega), if_neg (by omega), if_pos (by omega), show 1000 + (4 * owN c + vaN B c s) - 1000 = 4 * owN c + vaN B c s by omega]
    · rw [if_neg q2] at v3
      have := ow6 q2 hc
      rw [if_neg q2, if_neg q2, if_neg (by omega), if_neg (by omega), if_neg (by omega), if_pos (by omega), show 2000 + (2 * owN c + vaN B c s) - 2000 = 2 * owN c + vaN B c s by omega]
  · refine ⟨_, by unfold idS; rw [if_neg (by omega), if_pos q], ?_⟩
    unfold giN vlG
    rw [if_neg (show ¬ cdN B c s = 1 by omega), if_pos q, l3, if_neg (by omega), if_neg (by omega), if_neg (by omega), if_pos (by omega), show 2000 + (2 * l + vaN B c s) - 2000 = 2 * l + vaN B c s by omega]
  · refine ⟨_, by unfold idS; rw [if_neg (by omega), if_neg (by omega), if_pos q], ?_⟩
    unfold giN vlG
    rw [if_neg (show ¬ cdN B c s = 1 by omega), if_neg (show ¬ cdN B c s = 2 by omega), if_pos q, l3]
    by_cases q2 : vaN B c s = 0
    · rw [if_pos q2, if_pos q2, if_neg (by omega), if_neg (by omega), if_pos (by omega)]
    · rw [if_neg q2, if_neg q2, if_neg (by omega), if_pos (by omega), show 4000 + l - 4000 = l by omega]
theorem bd_mm (g : Bool) {x y : Int64} (hx : bdJ x) (hy : bdJ y) : bdJ (mmJ g x y) := by
  unfold mmJ
  split
  · exact bd_mx hx hy
  · exact bd_mn hx hy
theorem bd_fm (g : Bool) (hF : ∀ d, bdJ (F d)) : ∀ (l : List Nat) (x : Int64), bdJ x → bdJ (l.foldl (fun y e => mmJ g y (F e)) x) := by
  intro l
  induction l with
  | nil => intro x hx; exact hx
  | cons d l ih => intro x hx; rw [List.foldl_cons]; exact ih _ (bd_mm g hx (hF d))
theorem fd_map (A : AP) (F : Nat → Int64) (o : Nat) (l : List Nat) : fdJ A F o (l.map (fun d => 5000 + d)) = smN F l := by
  unfold fdJ smN
  rw [List.foldl_map]
  congr 1
  funext y d
  rw [vl_c]
theorem mo_map (A : AP) (F : Nat → Int64) (o k : Nat) (a : Int64) (l : List Nat) : moS k a ((l.map (fun d => 5000 + d)).map (vlG A F o)) = match l with
    | [] => a
    | d :: r => r.foldl (fun y e => mmJ (decide (k = 10)) y (F e)) (F d) := by
  cases l with
  | nil => rfl
  | cons d r =>
    show ((r.map (fun d => 5000 + d)).map (vlG A F o)).foldl (fun y e => mmJ (decide (k = 10)) y e) (vlG A F o (5000 + d)) = _
    rw [vl_c, List.map_map, List.foldl_map]
    show r.foldl (fun y e => mmJ (decide (k = 10)) y ((vlG A F o ∘ fun d => 5000 + d) e)) (F d) = _
    congr 1
    funext y e
    show mmJ _ y (vlG A F o (5000 + e)) = _
    rw [vl_c]
theorem sw_lk (S : Sh h) (W : WfB B) (f : WfA A (bT B) (bL B)) (hF : ∀ d, bdJ (F d)) {c s : Nat} (hc : c < 258) (hC : isC B A c = true) (hs : s < nsN B c) {st : List Int64} (hl : st.length ≤ 8) (sr : StR (aJ h 75) st) (hb : BdS st) (h0 : aI h 53 28 = -1) (h13 : cdN B c s ≤ 13) (ht : tkN (cdN B c s) ≤ st.length) {x33 : Int32} (e33 : x33 = if (idS B A c s) = [0] then 1 else 0) :
    ∃ h' t', swX h (nI st.length) (nI (cdN B c s)) (bV B (kiN c) s) (st.headD 0) (st.tail.headD 0) (nI (idS B A c s).length) (fdJ A F (owN c) (idS B A c s)) (moS (cdN B c s) (st.headD 0) ((idS B A c s).map (vlG A F (owN c)))) x33 = some (t', h') ∧ Fg h h' QK ∧ OutX h' t' (wk1 B A F c s st) := by
  have ne : ∀ j, j < 25 → cdN B c s ≠ j → ¬ nI (cdN B c s) = nI j := fun j hj q e => q ((nI_eq (by omega) (by omega)).mp e)
  unfold swX
  rcases (show cdN B c s = 0 ∨ (1 ≤ cdN B c s ∧ cdN B c s ≤ 3) ∨ (cdN B c s = 4 ∨ cdN B c s = 8) ∨ (cdN B c s = 5 ∨ cdN B c s = 6 ∨ cdN B c s = 7 ∨ cdN B c s = 12 ∨ cdN B c s = 13) ∨ cdN B c s = 9 ∨ (cdN B c s = 10 ∨ cdN B c s = 11) by omega) with q | q | q | q | q | q
  · rw [q, if_pos (show nI 0 = 0 from rfl), g_53_41 S, bs, nI_1]
    have hw : wk1 B A F c s st = psJ (bV B (kiN c) s).toInt64 st := by
      unfold wk1
      rw [if_neg (by omega), if_neg (by omega), if_pos (by omega)]
      congr 1
      unfold giN
      rw [if_neg (by omega), if_neg (by omega), if_neg (by omega)]
    rw [hw]
    obtain ⟨h1, e1, f1, o1⟩ := lay_o S (by omega) sr h0 (bd_32 (bV B (kiN c) s)) (nI (st.length + 1)) rfl
    exact ⟨h1, _, e1, f1, o1⟩
  · obtain ⟨i, ei, ev⟩ := vl_gi (F := F) (W := W) f hc hC hs q
    have hw : wk1 B A F c s st = psJ (giN B A c s) st := by
      unfold wk1
      rw [if_neg (by omega), if_neg (by omega), if_pos (by omega)]
    have hsum : fdJ A F (owN c) (idS B A c s) = giN B A c s := by
      rw [ei]
      show 0 + vlG A F (owN c) i = _
      rw [Int64.zero_add, ev]
    have hor : nI (cdN B c s) = 1 ∨ nI (cdN B c s) = 2 ∨ nI (cdN B c s) = 3 ∨ nI (cdN B c s) = 4 ∨ nI (cdN B c s) = 8 ∨ nI (cdN B c s) = 9 := by
      rcases (show cdN B c s = 1 ∨ cdN B c s = 2 ∨ cdN B c s = 3 by omega) with q | q | q <;> rw [q] <;> decide
    rw [if_neg (show ¬ nI (cdN B c s) = 0 from ne 0 (by decide) (by omega)), if_pos hor, g_53_41 S, bs, hsum, hw, nI_1]
    obtain ⟨h1, e1, f1, o1⟩ := lay_b S (by omega) sr h0 (giN B A c s) (nI (st.length + 1)) rfl
    exact ⟨h1, _, e1, f1, o1⟩
  · have hor : nI (cdN B c s) = 1 ∨ nI (cdN B c s) = 2 ∨ nI (cdN B c s) = 3 ∨ nI (cdN B c s) = 4 ∨ nI (cdN B c s) = 8 ∨ nI (cdN B c s) = 9 := by
      rcases q with q | q <;> rw [q] <;> decide
    have qo : 4 ≤ cdN B c s ∧ cdN B c s ≤ 13 ∧ ¬ (cdN B c s = 9 ∨ cdN B c s = 10 ∨ cdN B c s = 11) := by omega
    obtain ⟨l, l1, -, -⟩ := c_ls W f hc hC
    obtain ⟨d, ed⟩ : ∃ d, seN A c (cdN B c s) (vaN B c s) = some d := by
      unfold seN
      rcases q with q | q
      · rw [if_pos q]; exact ⟨_, rfl⟩
      · rw [if_neg (by omega), l1]
        exact ⟨240 + 3 * l + (vaN B c s - 6), if_pos q⟩
    have eid : idS B A c s = [5000 + d] := by
      unfold idS
      rw [if_neg (by omega), if_neg (by omega), if_neg (by omega), if_neg (by omega), if_pos qo, ed]
      rfl
    have esd : sdS B A c s = [d] := by unfold sdS; rw [if_neg (by omega), if_pos qo, ed]; rfl
    have tk0 : ¬ 0 < tkN (cdN B c s) := by rcases q with q | q <;> rw [q] <;> decide
    have hw : wk1 B A F c s st = psJ (F d) st := by
      unfold wk1
      rw [if_neg (by omega), if_pos qo, esd]
      simp only []
      rw [if_neg tk0]
    have hsum : fdJ A F (owN c) (idS B A c s) = F d := by
      rw [eid]
      show 0 + vlG A F (owN c) (5000 + d) = _
      rw [Int64.zero_add, vl_c]
    rw [if_neg (show ¬ nI (cdN B c s) = 0 from ne 0 (by decide) (by omega)), if_pos hor, g_53_41 S, bs, hsum, hw, nI_1]
    obtain ⟨h1, e1, f1, o1⟩ := lay_b S (by omega) sr h0 (F d) (nI (st.length + 1)) rfl
    exact ⟨h1, _, e1, f1, o1⟩
  · have qo : 4 ≤ cdN B c s ∧ cdN B c s ≤ 13 ∧ ¬ (cdN B c s = 9 ∨ cdN B c s = 10 ∨ cdN B c s = 11) := by omega
    have hno : ¬ (nI (cdN B c s) = 1 ∨ nI (cdN B c s) = 2 ∨ nI (cdN B c s) = 3 ∨ nI (cdN B c s) = 4 ∨ nI (cdN B c s) = 8 ∨ nI (cdN B c s) = 9) := by
      rcases q with q | q | q | q | q <;> rw [q] <;> decide
    have hor : nI (cdN B c s) = 5 ∨ nI (cdN B c s) = 6 ∨ nI (cdN B c s) = 7 ∨ nI (cdN B c s) = 12 ∨ nI (cdN B c s) = 13 := by
      rcases q with q | q | q | q | q <;> rw [q] <;> decide
    have tk1 : tkN (cdN B c s) = 1 := by rcases q with q | q | q | q | q <;> rw [q] <;> rfl
    rw [tk1] at ht
    obtain ⟨a, r, rfl⟩ : ∃ a r, st = a :: r := by
      cases st with
      | nil => simp at ht
      | cons a r => exact ⟨a, r, rfl⟩
    rw [List.length_cons] at hl
    have ba := hb a List.mem_cons_self
    have eid0 : idS B A c s = [idO (seN A c (cdN B c s) (vaN B c s))] := by
      unfold idS
      rw [if_neg (by omega), if_neg (by omega), if_neg (by omega), if_neg (by omega), if_pos qo]
    have esd0 : sdS B A c s = (seN A c (cdN B c s) (vaN B c s)).toList := by unfold sdS; rw [if_neg (by omega), if_pos qo]
    rw [if_neg (show ¬ nI (cdN B c s) = 0 from ne 0 (by decide) (by omega)), if_neg hno, if_pos hor, g_53_41 S, bs]
    cases ed : seN A c (cdN B c s) (vaN B c s) with
    | none =>
      rw [ed] at eid0 esd0
      have eid : idS B A c s = [0] := eid0
      have hw : wk1 B A F c s (a :: r) = psJ a r := by
        unfold wk1
        rw [if_neg (by omega), if_pos qo, esd0, ps_ok ba]
        rfl
      rw [e33, if_pos eid, if_neg (show ¬ (1 : Int32) = 0 by decide), bs, hw, show (a :: r).length = r.length + 1 from rfl, nI_pred]
      obtain ⟨h1, e1, f1, o1⟩ := lay_o S (t := r) (by omega) sr.2 h0 ba (nI (r.length + 1)) rfl
      exact ⟨h1, _, e1, f1, o1⟩
    | some d =>
      rw [ed] at eid0 esd0
      have eid : idS B A c s = [5000 + d] := eid0
      have hw : wk1 B A F c s (a :: r) = psJ (F d) r := by
        unfold wk1
        rw [if_neg (by omega), if_pos qo, esd0]
        show psJ (F d) (if 0 < tkN (cdN B c s) then r else a :: r) = _
        rw [tk1, if_pos (by decide)]
      have hsum : fdJ A F (owN c) (idS B A c s) = F d := by
        rw [eid]
        show 0 + vlG A F (owN c) (5000 + d) = _
        rw [Int64.zero_add, vl_c]
      have n0 : ¬ idS B A c s = [0] := fun e => by
        rw [eid] at e
        have := (List.cons.inj e).1
        omega
      rw [e33, if_neg n0, if_pos rfl, bs, hsum, hw, show (a :: r).length = r.length + 1 from rfl, nI_pred]
      obtain ⟨h1, e1, f1, o1⟩ := lay_o S (t := r) (by omega) sr.2 h0 (hF d) (nI (r.length + 1)) rfl
      exact ⟨h1, _, e1, f1, o1⟩
  · have hor : nI (cdN B c s) = 1 ∨ nI (cdN B c s) = 2 ∨ nI (cdN B c s) = 3 ∨ nI (cdN B c s) = 4 ∨ nI (cdN B c s) = 8 ∨ nI (cdN B c s) = 9 := by rw [q]; decide
    have eid : idS B A c s = (sdS B A c s).map (fun d => 5000 + d) := by
      unfold idS
      rw [if_neg (by omega), if_neg (by omega), if_neg (by omega), if_pos (by omega)]
    have hw : wk1 B A F c s st = psJ (smN F (sdS B A c s)) st := by
      unfold wk1
      rw [if_pos (by omega), if_pos q]
    rw [if_neg (show ¬ nI (cdN B c s) = 0 from ne 0 (by decide) (by omega)), if_pos hor, g_53_41 S, bs, eid, fd_map, hw, nI_1]
    obtain ⟨h1, e1, f1, o1⟩ := lay_b S (by omega) sr h0 (smN F (sdS B A c s)) (nI (st.length + 1)) rfl
    exact ⟨h1, _, e1, f1, o1⟩
  · have hno : ¬ (nI (cdN B c s) = 1 ∨ nI (cdN B c s) = 2 ∨ nI (cdN B c s) = 3 ∨ nI (cdN B c s) = 4 ∨ nI (cdN B c s) = 8 ∨ nI (cdN B c s) = 9) := by
      rcases q with q | q <;> rw [q] <;> decide
    have hno2 : ¬ (nI (cdN B c s) = 5 ∨ nI (cdN B c s) = 6 ∨ nI (cdN B c s) = 7 ∨ nI (cdN B c s) = 12 ∨ nI (cdN B c s) = 13) := by
      rcases q with q | q <;> rw [q] <;> decide
    have hor : nI (cdN B c s) = 10 ∨ nI (cdN B c s) = 11 := by
      rcases q with q | q <;> rw [q] <;> decide
    have tk1 : tkN (cdN B c s) = 1 := by rcases q with q | q <;> rw [q] <;> rfl
    rw [tk1] at ht
    obtain ⟨a, r, rfl⟩ : ∃ a r, st = a :: r := by
      cases st with
      | nil => simp at ht
      | cons a r => exact ⟨a, r, rfl⟩
    rw [List.length_cons] at hl
    have ba := hb a List.mem_cons_self
    have eid : idS B A c s = (sdS B A c s).map (fun d => 5000 + d) := by
      unfold idS
      rw [if_neg (by omega), if_neg (by omega), if_neg (by omega), if_pos (by omega)]
    have hlen := id_len (B := B) f c s
    rw [if_neg (show ¬ nI (cdN B c s) = 0 from ne 0 (by decide) (by omega)), if_neg hno, if_neg hno2, if_pos hor, g_53_41 S, bs]
    rw [eid] at hlen ⊢
    rw [mo_map]
    cases es : sdS B A c s with
    | nil =>
      have hw : wk1 B A F c s (a :: r) = psJ a r := by
        unfold wk1
        rw [if_pos (by omega), if_neg (by omega), es, ps_ok ba]
      rw [if_pos (show nI ((([] : List Nat).map (fun d => 5000 + d)).length) = 0 from rfl), bs, hw, show (a :: r).length = r.length + 1 from rfl, nI_pred]
      obtain ⟨h1, e1, f1, o1⟩ := lay_o S (t := r) (by omega) sr.2 h0 ba (nI (r.length + 1)) rfl
      exact ⟨h1, _, e1, f1, o1⟩
    | cons d u =>
      rw [es] at hlen
      have hw : wk1 B A F c s (a :: r) = psJ (u.foldl (fun y e => mmJ (decide (cdN B c s = 10)) y (F e)) (F d)) r := by
        unfold wk1
        rw [if_pos (by omega), if_neg (by omega), es]
        rfl
      rw [if_neg (nI_ne0 (by simp) (by omega)), bs, hw, show (a :: r).length = r.length + 1 from rfl, nI_pred]
      obtain ⟨h1, e1, f1, o1⟩ := lay_o S (t := r) (by omega) sr.2 h0 (bd_fm (decide (cdN B c s = 10)) hF u (F d) (hF d)) (nI (r.length + 1)) rfl
      exact ⟨h1, _, e1, f1, o1⟩
end RWork2
