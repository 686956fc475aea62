/-! THE OTHER ONE: work -/
def QS (a i : Nat) : Prop := a = 75 ∨ (a = 53 ∧ (i = 28 ∨ i = 29))
theorem QK_S {a i : Nat} (q : QK a i) : QS a i := by unfold QK at q; unfold QS; omega
section RWork3
variable {h : AH} {B : BK} {A : AP} {b : Nat} {F : Nat → Int64}
theorem Ck.qs {h' : AH} (x : Ck h B A b F) (hb : Bx b) (f : Fg h h' QS) : Ck h' B A b F := by
  refine ⟨x.1.fg f (fun q => by unfold QS at q; omega) (fun q => by unfold QS at q; omega) (fun i q => by unfold QS at q; omega) (fun i q => by unfold QS at q; omega) (fun i q => by unfold QS at q; omega) (fun i q => by unfold QS at q; unfold Bx at hb; omega), fun d hd q => ?_, x.2.2⟩
  rw [f.j (by unfold QS; omega)]
  exact x.2.1 d hd q
theorem LkR.qs {h' : AH} {L : List Nat} (x : LkR h L) (f : Fg h h' QS) : LkR h' L := ⟨by rw [f.i (by unfold QS; omega)]; exact x.1, x.2.1, fun i hi => by rw [f.i (by unfold QS; omega)]; exact x.2.2 i hi⟩
theorem idL_at (c n : Nat) : ∀ m, n + 1 + m ≤ 24 → ∀ i (hi : i < (idS B A c n).length), (idL B A c (n + 1 + m))[(idL B A c n).length + i]? = some (idS B A c n)[i] := by
  intro m
  induction m with
  | zero =>
    intro _ i hi
    rw [Nat.add_zero, idL_s, List.getElem?_append_right (by omega), show (idL B A c n).length + i - (idL B A c n).length = i by omega, List.getElem?_eq_getElem hi]
  | succ m ih =>
    intro hm i hi
    have h1 := ih (by omega) i hi
    rw [show n + 1 + (m + 1) = (n + 1 + m) + 1 by omega, idL_s]
    have hlt : (idL B A c n).length + i < (idL B A c (n + 1 + m)).length := by
      rcases Nat.lt_or_ge ((idL B A c n).length + i) (idL B A c (n + 1 + m)).length with q | q
      · exact q
      · rw [List.getElem?_eq_none q] at h1; cases h1
    rw [List.getElem?_append_left hlt]
    exact h1
set_option maxHeartbeats 1000000 in
theorem w26s (W : WfB B) (hb : Bx b) (f : WfA A (bT B) (bL B)) {c s : Nat} (hc : c < 258) (hC : isC B A c = true) (hs : s < nsN B c) (x : Ck h B A b F) (lk : LkR h (idL B A c (nsN B c))) {st : List Int64} (e : wkR B A F c s = .ok st) (hl : st.length ≤ 8) (sr : StR (aJ h 75) st) (h0 : aI h 53 28 = -1) (n : Nat) :
    ∃ h' t', f_X9_work_26 53 b (nI c) (nI (kiN c)) (nI (owN c)) (n + 1) h (nI st.length) (nI (idL B A c s).length) (nI s) = f_X9_work_26 53 b (nI c) (nI (kiN c)) (nI (owN c)) n h' t' (nI (idL B A c (s + 1)).length) (nI (s + 1)) ∧ Fg h h' QS ∧ OutX h' t' (wk1 B A F c s st) ∧ aI h' 53 29 = nI s := by
  have S := x.1.1
  have h24 := n24 W c
  have k9 := ki9 (c := c)
  have how := ow_lt hc
  have h25 : cdN B c s < 25 := (ok_at W hc hs).c
  obtain ⟨l, l1, l2, l3⟩ := c_ls W f hc hC
  obtain ⟨i1, i2⟩ := wkR_len W f hc hC s (by omega) st e
  have hok := (W.2.2 (kiN c) ki9).2.1 s hs
  have ht : tkN (cdN B c s) ≤ st.length := by rw [i1]; exact hok.2.1
  obtain ⟨h1, eh1⟩ : ∃ z, z = sI h 53 29 (nI s) := ⟨_, rfl⟩
  have f1 : Fg h h1 QS := by rw [eh1]; exact Fg.si (Or.inr ⟨rfl, Or.inr rfl⟩)
  have x1 := x.qs hb f1
  have S1 := x1.1.1
  have lk1 := lk.qs f1
  have sr1 : StR (aJ h1 75) st := by rw [eh1]; exact sr
  have h01 : aI h1 53 28 = -1 := by rw [eh1, sI_I, if_neg (by omega)]; exact h0
  have h29 : aI h1 53 29 = nI s := by rw [eh1, sI_I, if_pos ⟨rfl, rfl⟩]
  have RB1 := x1.1.2.1
  have lc : aI h1 57 (24 * kiN c + s) = nI (cdN B c s) := (RB1.2.2.2 _ _ ki9 hs).1
  have lv : aI h1 58 (24 * kiN c + s) = bV B (kiN c) s := (RB1.2.2.2 _ _ ki9 hs).2
  have ea : (if nI st.length ≤ 0 then some (0 : Int64) else Option.bind (gP h1 9 53 41) fun x16 => Option.bind (ldJ h1 x16 (nI st.length - 1)) fun x17 => some x17) = some (st.headD 0) := by
    cases st with
    | nil => rfl
    | cons a r => rw [if_neg (nI_nle (by simp) (by omega)), g_53_41 S1, bs, show (a :: r).length = r.length + 1 from rfl, nI_pred, ld_75 S1 (by simp at hl; omega), bs, sr1.1]; rfl
  have eb : (if nI st.length ≤ 1 then some (0 : Int64) else Option.bind (gP h1 9 53 41) fun x19 => Option.bind (ldJ h1 x19 (nI st.length - 2)) fun x20 => some x20) = some (st.tail.headD 0) := by
    cases st with
    | nil => rfl
    | cons a r =>
      cases r with
      | nil => rfl
      | cons y t =>
        rw [if_neg (show ¬ nI (a :: y :: t).length ≤ 1 from nI_ge (a := 1) (by simp) (by omega)), g_53_41 S1, bs, show (a :: y :: t).length = t.length + 2 from rfl, show nI (t.length + 2) - 2 = nI t.length from pk_sub (a := t.length + 2) (b := 2) (by omega), ld_75 S1 (by simp at hl; omega), bs, sr1.2.1]
        rfl
  have el : (if 240 ≤ nI c then some (nI (owN c)) else Option.bind (ldI h1 b (212 + nI (owN c))) fun x22 => some x22) = some (nI l) := by
    unfold lsN at l1
    by_cases q : c < 240
    · rw [if_pos q] at l1
      rw [if_neg (show ¬ (240 : Int32) ≤ nI c from nI_ge (b := 240) q (by decide)), x1.1.2.2.2.hm x1.1.2.2.1 (ow40 q), bs, l1, ov_s]
    · rw [if_neg q] at l1
      cases l1
      rw [if_pos (show (240 : Int32) ≤ nI c from nI_le (a := 240) (by omega) (by omega))]
  have elen : (if nI (cdN B c s) < 9 then if nI (cdN B c s) < 1 then some (0 : Int32) else if 13 < nI (cdN B c s) then some 0 else some 1 else if 11 < nI (cdN B c s) then if nI (cdN B c s) < 1 then some 0 else if 13 < nI (cdN B c s) then some 0 else some 1 else Option.bind (ldI h1 b (492 + nI l)) fun x24 => some x24) = some (nI (idS B A c s).length) := by
    rcases (show cdN B c s = 0 ∨ (1 ≤ cdN B c s ∧ cdN B c s ≤ 8) ∨ (cdN B c s = 9 ∨ cdN B c s = 10 ∨ cdN B c s = 11) ∨ (cdN B c s = 12 ∨ cdN B c s = 13) ∨ 14 ≤ cdN B c s by omega) with q | q | q | q | q
    · have : idS B A c s = [] := by unfold idS; rw [if_neg (by omega), if_neg (by omega), if_neg (by omega), if_neg (by omega), if_neg (by omega)]
      rw [this, q, if_pos (show nI 0 < 9 by decide), if_pos (show nI 0 < 1 by decide)]
      rfl
    · have : (idS B A c s).length = 1 := by
        unfold idS
        by_cases q1 : cdN B c s = 1
        · rw [if_pos q1]; rfl
        · by_cases q2 : cdN B c s = 2
          · rw [if_neg q1, if_pos q2]; rfl
          · by_cases q3 : cdN B c s = 3
            · rw [if_neg q1, if_neg q2, if_pos q3]; rfl
            · rw [if_neg q1, if_neg q2, if_neg q3, if_neg (by omega), if_pos (by omega)]; rfl
      rw [this, if_pos (show nI (cdN B c s) < 9 from nI_lt (b := 9) (by omega) (by decide)), if_neg (show ¬ nI (cdN B c s) < 1 from nI_nlt (b := 1) (by omega) (by omega)), if_neg (show ¬ (13 : Int32) < nI (cdN B c s) from nI_nlt (a := 13) (by omega) (by decide))]
      rfl
    · have : (idS B A c s).length = qS A l := by
        unfold idS
        rw [if_neg (by omega), if_neg (by omega), if_neg (by omega), if_pos q]
        unfold sdS
        rw [if_pos q, l3]
        simp
      rw [this, if_neg (show ¬ nI (cdN B c s) < 9 from nI_nlt (b := 9) (by omega) (by omega)), if_neg (show ¬ (11 : Int32) < nI (cdN B c s) from nI_nlt (a := 11) (by omega) (by decide)), x1.1.2.2.2.sz x1.1.2.2.1 l2, bs]
    · have : (idS B A c s).length = 1 := by
        unfold idS
        rw [if_neg (by omega), if_neg (by omega), if_neg (by omega), if_neg (by omega), if_pos (by omega)]
        rfl
      rw [this, if_neg (show ¬ nI (cdN B c s) < 9 from nI_nlt (b := 9) (by omega) (by omega)), if_pos (show (11 : Int32) < nI (cdN B c s) from nI_lt (a := 11) (by omega) (by omega)), if_neg (show ¬ nI (cdN B c s) < 1 from nI_nlt (b := 1) (by omega) (by omega)), if_neg (show ¬ (13 : Int32) < nI (cdN B c s) from nI_nlt (a := 13) (by omega) (by decide))]
      rfl
    · have : idS B A c s = [] := by unfold idS; rw [if_neg (by omega), if_neg (by omega), if_neg (by omega), if_neg (by omega), if_neg (by omega)]
      rw [this, if_neg (show ¬ nI (cdN B c s) < 9 from nI_nlt (b := 9) (by omega) (by omega)), if_pos (show (11 : Int32) < nI (cdN B c s) from nI_lt (a := 11) (by omega) (by omega)), if_neg (show ¬ nI (cdN B c s) < 1 from nI_nlt (b := 1) (by omega) (by omega)), if_pos (show (13 : Int32) < nI (cdN B c s) from nI_lt (a := 13) (by omega) (by omega))]
      rfl
  have hat : ∀ i (hi : i < (idS B A c s).length), aI h1 69 ((idL B A c s).length + i) = nI (idS B A c s)[i] := fun i hi => by
    have g := idL_at (B := B) (A := A) c s (nsN B c - (s + 1)) (by omega) i hi
    rw [show s + 1 + (nsN B c - (s + 1)) = nsN B c by omega] at g
    obtain ⟨q1, q2⟩ := List.getElem?_eq_some_iff.mp g
    rw [lk1.2.2 _ q1, q2]
  have hlen1 := idL_len (B := B) f c s
  have hlen2 := id_len (B := B) f c s
  have ew := w197_0 W f x1 h25 how (l := idS B A c s) (id_ok (W := W) f hc hC hs) hat (by omega) (nI c) (nI (kiN c)) (nI st.length) (nI s) (bV B (kiN c) s) (st.headD 0) (st.tail.headD 0) (st.headD 0)
  have e33 : (if nI (idS B A c s).length ≤ 0 then some (0 : Int32) else Option.bind (gP h1 9 53 33) fun x34 => Option.bind (ldI h1 x34 (nI (idL B A c s).length)) fun x35 => if x35 = 0 then some (1 : Int32) else some 0) = some (if 0 < (idS B A c s).length ∧ (idS B A c s).head? = some 0 then 1 else 0) := by
    cases ei : idS B A c s with
    | nil => rfl
    | cons i r =>
      have q1 : aI h1 69 (idL B A c s).length = nI i := by
        have := hat 0 (by rw [ei]; simp)
        rw [Nat.add_zero] at this
        rw [this]
        congr 1
        simp [ei]
      have hi : i < 5258 := by
        rcases id_ok (W := W) f hc hC hs i (by rw [ei]; exact List.mem_cons_self) with q | q | q | q | q | q <;> omega
      rw [ei] at hlen2
      rw [if_neg (nI_nle (by simp) (by omega)), g_53_33 S1, bs, ld_69 S1 (by omega), bs, q1]
      by_cases q : i = 0
      · rw [q, if_pos (show nI 0 = 0 from rfl)]; simp
      · rw [if_neg (nI_ne0 (by omega) (by omega))]; simp [q]
  have hu : f_X9_work_26 53 b (nI c) (nI (kiN c)) (nI (owN c)) (n + 1) h (nI st.length) (nI (idL B A c s).length) (nI s) = Option.bind (swX h1 (nI st.length) (nI (cdN B c s)) (bV B (kiN c) s) (st.headD 0) (st.tail.headD 0) (nI (idS B A c s).length) (fdJ A F (owN c) (idS B A c s)) (moS (cdN B c s) (st.headD 0) ((idS B A c s).map (vlG A F (owN c)))) (if 0 < (idS B A c s).length ∧ (idS B A c s).head? = some 0 then 1 else 0)) fun w => match w with
      | (x36, h37) => f_X9_work_26 53 b (nI c) (nI (kiN c)) (nI (owN c)) n h37 x36 (nI (idL B A c (s + 1)).length) (nI (s + 1)) := by
    conv => lhs; unfold f_X9_work_26
    have hl1 : nI (idL B A c s).length + nI (idS B A c s).length = nI (idL B A c (s + 1)).length := by rw [nI_add, idL_s, List.length_append]
    rw [g_53_7 S, bs, ld_56 S ki9, bs, x.1.2.1.2.2.1 _ ki9, if_neg (nI_ge (show s < bN B (kiN c) from hs) (by unfold nsN at h24; omega)), gi_53 S, bs, h0, if_pos rfl, pi_53 S, bs, ← eh1, g_53_8 S1, bs, m24, ld_57 S1 (by omega), bs, lc, g_53_9 S1, bs, ld_58 S1 (by omega), bs, lv, ea, bs, eb, bs, el, bs, elen, bs, ew, bs]
    simp only []
    rw [e33, bs, hl1, nI_1 s]
    rfl
  rw [hu]
  by_cases q13 : cdN B c s ≤ 13
  · have e33' : (if 0 < (idS B A c s).length ∧ (idS B A c s).head? = some 0 then (1 : Int32) else 0) = if idS B A c s = [0] then 1 else 0 := by
      cases ei : idS B A c s with
      | nil => simp
      | cons i r =>
        by_cases q : i = 0
        · subst q
          have hr : r = [] := by
            unfold idS at ei
            split at ei
            · exact (List.cons.inj ei).2.symm
            · split at ei
              · exact (List.cons.inj ei).2.symm
              · split at ei
                · exact (List.cons.inj ei).2.symm
                · split at ei
                  · have h0m : (0 : Nat) ∈ List.map (fun d => 5000 + d) (sdS B A c s) := by rw [ei]; exact List.mem_cons_self
                    obtain ⟨d, -, hd⟩ := List.mem_map.mp h0m
                    omega
                  · split at ei
                    · exact (List.cons.inj ei).2.symm
                    · cases ei
          rw [hr]
          simp
        · simp [q]
    obtain ⟨h2, t2, e2, f2, o2⟩ := sw_lk (F := F) S1 W f x.2.2.2 hc hC hs hl sr1 i2 h01 q13 ht (x33 := if 0 < (idS B A c s).length ∧ (idS B A c s).head? = some 0 then 1 else 0) e33'
    rw [e2, bs]
    exact ⟨h2, t2, rfl, f1.tr (f2.mono (fun a i q => QK_S q)), o2, by rw [f2.i (by unfold QK; omega)]; exact h29⟩
  · obtain ⟨h2, t2, e2, f2, o2⟩ := sw_rk S1 hl sr1 i2 h01 (k := cdN B c s) (by omega) ht (bV B (kiN c) s) (nI (idS B A c s).length) (if 0 < (idS B A c s).length ∧ (idS B A c s).head? = some 0 then 1 else 0) (fdJ A F (owN c) (idS B A c s)) (moS (cdN B c s) (st.headD 0) ((idS B A c s).map (vlG A F (owN c))))
    rw [e2, bs]
    refine ⟨h2, t2, rfl, f1.tr (f2.mono (fun a i q => QK_S q)), ?_, by rw [f2.i (by unfold QK; omega)]; exact h29⟩
    have : wk1 B A F c s st = rkS (cdN B c s) st := by
      unfold wk1
      rw [if_neg (by omega), if_neg (by omega), if_neg (by omega)]
    rw [this]
    exact o2
end RWork3
