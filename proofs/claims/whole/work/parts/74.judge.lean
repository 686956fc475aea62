/-! the Judge: touched cells, the fresh numbers -/
section Judge1
variable {h : AH} {B : BK} {P A : AP} {N F : Nat → Int64} {T Ls : Nat}
theorem sd_giv {c s : Nat} (qa : ¬ (cdN B c s = 9 ∨ cdN B c s = 10 ∨ cdN B c s = 11)) (qo : ¬ (4 ≤ cdN B c s ∧ cdN B c s ≤ 13 ∧ ¬ (cdN B c s = 9 ∨ cdN B c s = 10 ∨ cdN B c s = 11))) : sdS B A c s = [] := by
  unfold sdS
  rw [if_neg qa, if_neg qo]
theorem q_givenDiffers (W : WfB B) (x : Cj h B P A N F) (fP : WfA P T Ls) (fA : WfA A T Ls) {c s : Nat} (hc : c < 258) (hP : isC B P c = true) (hA : isC B A c = true) (hs : s < nsN B c) (qa : ¬ (cdN B c s = 9 ∨ cdN B c s = 10 ∨ cdN B c s = 11)) (qo : ¬ (4 ≤ cdN B c s ∧ cdN B c s ≤ 13 ∧ ¬ (cdN B c s = 9 ∨ cdN B c s = 10 ∨ cdN B c s = 11))) : f_X1_givenDiffers h 30 (nI c) (nI (cdN B c s)) (bV B (kiN c) s) = some (bI (dfS B P A N F c s)) := by
  have S := x.1
  have w7 := S_7 S
  have w16 := S_16 S
  have h25 : cdN B c s < 25 := (ok_at W hc hs).c
  obtain ⟨lp, p1, p2, p3⟩ := c_ls W fP hc hP
  obtain ⟨la, a1, a2, a3⟩ := c_ls W fA hc hA
  have how := ow_lt hc
  have hd : dfS B P A N F c s = ((decide (cdN B c s = 2 ∨ cdN B c s = 3) && decide (lp ≠ la)) || (decide (1 ≤ cdN B c s ∧ cdN B c s ≤ 3) && decide (giN B P c s ≠ giN B A c s))) := by
    unfold dfS
    rw [sd_giv qa qo, sd_giv qa qo, p3, a3]
    simp
  unfold f_X1_givenDiffers
  rw [hd, if_pos (k_30 S), q_ownerOf h hc, bs, x.b, bs, q_listOf w16 x.2.2.1 hc, bs, x.a, bs, q_listOf w7 x.2.2.2.1 hc, bs, p1, a1, ov_s, ov_s]
  by_cases q3 : 1 ≤ cdN B c s ∧ cdN B c s ≤ 3
  · obtain ⟨v1, v2⟩ := ok_giv W hc hs q3
    rw [v1]
    rcases v2 with ⟨k1, v3⟩ | ⟨k2, v3, v4⟩ | ⟨k3, v3⟩
    · have g1 : ∀ X : AP, giN B X c s = (if c < 240 then (qF X (4 * owN c + vaN B c s)).toInt64 else (qL X (2 * owN c + vaN B c s)).toInt64) := fun X => by unfold giN; rw [if_pos k1]
      rw [g1 P, g1 A, k1, if_pos (show nI 1 = 1 from rfl), q_isOfThing h hc, bs]
      by_cases q2 : c < 240
      · rw [if_pos q2] at v3
        rw [if_pos q2, if_pos q2, if_pos q2, if_neg (by decide), q_factDiffers x how v3, bs, bs, bz_b, bs]
        congr 1
        simp [i64_ne]
      · rw [if_neg q2] at v3
        rw [if_neg q2, if_neg q2, if_neg q2, if_pos rfl, q_listFactDiffers x (ow6 q2 hc) v3, bs, bs, bz_b, bs]
        congr 1
        simp [i64_ne]
    · have g1 : ∀ X : AP, giN B X c s = (qL X (2 * lsD X c + vaN B c s)).toInt64 := fun X => by unfold giN; rw [if_neg (by omega), if_pos k2]
      rw [g1 P, g1 A, p3, a3, k2, if_neg (show ¬ nI 2 = 1 by decide), if_pos (show nI 2 = 2 from rfl)]
      by_cases q : lp = la
      · subst q
        rw [if_pos rfl, q_listFactDiffers x p2 v4, bs]
        by_cases q4 : qL P (2 * lp + vaN B c s) = qL A (2 * lp + vaN B c s)
        · simp [q4, bI, bs, bz0]
        · have q5 := i64_ne.mpr q4
          simp [q4, q5, bI, bs, bz1]
      · rw [if_neg (fun e => q ((nI_eq (by omega) (by omega)).mp e))]
        simp [q, bI, bs, bz1]
    · have g1 : ∀ X : AP, giN B X c s = (if vaN B c s = 0 then (ov (spA X (owN c))).toInt64 else (nI (qS X (lsD X c))).toInt64) := fun X => by unfold giN; rw [if_neg (by omega), if_neg (by omega), if_pos k3]
      rw [g1 P, g1 A, p3, a3, k3, if_neg (show ¬ nI 3 = 1 by decide), if_neg (show ¬ nI 3 = 2 by decide), if_pos (show nI 3 = 3 from rfl)]
      by_cases q : lp = la
      · subst q
        rw [if_pos rfl]
        by_cases q2 : vaN B c s = 0
        · rw [q2, if_pos (show nI 0 = 0 from rfl), if_pos rfl, if_pos rfl, bs, w16.p 4 (by decide), bs, w16.ld 4 (by decide) (show owN c < eP 4 from how), bs, show aI h (16 + 1 + 4) (owN c) = _ from x.2.2.1.2.2.2.2.1 _ how, bs, w7.p 4 (by decide), bs, w7.ld 4 (by decide) (show owN c < eP 4 from how), bs, show aI h (7 + 1 + 4) (owN c) = _ from x.2.2.2.1.2.2.2.2.1 _ how]
          by_cases q4 : ov (spA P (owN c)) = ov (spA A (owN c))
          · simp [q4, bI, bs, bz0]
          · have q5 := i64_ne.mpr q4
            simp [q4, q5, bI, bs, bz1]
        · rw [if_neg (show ¬ nI (vaN B c s) = 0 from nI_ne0 (by omega) (by omega)), if_neg q2, if_neg q2, bs, w16.p 6 (by decide), bs, w16.ld 6 (by decide) (show lp < eP 6 from p2), bs, show aI h (16 + 1 + 6) lp = _ from x.2.2.1.2.2.2.2.2.2.1 lp p2, bs, w7.p 6 (by decide), bs, w7.ld 6 (by decide) (show lp < eP 6 from p2), bs, show aI h (7 + 1 + 6) lp = _ from x.2.2.2.1.2.2.2.2.2.2.1 lp p2]
          by_cases q4 : nI (qS P lp) = nI (qS A lp)
          · simp [q4, bI, bs, bz0]
          · have q5 := i64_ne.mpr q4
            simp [q4, q5, bI, bs, bz1]
      · rw [if_neg (fun e => q ((nI_eq (by omega) (by omega)).mp e))]
        simp [q, bI, bs, bz1]
  · have n1 : ¬ nI (cdN B c s) = 1 := fun e => q3 (by have := (nI_eq (b := 1) (by omega) (by decide)).mp e; omega)
    have n2 : ¬ nI (cdN B c s) = 2 := fun e => q3 (by have := (nI_eq (b := 2) (by omega) (by decide)).mp e; omega)
    have n3 : ¬ nI (cdN B c s) = 3 := fun e => q3 (by have := (nI_eq (b := 3) (by omega) (by decide)).mp e; omega)
    have n4 : ¬ (cdN B c s = 2 ∨ cdN B c s = 3) := by omega
    rw [if_neg n1, if_neg n2, if_neg n3]
    simp [q3, n4, bI]
theorem tch39 (W : WfB B) (x : Cj h B P A N F) (fP : WfA P T Ls) (fA : WfA A T Ls) {c : Nat} (hc : c < 258) (hP : isC B P c = true) (hA : isC B A c = true) : ∀ (m n s : Nat), s + m = nsN B c → m < n →
    (f_X1_isTouched_39 30 (nI c) (nI (nsN B c)) n h (nI s) = some (.inr ()) ∧ ∀ j, s ≤ j → j < nsN B c → dfS B P A N F c j = false) ∨ (f_X1_isTouched_39 30 (nI c) (nI (nsN B c)) n h (nI s) = some (.inl 1) ∧ ∃ j, j < nsN B c ∧ dfS B P A N F c j = true) := by
  have h24 := n24 W c
  have S := x.1
  intro m
  induction m with
  | zero =>
    intro n s hk hn
    obtain ⟨n, rfl⟩ : ∃ j, n = j + 1 := ⟨n - 1, by omega⟩
    refine Or.inl ⟨?_, fun j h1 h2 => by omega⟩
    unfold f_X1_isTouched_39
    rw [if_pos (nI_le (by omega) (by omega))]
  | succ m ih =>
    intro n s hk hn
    obtain ⟨n, rfl⟩ : ∃ j, n = j + 1 := ⟨n - 1, by omega⟩
    have hs : s < nsN B c := by omega
    have h25 : cdN B c s < 25 := (ok_at W hc hs).c
    have hu : f_X1_isTouched_39 30 (nI c) (nI (nsN B c)) (n + 1) h (nI s) = if bI (dfS B P A N F c s) = 0 then f_X1_isTouched_39 30 (nI c) (nI (nsN B c)) n h (nI (s + 1)) else some (.inl 1) := by
      conv => lhs; unfold f_X1_isTouched_39
      have hco : f_X0_codeOf h 1 (nI c) (nI s) = some (nI (cdN B c s)) := q_codeOf S W x.2.1 hc hs
      rw [if_neg (nI_ge hs (by omega)), g_30_0 S, bs, hco, bs, bs, q_valueOf S W x.2.1 hc hs, bs, q_isOverAll h h25, bs, q_isOverOne h h25, nI_1]
      by_cases qa : cdN B c s = 9 ∨ cdN B c s = 10 ∨ cdN B c s = 11
      · rw [if_pos qa, if_neg (by decide), q_allDiffer W x fP fA hc hs qa, bs, bs]
      · rw [if_neg qa, if_pos rfl, bs]
        by_cases qo : 4 ≤ cdN B c s ∧ cdN B c s ≤ 13 ∧ ¬ (cdN B c s = 9 ∨ cdN B c s = 10 ∨ cdN B c s = 11)
        · rw [if_pos qo, if_neg (by decide), q_oneDiffers W x fP fA hc hs qo, bs, bs]
        · rw [if_neg qo, if_pos rfl, q_givenDiffers W x fP fA hc hP hA hs qa qo, bs, bs]
    rw [hu]
    cases e : dfS B P A N F c s with
    | false =>
      rw [if_pos (by decide)]
      rcases ih n (s + 1) (by omega) (by omega) with ⟨e1, g⟩ | ⟨e1, g⟩
      · refine Or.inl ⟨e1, fun j h1 h2 => ?_⟩
        rcases Nat.lt_or_ge s j with q | q
        · exact g j q h2
        · rw [show j = s by omega]; exact e
      · exact Or.inr ⟨e1, g⟩
    | true =>
      rw [if_neg (by decide)]
      exact Or.inr ⟨rfl, s, hs, e⟩
theorem fz_if (X : AP) (c : Nat) : (if c < 240 ∧ fzA X (owN c) = true then (1 : Int32) else 0) = bI (fzC X c) := by
  unfold fzC bI
  congr 1
  simp
theorem q_isTouched (W : WfB B) (x : Cj h B P A N F) (fP : WfA P T Ls) (fA : WfA A T Ls) {c : Nat} (hc : c < 258) (hA : isC B A c = true) : f_X1_isTouched h 30 (nI c) = some (bI (tcG B P A N F c)) := by
  have S := x.1
  have h24 := n24 W c
  unfold f_X1_isTouched tcG
  rw [if_pos (k_30 S), g_30_0 S, bs, x.b, bs, q_isCell S W x.2.1 (S_16 S) x.2.2.1 hc, bs]
  cases e : isC B P c with
  | false => rw [if_pos (by decide)]; rfl
  | true =>
    rw [if_neg (by decide), bs, q_isFrozenCell (S_16 S) x.2.2.1 fP hc, bs, fz_if]
    cases e2 : fzC P c with
    | true => rw [if_neg (by decide)]; rfl
    | false =>
      rw [if_pos (by decide), bs, q_stepsOf S x.2.1 hc, bs, show nI (bN B (kiN c)) = nI (nsN B c) from rfl, show (0 : Int32) = nI 0 from rfl]
      rcases tch39 W x fP fA hc e hA (nsN B c) FU 0 (by omega) (by unfold FU; omega) with ⟨e1, g⟩ | ⟨e1, j, g1, g2⟩
      · have : (List.range (nsN B c)).any (dfS B P A N F c) = false := by
          rw [List.any_eq_false]
          intro j hj
          simp [g j (by omega) (List.mem_range.mp hj)]
        rw [e1, bs, this]
        rfl
      · have : (List.range (nsN B c)).any (dfS B P A N F c) = true := by
          rw [List.any_eq_true]
          exact ⟨j, List.mem_range.mpr g1, g2⟩
        rw [e1, bs, this]
        rfl
theorem Cj.fr {h' : AH} {Q : Nat → Prop} (x : Cj h B P A N F) (f : Fr h h' Q) (hQ : ∀ a, Q a → 26 ≤ a ∧ a ≠ 30 ∧ a ≠ 33) : Cj h' B P A N F := by
  obtain ⟨S, R, RP, RA, ⟨e1, e2, e3⟩, eN, eF⟩ := x
  have n : ∀ a, a < 26 → ¬ Q a := fun a ha q => by have := hQ a q; omega
  have n30 : ¬ Q 30 := fun q => by have := hQ 30 q; omega
  have n33 : ¬ Q 33 := fun q => by have := hQ 33 q; omega
  refine ⟨f.S S, ?_, f.R RP (fun a h1 h2 => n a (by omega)), f.R RA (fun a h1 h2 => n a (by omega)), ⟨by rw [f.p n30]; exact e1, by rw [f.p n30]; exact e2, by rw [f.p n30]; exact e3⟩, fun d hd => by rw [f.j (n 25 (by decide))]; exact eN d hd, fun d hd => by rw [f.j n33]; exact eF d hd⟩
  unfold RepB
  rw [f.i (n 1 (by decide)), f.i (n 2 (by decide)), f.i (n 3 (by decide)), f.i (n 4 (by decide))]
  exact R
end Judge1
