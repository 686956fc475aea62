/-! insert, whole -/
theorem RepC.fr {h h' : AH} {p : Nat} {A : AP} {S : Nat → Prop} (R : RepC h p A) (f : FrI h h' S) (hS : ∀ a, p < a → a ≤ p + 8 → ¬ S a) : RepC h' p A := by
  have e : ∀ j, j < 8 → aI h' (p + 1 + j) = aI h (p + 1 + j) := fun j hj => f.2.2.2.2.2 _ (hS _ (by omega) (by omega))
  obtain ⟨r1, r2, r3, r4, r5, r6, r7, r8⟩ := R
  refine ⟨fun i hi => ?_, fun i hi => ?_, fun i hi => ?_, fun i hi => ?_, fun i hi => ?_, fun l k hl hk => ?_, fun l hl => ?_, fun l hl => ?_⟩
  · rw [show aI h' (p + 1) = aI h (p + 1) from e 0 (by decide)]; exact r1 i hi
  · rw [show aI h' (p + 2) = aI h (p + 2) from e 1 (by decide)]; exact r2 i hi
  · rw [show aI h' (p + 3) = aI h (p + 3) from e 2 (by decide)]; exact r3 i hi
  · rw [show aI h' (p + 4) = aI h (p + 4) from e 3 (by decide)]; exact r4 i hi
  · rw [show aI h' (p + 5) = aI h (p + 5) from e 4 (by decide)]; exact r5 i hi
  · rw [show aI h' (p + 6) = aI h (p + 6) from e 5 (by decide)]; exact r6 l k hl hk
  · rw [show aI h' (p + 7) = aI h (p + 7) from e 6 (by decide)]; exact r7 l hl
  · rw [show aI h' (p + 8) = aI h (p + 8) from e 7 (by decide)]; exact r8 l hl
set_option maxHeartbeats 1000000 in
theorem q_insert {h : AH} {p : Nat} {A : AP} {T Ls t l k : Nat} (w : WPl h p) (R : RepC h p A) (f : WfA A T Ls) (ht : t < T) (hl : l < Ls) (hk : k ≤ (qR A l).length) (hn : hmA A t = none) :
    ∃ h', f_X4_insert h p (nI t) (nI l) (nI k) = some h' ∧ FrI h h' (fun a => p < a ∧ a ≤ p + 8) ∧ RepC h' p (insA A l k t) ∧ WfA (insA A l k t) T Ls := by
  have hl6 : l < 6 := Nat.lt_of_lt_of_le hl f.2.1
  have ht40 : t < 40 := Nat.lt_of_lt_of_le ht f.1
  have hno : ∀ m, t ∉ qR A m := by
    intro m hm
    rw [hm_of f hm] at hn
    cases hn
  have fI := ins_wf f ht hl hk hno
  have hlenI := fI.len l
  rw [insA, setR_at, ins_len hk] at hlenI
  obtain ⟨ln, eln⟩ : ∃ n, n = (qR A l).length := ⟨_, rfl⟩
  rw [← eln] at hk hlenI
  have hs : aI h (p + 1 + 6) l = nI ln := by rw [eln]; exact R.2.2.2.2.2.2.1 l hl6
  unfold f_X4_insert
  rw [if_pos w.1, w.p 6 (by decide), bs, w.ld 6 (by decide) (show l < eP 6 from hl6), bs, hs, if_pos (show nI ln < (40 : Int32) from nI_lt (b := 40) (by omega) (by decide)), bs, w.ld 6 (by decide) (show l < eP 6 from hl6), bs, hs, c40m]
  obtain ⟨h1, e1, f1, g1⟩ := q_ins_loop (p := p) (t9 := nI t) (l9 := nI l) (k := k) hl6 FU ln h (by unfold FU; omega) hk (by omega) w
  have w1 := f1.pl w
  rw [e1, bs, w1.p 5 (by decide), bs, nI_add, w1.st 5 (by decide) (show 40 * l + k < eP 5 by show _ < 240; omega), bs]
  obtain ⟨h2, eh2⟩ : ∃ y, y = sI h1 (p + 1 + 5) (40 * l + k) (nI t) := ⟨_, rfl⟩
  have f2 : FrI h1 h2 (fun a => a = p + 6) := by rw [eh2]; exact FrI.st (by omega)
  have w2 := f2.pl w1
  have hs2 : aI h2 (p + 1 + 6) l = nI ln := by rw [f2.2.2.2.2.2 _ (by omega), f1.2.2.2.2.2 _ (by omega)]; exact hs
  rw [← eh2, w2.p 6 (by decide), bs, w2.ld 6 (by decide) (show l < eP 6 from hl6), bs, hs2, nI_1, w2.st 6 (by decide) (show l < eP 6 from hl6), bs]
  obtain ⟨h3, eh3⟩ : ∃ y, y = sI h2 (p + 1 + 6) l (nI (ln + 1)) := ⟨_, rfl⟩
  have f3 : FrI h2 h3 (fun a => a = p + 7) := by rw [eh3]; exact FrI.st (by omega)
  have w3 := f3.pl w2
  rw [← eh3]
  obtain ⟨xs, exs⟩ : ∃ y, y = (qR A l).take k ++ t :: (qR A l).drop k := ⟨_, rfl⟩
  have hxl : xs.length = ln + 1 := by rw [exs, ins_len (by omega), eln]
  have hRl : qR (insA A l k t) l = xs := by rw [insA, setR_at, exs]
  have hxd : xs.Nodup := by rw [← hRl]; exact fI.2.2.2.1 l
  have hxm : ∀ u ∈ xs, u < T := by rw [← hRl]; exact fI.2.2.1 l
  have r6 : ∀ i, aI h3 (p + 6) i = if i = 40 * l + k then nI t else if 40 * l + k < i ∧ i ≤ 40 * l + ln then aI h (p + 6) (i - 1) else aI h (p + 6) i := by
    intro i
    rw [f3.2.2.2.2.2 _ (by omega), eh2, sI_I, g1 i]
    by_cases c : i = 40 * l + k
    · rw [if_pos ⟨by omega, c⟩, if_pos c]
    · rw [if_neg (fun z => c z.2), if_neg c]
  have hrow : ∀ i (hi : i < xs.length), aI h3 (p + 6) (40 * l + i) = nI (xs[i]) := by
    intro i hi
    have e9 : xs[i] = ((qR A l).take k ++ t :: (qR A l).drop k)[i]'(by rw [← exs]; exact hi) := by simp [exs]
    rw [r6, e9, ins_at (by omega)]
    rw [hxl] at hi
    by_cases c1 : i < k
    · rw [if_neg (by omega), if_neg (by omega), dif_pos c1]
      exact R.2.2.2.2.2.1 l i hl6 (by omega)
    · rw [dif_neg c1]
      by_cases c2 : i = k
      · rw [if_pos (by omega), dif_pos c2]
      · rw [if_neg (by omega), if_pos (by omega), dif_neg c2, show 40 * l + i - 1 = 40 * l + (i - 1) by omega]
        exact R.2.2.2.2.2.1 l (i - 1) hl6 (by omega)
  have hs3 : aI h3 (p + 7) l = nI (ln + 1) := by rw [eh3, show p + 7 = p + 1 + 6 by omega, aI_st_eq]
  obtain ⟨h4, e4, f4, g4, g5⟩ := q_seat (p := p) (l := l) (len := ln + 1) (x := fun i => xs.getD i 0) (k := k) (h := h3) hl6 (by omega)
    (fun i hi => by
      have hi' : i < xs.length := by omega
      have e : xs.getD i 0 = xs[i] := by simp [List.getD_eq_getElem?_getD, hi']
      show xs.getD i 0 < 40
      rw [e]
      exact Nat.lt_of_lt_of_le (hxm _ (List.getElem_mem hi')) f.1)
    (fun i j hi hj e => by
      have hi' : i < xs.length := by omega
      have hj' : j < xs.length := by omega
      have ei : xs.getD i 0 = xs[i] := by simp [List.getD_eq_getElem?_getD, hi']
      have ej : xs.getD j 0 = xs[j] := by simp [List.getD_eq_getElem?_getD, hj']
      have e' : xs[i] = xs[j] := by rw [← ei, ← ej]; exact e
      have := idx_at hxd hi'
      rw [e', idx_at hxd hj'] at this
      exact this.symm) (by omega) w3 hs3
    (fun i hi => by
      have hi' : i < xs.length := by omega
      have ei : xs.getD i 0 = xs[i] := by simp [List.getD_eq_getElem?_getD, hi']
      show _ = nI (xs.getD i 0)
      rw [ei]
      exact hrow i hi')
  refine ⟨h4, by rw [e4, bs], ?_, ?_, fI⟩
  · exact (((f1.mono (fun a h => by omega)).tr (f2.mono (fun a h => by omega))).tr (f3.mono (fun a h => by omega))).tr (f4.mono (fun a h => by omega))
  · have o13 : ∀ a, a ≠ p + 6 → a ≠ p + 7 → aI h3 a = aI h a := fun a h1 h2 => by rw [f3.2.2.2.2.2 a h2, f2.2.2.2.2.2 a h1, f1.2.2.2.2.2 a h1]
    have gd : ∀ i (hi : i < xs.length), xs.getD i 0 = xs[i] := fun i hi => by simp [List.getD_eq_getElem?_getD, hi]
    obtain ⟨q4, q5⟩ := home_of (h := h4) (p := p) fI (fun m i hm hi => by
      by_cases e : m = l
      · subst e
        have hi' : i < xs.length := by rw [← hRl]; exact hi
        have ee : (qR (insA A m k t) m)[i] = xs[i] := by simp [hRl]
        rw [ee]
        by_cases c : k ≤ i
        · have := g4 i c (by omega)
          simp only [gd i hi'] at this
          exact this
        · have hni : ∀ j, k ≤ j → j < ln + 1 → xs.getD j 0 ≠ xs[i] := fun j h1 h2 e => by
            have hj' : j < xs.length := by omega
            rw [gd j hj'] at e
            have h5 := idx_at hxd hj'
            rw [e, idx_at hxd hi'] at h5
            omega
          obtain ⟨a1, a2⟩ := g5 (xs[i]) hni
          rw [a1, a2, o13 _ (by omega) (by omega), o13 _ (by omega) (by omega)]
          have e9 : xs[i] = (qR A m)[i]'(by omega) := by
            have : xs[i] = ((qR A m).take k ++ t :: (qR A m).drop k)[i]'(by rw [← exs]; exact hi') := by simp [exs]
            rw [this, ins_at (by omega), dif_pos (by omega)]
          rw [e9]
          exact home_in R f (by omega)
      · have hRm : qR (insA A l k t) m = qR A m := by rw [insA, setR_ne A _ e]
        have hi' : i < (qR A m).length := by rw [← hRm]; exact hi
        have ee : (qR (insA A l k t) m)[i] = (qR A m)[i] := by simp [hRm]
        rw [ee]
        have hni : ∀ j, k ≤ j → j < ln + 1 → xs.getD j 0 ≠ (qR A m)[i] := fun j h1 h2 e2 => by
          have hj' : j < xs.length := by omega
          rw [gd j hj'] at e2
          have hmem : (qR A m)[i] ∈ xs := by rw [← e2]; exact List.getElem_mem hj'
          rw [exs] at hmem
          rcases ins_mem.mp hmem with h5 | h5
          · exact hno m (h5 ▸ List.getElem_mem hi')
          · exact e (f.2.2.2.2.1 m l _ (List.getElem_mem hi') h5)
        obtain ⟨a1, a2⟩ := g5 _ hni
        rw [a1, a2, o13 _ (by omega) (by omega), o13 _ (by omega) (by omega)]
        exact home_in R f hi') (fun u hu hnu => by
      have hni : ∀ j, k ≤ j → j < ln + 1 → xs.getD j 0 ≠ u := fun j h1 h2 e2 => by
        have hj' : j < xs.length := by omega
        rw [gd j hj'] at e2
        exact hnu l hl6 (by rw [hRl, ← e2]; exact List.getElem_mem hj')
      obtain ⟨a1, a2⟩ := g5 u hni
      rw [a1, a2, o13 _ (by omega) (by omega), o13 _ (by omega) (by omega)]
      refine home_out R hu (fun m hm hmem => hnu m hm ?_)
      by_cases e : m = l
      · subst e
        rw [hRl, exs]
        exact ins_mem.mpr (Or.inr hmem)
      · rw [insA, setR_ne A _ e]; exact hmem)
    have o4 : ∀ a, a ≠ p + 4 → a ≠ p + 5 → aI h4 a = aI h3 a := fun a h1 h2 => f4.2.2.2.2.2 a (by omega)
    refine ⟨fun i hi => ?_, fun i hi => ?_, fun i hi => ?_, q4, q5, fun m i hm hi => ?_, fun m hm => ?_, fun m hm => ?_⟩
    · rw [o4 _ (by omega) (by omega), o13 _ (by omega) (by omega)]; exact R.1 i hi
    · rw [o4 _ (by omega) (by omega), o13 _ (by omega) (by omega)]; exact R.2.1 i hi
    · rw [o4 _ (by omega) (by omega), o13 _ (by omega) (by omega)]; exact R.2.2.1 i hi
    · rw [o4 _ (by omega) (by omega)]
      by_cases e : m = l
      · subst e
        have hi' : i < xs.length := by rw [← hRl]; exact hi
        rw [hrow i hi']
        simp [hRl]
      · have hRm : qR (insA A l k t) m = qR A m := by rw [insA, setR_ne A _ e]
        have hi' : i < (qR A m).length := by rw [← hRm]; exact hi
        have hi40 := f.len m
        rw [r6, if_neg (by omega), if_neg (by omega), R.2.2.2.2.2.1 m i hm hi']
        simp [hRm]
    · rw [o4 _ (by omega) (by omega)]
      by_cases e : m = l
      · subst e
        rw [hs3, hRl, hxl]
      · have hRm : qR (insA A l k t) m = qR A m := by rw [insA, setR_ne A _ e]
        rw [hRm, eh3, show p + 7 = p + 1 + 6 by omega, aI_st_ne (by omega), f2.2.2.2.2.2 _ (by omega), f1.2.2.2.2.2 _ (by omega)]
        exact R.2.2.2.2.2.2.1 m hm
    · rw [o4 _ (by omega) (by omega), o13 _ (by omega) (by omega)]; exact R.2.2.2.2.2.2.2 m hm
