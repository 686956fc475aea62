/-! insert, whole -/
set_option maxHeartbeats 1000000 in
theorem q_insert {h : AH} {p : Nat} {A : AP} {T Ls t l k : Nat} (w : WPl h p) (R : RepC h p A) (f : WfA A T Ls) (ht : t < T) (hl : l < Ls) (hk : k ≤ qS A l) (hn : hmA A t = none) :
    ∃ h', f_X4_insert h p (nI t) (nI l) (nI k) = some h' ∧ FrI h h' (fun a => p + 4 ≤ a ∧ a ≤ p + 7) ∧ RepC h' p (insA A l k t) ∧ WfA (insA A l k t) T Ls := by
  have hl6 : l < 6 := Nat.lt_of_lt_of_le hl f.2.1
  have ht40 : t < 40 := Nat.lt_of_lt_of_le ht f.1
  have hno : ∀ l k, k < qS A l → qR A l k ≠ t := by
    intro l k hk e
    have := (hm_at f hk).1
    rw [e, hn] at this
    cases this
  have fI := ins_wf f ht hl hk hno
  have hlenI := fI.len l
  have eS1 : insS A l l = qS A l + 1 := if_pos rfl
  rw [show qS (insA A l k t) l = insS A l l from rfl, eS1] at hlenI
  obtain ⟨ln, eln⟩ : ∃ n, n = qS A l := ⟨_, rfl⟩
  rw [← eln] at hk hlenI eS1
  have hs : aI h (p + 1 + 6) l = nI ln := by rw [eln]; exact R.2.2.2.2.2.2.1 l hl6
  unfold f_X4_insert
  rw [if_pos w.1, w.p 6 (by decide), bs, w.ld 6 (by decide) (show l < eP 6 from hl6), bs, hs, if_pos (show nI ln < (40 : Int32) from nI_lt (b := 40) (by omega) (by decide)), bs, w.ld 6 (by decide) (show l < eP 6 from hl6), bs, hs, c40m]
  obtain ⟨h1, e1, f1, g1⟩ := q_ins_loop (p := p) (t9 := nI t) (l9 := nI l) (k := k) hl6 FU ln h (by unfold FU; omega) hk (by omega) w
  have w1 := f1.pl w
  rw [e1, bs, w1.p 5 (by decide), bs, nI_add, w1.st 5 (by decide) (show 40 * l + k < eP 5 by show _ < 240; omega), bs]
  obtain ⟨h2, eh2⟩ : ∃ y, y = sI h1 (p + 1 + 5) (40 * l + k) (nI t) := ⟨_, rfl⟩
  have f2 : FrI h1 h2 (fun a => a = p + 6) := by rw [eh2]; exact FrI.st (by omega)
  have w2 := f2.pl w1
  have hs2 : aI h2 (p + 1 + 6) l = nI ln := by rw [f2.2.2.2.2.2 _ (by omega), f1.2.2.2.2.2 _ (by omega)]; exact hs
  rw [← eh2, w2.p 6 (by decide), bs, w2.ld 6 (by decide) (show l < eP 6 from hl6), bs, hs2, nI_1, w2.st 6 (by decide) (show l < eP 6 from hl6), bs]
  obtain ⟨h3, eh3⟩ : ∃ y, y = sI h2 (p + 1 + 6) l (nI (ln + 1)) := ⟨_, rfl⟩
  have f3 : FrI h2 h3 (fun a => a = p + 7) := by rw [eh3]; exact FrI.st (by omega)
  have w3 := f3.pl w2
  rw [← eh3]
  have r6 : ∀ i, aI h3 (p + 6) i = if i = 40 * l + k then nI t else if 40 * l + k < i ∧ i ≤ 40 * l + ln then aI h (p + 6) (i - 1) else aI h (p + 6) i := by
    intro i
    rw [f3.2.2.2.2.2 _ (by omega), eh2, sI_I, g1 i]
    by_cases c : i = 40 * l + k
    · rw [if_pos ⟨by omega, c⟩, if_pos c]
    · rw [if_neg (fun z => c z.2), if_neg c]
  have hrow : ∀ m i, m < 6 → i < insS A l m → aI h3 (p + 6) (40 * m + i) = nI (insR A l k t m i) := by
    intro m i hm hi
    have hlm := f.len m
    unfold insS at hi
    unfold insR
    rw [r6]
    by_cases hml : m = l
    · subst hml
      rw [if_pos rfl] at hi
      rw [if_pos rfl]
      by_cases c1 : i < k
      · rw [if_neg (by omega), if_neg (by omega), if_pos c1]
        exact R.2.2.2.2.2.1 m i hl6 (by omega)
      · rw [if_neg c1]
        by_cases c2 : i = k
        · rw [if_pos (by omega), if_pos c2]
        · rw [if_neg (by omega), if_pos (by omega), if_neg c2, show 40 * m + i - 1 = 40 * m + (i - 1) by omega]
          exact R.2.2.2.2.2.1 m (i - 1) hl6 (by omega)
    · rw [if_neg hml] at hi
      rw [if_neg hml, if_neg (by omega), if_neg (by omega)]
      exact R.2.2.2.2.2.1 m i hm hi
  have h37 : ∀ m, m < 6 → aI h3 (p + 7) m = nI (insS A l m) := by
    intro m hm
    unfold insS
    rw [eh3, sI_I]
    by_cases c : m = l
    · rw [if_pos ⟨by omega, c⟩, if_pos c, eln]
    · rw [if_neg (fun z => c z.2), if_neg c, f2.2.2.2.2.2 _ (by omega), f1.2.2.2.2.2 _ (by omega)]
      exact R.2.2.2.2.2.2.1 m hm
  obtain ⟨h4, e4, f4, g4, g5⟩ := q_seat (p := p) (l := l) (len := ln + 1) (x := insR A l k t l) (k := k) (h := h3) hl6 (by omega)
    (fun i hi => fI.t40 (l := l) (k := i) (by show i < insS A l l; omega))
    (fun i j hi hj e => (fI.2.2.2.1 l i l j (by show i < insS A l l; omega) (by show j < insS A l l; omega) e).2)
    (by omega) w3 (by rw [h37 l hl6, eS1]) (fun i hi => hrow l i hl6 (by omega))
  rw [e4, bs]
  have f34 : FrI h3 h4 (fun a => p + 4 ≤ a ∧ a ≤ p + 7) := f4.mono (fun a ha => by omega)
  have f04 : FrI h h4 (fun a => p + 4 ≤ a ∧ a ≤ p + 7) := (((f1.mono (fun a ha => by omega)).tr (f2.mono (fun a ha => by omega))).tr (f3.mono (fun a ha => by omega))).tr f34
  have old : ∀ u, aI h3 (p + 4) u = aI h (p + 4) u ∧ aI h3 (p + 5) u = aI h (p + 5) u := fun u => by
    rw [f3.2.2.2.2.2 (p + 4) (by omega), f2.2.2.2.2.2 (p + 4) (by omega), f1.2.2.2.2.2 (p + 4) (by omega), f3.2.2.2.2.2 (p + 5) (by omega), f2.2.2.2.2.2 (p + 5) (by omega), f1.2.2.2.2.2 (p + 5) (by omega)]
    exact ⟨rfl, rfl⟩
  refine ⟨h4, rfl, f04, rep_rows R fI f04 (fun m i hm hi => ?_) (fun m hm => ?_) (fun m i hm hi => ?_) (fun u hu hout => ?_), fI⟩
  · rw [f4.2.2.2.2.2 _ (by omega)]; exact hrow m i hm hi
  · rw [f4.2.2.2.2.2 _ (by omega)]; exact h37 m hm
  · by_cases c : m = l ∧ k ≤ i
    · obtain ⟨rfl, c2⟩ := c
      exact g4 i c2 (by omega)
    · obtain ⟨a1, a2⟩ := g5 (insR A l k t m i) (fun j h1 h2 e => by
        have := fI.2.2.2.1 l j m i (by show j < insS A l l; omega) hi e
        omega)
      rw [a1, a2, (old _).1, (old _).2]
      have e9 : insR A l k t m i = qR A m i ∧ i < qS A m := by
        unfold insS at hi
        unfold insR
        by_cases hm2 : m = l
        · subst hm2
          rw [if_pos rfl, if_pos (by omega)]
          exact ⟨rfl, by omega⟩
        · rw [if_neg hm2] at hi ⊢
          exact ⟨rfl, hi⟩
      rw [e9.1]
      exact home_in R f e9.2
  · obtain ⟨a1, a2⟩ := g5 u (fun j h1 h2 => hout l j (by omega))
    rw [a1, a2, (old _).1, (old _).2]
    refine home_out R hu (fun m i hm hi e => ?_)
    by_cases c : m = l ∧ k ≤ i
    · refine hout l (i + 1) (by rw [eS1]; obtain ⟨rfl, -⟩ := c; omega) ?_
      unfold insR
      rw [if_pos rfl, if_neg (by omega), if_neg (by omega), show i + 1 - 1 = i by omega, ← c.1]
      exact e
    · refine hout m i ?_ ?_
      · unfold insS
        by_cases hm2 : m = l
        · rw [if_pos hm2]
          subst hm2
          omega
        · rw [if_neg hm2]; exact hi
      · unfold insR
        by_cases hm2 : m = l
        · subst hm2
          rw [if_pos rfl, if_pos (by omega)]
          exact e
        · rw [if_neg hm2]
          exact e
