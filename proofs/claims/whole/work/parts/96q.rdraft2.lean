/-! THE OTHER ONE: more changes of the draft -/
theorem nI_min {a b : Nat} (h : b ≤ a) : nI a - nI b = nI (a - b) := by
  have e : nI (a - b) + nI b = nI a := by rw [nI_add, Nat.sub_add_cancel h]
  rw [← e]
  exact Int32.add_sub_cancel _ _
section RDraft2
variable {h : AH} {A : AP} {b T Ls : Nat}
theorem rp_F (R : RpR h b 0 A) {i : Nat} (hi : i < 160) (v : Int32) : RpR (sI h b i v) b 0 (seF A i v) := by
  obtain ⟨a1, a2, a3, a4, a5, a6, a7⟩ := R
  have n : ∀ j, 160 ≤ j → aI (sI h b i v) b (0 + j) = aI h b (0 + j) := fun j hj => by rw [sI_I, if_neg (by omega)]
  refine ⟨fun j hj => ?_, fun j hj => ?_, fun j hj => ?_, fun t ht => ?_, fun l k hl hk => ?_, fun l hl => ?_, fun l hl => ?_⟩
  · show _ = if j = i then v else qF A j
    rw [sI_I, Nat.zero_add]
    by_cases q : j = i
    · rw [if_pos ⟨rfl, q⟩, if_pos q]
    · rw [if_neg (fun y => q y.2), if_neg q]
      have := a1 j hj
      rwa [Nat.zero_add] at this
  · rw [n _ (by omega)]; exact a2 j hj
  · rw [n _ (by omega)]; exact a3 j hj
  · rw [n _ (by omega)]; exact a4 t ht
  · rw [n _ (by omega)]; exact a5 l k hl hk
  · rw [n _ (by omega)]; exact a6 l hl
  · rw [n _ (by omega)]; exact a7 l hl
theorem rp_L (R : RpR h b 0 A) {i : Nat} (hi : i < 12) (v : Int32) : RpR (sI h b (160 + i) v) b 0 (seL A i v) := by
  obtain ⟨a1, a2, a3, a4, a5, a6, a7⟩ := R
  have n : ∀ j, j < 160 ∨ 172 ≤ j → aI (sI h b (160 + i) v) b (0 + j) = aI h b (0 + j) := fun j hj => by rw [sI_I, if_neg (by omega)]
  refine ⟨fun j hj => ?_, fun j hj => ?_, fun j hj => ?_, fun t ht => ?_, fun l k hl hk => ?_, fun l hl => ?_, fun l hl => ?_⟩
  · rw [n _ (by omega)]; exact a1 j hj
  · show _ = if j = i then v else qL A j
    rw [sI_I, Nat.zero_add]
    by_cases q : j = i
    · rw [if_pos ⟨rfl, by omega⟩, if_pos q]
    · rw [if_neg (fun y => q (by omega)), if_neg q]
      have := a2 j hj
      rwa [Nat.zero_add] at this
  · rw [n _ (by omega)]; exact a3 j hj
  · rw [n _ (by omega)]; exact a4 t ht
  · rw [n _ (by omega)]; exact a5 l k hl hk
  · rw [n _ (by omega)]; exact a6 l hl
  · rw [n _ (by omega)]; exact a7 l hl
theorem rp_K (R : RpR h b 0 A) {i : Nat} (hi : i < 40) (v : Int32) : RpR (sI h b (172 + i) v) b 0 (seK A i v) := by
  obtain ⟨a1, a2, a3, a4, a5, a6, a7⟩ := R
  have n : ∀ j, j < 172 ∨ 212 ≤ j → aI (sI h b (172 + i) v) b (0 + j) = aI h b (0 + j) := fun j hj => by rw [sI_I, if_neg (by omega)]
  refine ⟨fun j hj => ?_, fun j hj => ?_, fun j hj => ?_, fun t ht => ?_, fun l k hl hk => ?_, fun l hl => ?_, fun l hl => ?_⟩
  · rw [n _ (by omega)]; exact a1 j hj
  · rw [n _ (by omega)]; exact a2 j hj
  · show _ = if j = i then v else qK A j
    rw [sI_I, Nat.zero_add]
    by_cases q : j = i
    · rw [if_pos ⟨rfl, by omega⟩, if_pos q]
    · rw [if_neg (fun y => q (by omega)), if_neg q]
      have := a3 j hj
      rwa [Nat.zero_add] at this
  · rw [n _ (by omega)]; exact a4 t ht
  · rw [n _ (by omega)]; exact a5 l k hl hk
  · rw [n _ (by omega)]; exact a6 l hl
  · rw [n _ (by omega)]; exact a7 l hl
theorem rp_Z (f : WfA A T Ls) (R : RpR h b 0 A) {i : Nat} (hi : i < 6) (v : Nat) : RpR (sI h b (498 + i) (nI v)) b 0 (seZ A i v) := by
  obtain ⟨a1, a2, a3, a4, a5, a6, a7⟩ := R
  have n : ∀ j, j < 498 → aI (sI h b (498 + i) (nI v)) b (0 + j) = aI h b (0 + j) := fun j hj => by rw [sI_I, if_neg (by omega)]
  refine ⟨fun j hj => ?_, fun j hj => ?_, fun j hj => ?_, fun t ht => ?_, fun l k hl hk => ?_, fun l hl => ?_, fun l hl => ?_⟩
  · rw [n _ (by omega)]; exact a1 j hj
  · rw [n _ (by omega)]; exact a2 j hj
  · rw [n _ (by omega)]; exact a3 j hj
  · rw [n _ (by omega)]; exact a4 t ht
  · have hk' : k < qS A l := hk
    have := f.len l
    rw [n _ (by omega)]; exact a5 l k hl hk
  · rw [n _ (by omega)]; exact a6 l hl
  · show _ = nI (if l = i then v else qZ A l)
    rw [sI_I, Nat.zero_add]
    by_cases q : l = i
    · rw [if_pos ⟨rfl, by omega⟩, if_pos q]
    · rw [if_neg (fun y => q (by omega)), if_neg q]
      have := a7 l hl
      rwa [Nat.zero_add] at this
/-! swap -/
theorem rp_exc (R : RpR h 61 0 A) (f : WfA A T Ls) {l k m j : Nat} (hk : k < qS A l) (hj : j < qS A m) (hne : ¬ (l = m ∧ k = j)) : RpR (sI (sI (sI (sI h 61 (252 + 40 * l + k) (nI (qR A m j))) 61 (252 + 40 * m + j) (nI (qR A l k))) 61 (212 + qR A l k) (nI m)) 61 (212 + qR A m j) (nI l)) 61 0 (excA A l k m j) := by
  have hl := (f.l6 hk).2
  have hm := (f.l6 hj).2
  have ll := f.len l
  have lm := f.len m
  have t1 := f.t40 hk
  have t2 := f.t40 hj
  have tu : qR A l k ≠ qR A m j := fun e => hne (f.2.2.2.1 l k m j hk hj e)
  have fe := exc_wf f hk hj
  refine rp_rows (r := excR A l k m j) (s := qS A) R fe (fun i hi => ?_) (fun a i ha hi => ?_) (fun a ha => ?_) (fun a i ha hi => ?_) (fun u hu hno => ?_)
  · rw [sI_I, if_neg (by omega), sI_I, if_neg (by omega), sI_I, if_neg (by omega), sI_I, if_neg (by omega)]
  · have la := f.len a
    rw [sI_I, if_neg (by omega), sI_I, if_neg (by omega)]
    unfold excR
    by_cases c1 : a = l ∧ i = k
    · rw [if_pos c1, sI_I, if_neg (by omega), sI_I, if_pos ⟨rfl, by omega⟩]
    · rw [if_neg c1]
      by_cases c2 : a = m ∧ i = j
      · rw [if_pos c2, sI_I, if_pos ⟨rfl, by omega⟩]
      · rw [if_neg c2, sI_I, if_neg (by omega), sI_I, if_neg (by omega), R.r6 ha hi]
  · rw [sI_I, if_neg (by omega), sI_I, if_neg (by omega), sI_I, if_neg (by omega), sI_I, if_neg (by omega), R.s6 ha]
  · unfold excR
    by_cases c1 : a = l ∧ i = k
    · rw [if_pos c1, sI_I, if_pos ⟨rfl, rfl⟩, c1.1]
    · rw [if_neg c1]
      by_cases c2 : a = m ∧ i = j
      · rw [if_pos c2, sI_I, if_neg (by omega), sI_I, if_pos ⟨rfl, rfl⟩, c2.1]
      · have hi' : i < qS A a := hi
        have d1 : qR A a i ≠ qR A l k := fun e => c1 (f.2.2.2.1 a i l k hi' hk e)
        have d2 : qR A a i ≠ qR A m j := fun e => c2 (f.2.2.2.1 a i m j hi' hj e)
        have t3 := f.t40 hi'
        rw [if_neg c2, sI_I, if_neg (by omega), sI_I, if_neg (by omega), sI_I, if_neg (by omega), sI_I, if_neg (by omega), R.hi f hi']
  · have u1 : u ≠ qR A l k := fun e => by
      refine hno m j hm hj ?_
      unfold excR
      rw [if_neg (fun q => hne ⟨q.1.symm, q.2.symm⟩), if_pos ⟨rfl, rfl⟩, e]
    have u2 : u ≠ qR A m j := fun e => by
      refine hno l k hl hk ?_
      unfold excR
      rw [if_pos ⟨rfl, rfl⟩, e]
    rw [sI_I, if_neg (by omega), sI_I, if_neg (by omega), sI_I, if_neg (by omega), sI_I, if_neg (by omega)]
    refine R.ho hu (fun a i ha hi e => ?_)
    by_cases c1 : a = l ∧ i = k
    · rw [c1.1, c1.2] at e; exact u1 e.symm
    by_cases c2 : a = m ∧ i = j
    · rw [c2.1, c2.2] at e; exact u2 e.symm
    refine hno a i ha hi ?_
    unfold excR
    rw [if_neg c1, if_neg c2]; exact e
/-! turn -/
theorem turn68 {l lo hi : Nat} (hl : l < 6) (hh : hi < 40) : ∀ (m n : Nat) (h : AH) (i : Nat), i + m = hi + 1 → lo ≤ i → m < n → Sh h →
    ∃ h', f_X9_turn_68 53 (nI l) (nI lo) (nI hi) n h (nI i) = some h' ∧ Fg h h' (fun a j => a = 61 ∧ 252 + 40 * l + i ≤ j ∧ j ≤ 252 + 40 * l + hi) ∧ ∀ j, i ≤ j → j ≤ hi → aI h' 61 (252 + 40 * l + j) = aI h 59 (252 + 40 * l + (lo + hi - j)) := by
  intro m
  induction m with
  | zero =>
    intro n h i hi' hlo hn S
    obtain ⟨n, rfl⟩ : ∃ j, n = j + 1 := ⟨n - 1, by omega⟩
    refine ⟨h, ?_, Fg.rf _ _, fun j h1 h2 => by omega⟩
    unfold f_X9_turn_68
    rw [if_pos (nI_lt (by omega) (by omega))]
  | succ m ih =>
    intro n h i hi' hlo hn S
    obtain ⟨n, rfl⟩ : ∃ j, n = j + 1 := ⟨n - 1, by omega⟩
    obtain ⟨h1, eh1⟩ : ∃ z, z = sI h 61 (252 + 40 * l + i) (aI h 59 (252 + 40 * l + (lo + hi - i))) := ⟨_, rfl⟩
    have f1 : Fg h h1 (fun a j => a = 61 ∧ j = 252 + 40 * l + i) := by rw [eh1]; exact Fg.si ⟨rfl, rfl⟩
    have S1 := f1.S S
    obtain ⟨h2, e2, f2, g2⟩ := ih n h1 (i + 1) (by omega) (by omega) (by omega) S1
    refine ⟨h2, ?_, (f1.mono (fun a j q => by omega)).tr (f2.mono (fun a j q => by omega)), fun j h1 h3 => ?_⟩
    · unfold f_X9_turn_68
      rw [if_neg (nI_nlt (by omega) (by omega)), g_53_12 S, bs, g_53_10 S, bs, a252k, nI_add, nI_min (by omega), show 252 + 40 * l + lo + hi - i = 252 + 40 * l + (lo + hi - i) by omega, ld_59 S (by omega), bs, a252k, st_61 S (by omega), bs, ← eh1, nI_1, e2]
    · by_cases q : j = i
      · rw [q, f2.i (by omega), eh1, sI_I, if_pos ⟨rfl, rfl⟩]
      · rw [g2 j (by omega) h3, f1.i (by omega)]
theorem rev_wf (f : WfA A T Ls) {l lo hi : Nat} (hh : hi < qS A l) (hlo : lo ≤ hi) : WfA (revA A l lo hi) T Ls := by
  refine wf_phi f (fun a _ => a) (fun a i => if a = l ∧ lo ≤ i ∧ i ≤ hi then lo + hi - i else i) (fun a i hi' => ?_) (fun a i a' i' h1 h2 e1 e2 => ?_) (fun a ha => f.2.2.2.2.1 a ha)
  · unfold revR
    by_cases c : a = l ∧ lo ≤ i ∧ i ≤ hi
    · rw [if_pos c, if_pos c, c.1]
      exact ⟨by omega, rfl⟩
    · rw [if_neg c, if_neg c]
      exact ⟨hi', rfl⟩
  · have e1 : a = a' := e1
    subst e1
    refine ⟨rfl, ?_⟩
    have e2 : (if a = l ∧ lo ≤ i ∧ i ≤ hi then lo + hi - i else i) = (if a = l ∧ lo ≤ i' ∧ i' ≤ hi then lo + hi - i' else i') := e2
    by_cases c : a = l ∧ lo ≤ i ∧ i ≤ hi
    · rw [if_pos c] at e2
      by_cases c' : a = l ∧ lo ≤ i' ∧ i' ≤ hi
      · rw [if_pos c'] at e2; omega
      · rw [if_neg c'] at e2; omega
    · rw [if_neg c] at e2
      by_cases c' : a = l ∧ lo ≤ i' ∧ i' ≤ hi
      · rw [if_pos c'] at e2; omega
      · rw [if_neg c'] at e2; exact e2
theorem r_rev (S : Sh h) (R : RpR h 61 0 A) (R9 : RpR h 59 0 A) (f : WfA A T Ls) {l lo hi : Nat} (hh : hi < qS A l) (hlo : lo ≤ hi) : ∃ h', f_X9_turn_68 53 (nI l) (nI lo) (nI hi) FU h (nI lo) = some h' ∧ Fg h h' (fun a _ => a = 61) ∧ RpR h' 61 0 (revA A l lo hi) := by
  have hl := (f.l6 hh).2
  have ll := f.len l
  obtain ⟨h1, e1, f1, g1⟩ := turn68 (lo := lo) (hi := hi) hl (by omega) (hi + 1 - lo) FU h lo (by omega) (Nat.le_refl _) (by unfold FU; omega) S
  have fe := rev_wf f hh hlo
  refine ⟨h1, e1, f1.mono (fun a j q => q.1), ?_⟩
  refine rp_rows (r := revR A l lo hi) (s := qS A) R fe (fun i hi => ?_) (fun a i ha hi' => ?_) (fun a ha => ?_) (fun a i ha hi' => ?_) (fun u hu hno => ?_)
  · rw [f1.i (by omega)]
  · have la := f.len a
    unfold revR
    by_cases c : a = l ∧ lo ≤ i ∧ i ≤ hi
    · rw [if_pos c, c.1, g1 i c.2.1 c.2.2, R9.r6 hl (by omega)]
    · rw [if_neg c, f1.i (by omega), R.r6 ha hi']
  · rw [f1.i (by omega), R.s6 ha]
  · have t3 : revR A l lo hi a i < 40 := fe.t40 (l := a) (k := i) hi'
    rw [f1.i (by omega)]
    unfold revR
    by_cases c : a = l ∧ lo ≤ i ∧ i ≤ hi
    · rw [if_pos c, R.hi f (by omega), c.1]
    · rw [if_neg c, R.hi f hi']
  · rw [f1.i (by omega)]
    refine R.ho hu (fun a i ha hi' e => ?_)
    by_cases c : a = l ∧ lo ≤ i ∧ i ≤ hi
    · obtain ⟨rfl, c1, c2⟩ := c
      refine hno a (lo + hi - i) ha (show lo + hi - i < qS A a by omega) ?_
      unfold revR
      rw [if_pos ⟨rfl, by omega, by omega⟩, show lo + hi - (lo + hi - i) = i by omega]; exact e
    · refine hno a i ha hi' ?_
      unfold revR
      rw [if_neg c]; exact e
/-! tails -/
theorem tail105 {l fr o at' M : Nat} (l5 : Int32) (hl : l < 6) (ho : o < 6) (f : WfA A T Ls) (hM : M ≤ qS A o) (h40 : fr + M ≤ 40 + at') : ∀ (m n : Nat) (h : AH) (i : Nat), i + m = M → at' ≤ i → m < n → Sh h → RpR h 59 0 A →
    ∃ h', f_X9_tails_105 53 (nI l) (nI fr) (nI o) (nI at') l5 (nI M) n h (nI i) = some h' ∧ Fg h h' (fun a j => a = 61 ∧ ((252 + 40 * l + fr + i ≤ j + at' ∧ j + at' < 252 + 40 * l + fr + M) ∨ (212 ≤ j ∧ j < 252))) ∧ (∀ j, i ≤ j → j < M → aI h' 61 (252 + 40 * l + (fr + j - at')) = nI (qR A o j)) ∧ (∀ j, i ≤ j → j < M → aI h' 61 (212 + qR A o j) = nI l) ∧ ∀ t, t < 40 → (∀ j, i ≤ j → j < M → qR A o j ≠ t) → aI h' 61 (212 + t) = aI h 61 (212 + t) := by
  intro m
  induction m with
  | zero =>
    intro n h i hi hat hn S R9
    obtain ⟨n, rfl⟩ : ∃ j, n = j + 1 := ⟨n - 1, by omega⟩
    have := f.len o
    refine ⟨h, ?_, Fg.rf _ _, fun j h1 h2 => by omega, fun j h1 h2 => by omega, fun t _ _ => rfl⟩
    unfold f_X9_tails_105
    rw [if_pos (nI_le (by omega) (by omega))]
  | succ m ih =>
    intro n h i hi hat hn S R9
    obtain ⟨n, rfl⟩ : ∃ j, n = j + 1 := ⟨n - 1, by omega⟩
    have lo := f.len o
    have hio : i < qS A o := by omega
    have t3 := f.t40 hio
    obtain ⟨h1, eh1⟩ : ∃ z, z = sI h 61 (252 + 40 * l + fr + i - at') (nI (qR A o i)) := ⟨_, rfl⟩
    have f1 : Fg h h1 (fun a j => a = 61 ∧ j = 252 + 40 * l + fr + i - at') := by rw [eh1]; exact Fg.si ⟨rfl, rfl⟩
    have S1 := f1.S S
    obtain ⟨h2, eh2⟩ : ∃ z, z = sI h1 61 (212 + qR A o i) (nI l) := ⟨_, rfl⟩
    have f2 : Fg h1 h2 (fun a j => a = 61 ∧ j = 212 + qR A o i) := by rw [eh2]; exact Fg.si ⟨rfl, rfl⟩
    have S2 := f2.S S1
    have R91 : RpR h1 59 0 A := f1.R R9 (by omega)
    obtain ⟨h3, e3, f3, g1, g2, g3⟩ := ih n h2 (i + 1) (by omega) (by omega) (by omega) S2 (f2.R R91 (by omega))
    have r0 := R9.r6 ho hio
    have r1 := R91.r6 ho hio
    refine ⟨h3, ?_, ((f1.mono (fun a j q => by omega)).tr (f2.mono (fun a j q => by omega))).tr (f3.mono (fun a j q => by omega)), fun j h1 h4 => ?_, fun j h1 h4 => ?_, fun t ht hno => ?_⟩
    · unfold f_X9_tails_105
      rw [if_neg (nI_ge (by omega) (by omega)), g_53_12 S, bs, g_53_10 S, bs, a252k o i, ld_59 S (by omega), bs, r0, a252k l fr, nI_add, nI_min (by omega), st_61 S (by omega), bs, ← eh1, g_53_12 S1, bs, g_53_10 S1, bs, ld_59 S1 (by omega), bs, r1, a212, st_61 S1 (by omega), bs, ← eh2, nI_1, e3]
    · by_cases q : j = i
      · rw [q, f3.i (by omega), f2.i (by omega), eh1, sI_I, if_pos ⟨rfl, by omega⟩]
      · exact g1 j (by omega) h4
    · by_cases q : j = i
      · rw [q, g3 _ t3 (fun j' h5 h6 e => by
          have := (f.2.2.2.1 o j' o i (by omega) hio e).2
          omega), eh2, sI_I, if_pos ⟨rfl, rfl⟩]
      · exact g2 j (by omega) h4
    · rw [g3 t ht (fun j h5 h6 => hno j (by omega) h6), f2.i (fun q => hno i (Nat.le_refl _) (by omega) (by omega)), f1.i (by omega)]
theorem tail184 {l fr o at' M : Nat} (l6 : Int32) (hl : l < 6) (ho : o < 6) (f : WfA A T Ls) (hM : M ≤ qS A l) (h40 : at' + M ≤ 40 + fr) : ∀ (m n : Nat) (h : AH) (i : Nat), i + m = M → fr ≤ i → m < n → Sh h → RpR h 59 0 A →
    ∃ h', f_X9_tails_184 53 (nI l) (nI fr) (nI o) (nI at') (nI M) l6 n h (nI i) = some h' ∧ Fg h h' (fun a j => a = 61 ∧ ((252 + 40 * o + at' + i ≤ j + fr ∧ j + fr < 252 + 40 * o + at' + M) ∨ (212 ≤ j ∧ j < 252))) ∧ (∀ j, i ≤ j → j < M → aI h' 61 (252 + 40 * o + (at' + j - fr)) = nI (qR A l j)) ∧ (∀ j, i ≤ j → j < M → aI h' 61 (212 + qR A l j) = nI o) ∧ ∀ t, t < 40 → (∀ j, i ≤ j → j < M → qR A l j ≠ t) → aI h' 61 (212 + t) = aI h 61 (212 + t) := by
  intro m
  induction m with
  | zero =>
    intro n h i hi hat hn S R9
    obtain ⟨n, rfl⟩ : ∃ j, n = j + 1 := ⟨n - 1, by omega⟩
    have := f.len l
    refine ⟨h, ?_, Fg.rf _ _, fun j h1 h2 => by omega, fun j h1 h2 => by omega, fun t _ _ => rfl⟩
    unfold f_X9_tails_184
    rw [if_pos (nI_le (by omega) (by omega))]
  | succ m ih =>
    intro n h i hi hat hn S R9
    obtain ⟨n, rfl⟩ : ∃ j, n = j + 1 := ⟨n - 1, by omega⟩
    have lo := f.len l
    have hio : i < qS A l := by omega
    have t3 := f.t40 hio
    obtain ⟨h1, eh1⟩ : ∃ z, z = sI h 61 (252 + 40 * o + at' + i - fr) (nI (qR A l i)) := ⟨_, rfl⟩
    have f1 : Fg h h1 (fun a j => a = 61 ∧ j = 252 + 40 * o + at' + i - fr) := by rw [eh1]; exact Fg.si ⟨rfl, rfl⟩
    have S1 := f1.S S
    obtain ⟨h2, eh2⟩ : ∃ z, z = sI h1 61 (212 + qR A l i) (nI o) := ⟨_, rfl⟩
    have f2 : Fg h1 h2 (fun a j => a = 61 ∧ j = 212 + qR A l i) := by rw [eh2]; exact Fg.si ⟨rfl, rfl⟩
    have S2 := f2.S S1
    have R91 : RpR h1 59 0 A := f1.R R9 (by omega)
    obtain ⟨h3, e3, f3, g1, g2, g3⟩ := ih n h2 (i + 1) (by omega) (by omega) (by omega) S2 (f2.R R91 (by omega))
    have r0 := R9.r6 hl hio
    have r1 := R91.r6 hl hio
    refine ⟨h3, ?_, ((f1.mono (fun a j q => by omega)).tr (f2.mono (fun a j q => by omega))).tr (f3.mono (fun a j q => by omega)), fun j h1 h4 => ?_, fun j h1 h4 => ?_, fun t ht hno => ?_⟩
    · unfold f_X9_tails_184
      rw [if_neg (nI_ge (by omega) (by omega)), g_53_12 S, bs, g_53_10 S, bs, a252k l i, ld_59 S (by omega), bs, r0, a252k o at', nI_add, nI_min (by omega), st_61 S (by omega), bs, ← eh1, g_53_12 S1, bs, g_53_10 S1, bs, ld_59 S1 (by omega), bs, r1, a212, st_61 S1 (by omega), bs, ← eh2, nI_1, e3]
    · by_cases q : j = i
      · rw [q, f3.i (by omega), f2.i (by omega), eh1, sI_I, if_pos ⟨rfl, by omega⟩]
      · exact g1 j (by omega) h4
    · by_cases q : j = i
      · rw [q, g3 _ t3 (fun j' h5 h6 e => by
          have := (f.2.2.2.1 l j' l i (by omega) hio e).2
          omega), eh2, sI_I, if_pos ⟨rfl, rfl⟩]
      · exact g2 j (by omega) h4
    · rw [g3 t ht (fun j h5 h6 => hno j (by omega) h6), f2.i (fun q => hno i (Nat.le_refl _) (by omega) (by omega)), f1.i (by omega)]
end RDraft2
