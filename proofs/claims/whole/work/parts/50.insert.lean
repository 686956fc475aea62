/-! insert -/
def setR (A : AP) (l : Nat) (xs : List Nat) : AP := (A.1, A.2.1, A.2.2.1, va_up A.2.2.2.1 l xs, A.2.2.2.2)
theorem setR_at (A : AP) (l : Nat) (xs : List Nat) : qR (setR A l xs) l = xs := va_up_self _ _ _
theorem setR_ne (A : AP) {l k : Nat} (xs : List Nat) (h : k ≠ l) : qR (setR A l xs) k = qR A k := va_up_ne _ _ h
theorem idx_at {xs : List Nat} (hd : xs.Nodup) {k : Nat} (hk : k < xs.length) : xs.idxOf (xs[k]) = k := by
  induction xs generalizing k with
  | nil => exact absurd hk (Nat.not_lt_zero _)
  | cons a xs ih =>
    cases k with
    | zero => simp
    | succ k =>
      have hk' : k < xs.length := by simpa using hk
      have hne : a ≠ xs[k] := fun e => (List.nodup_cons.mp hd).1 (e ▸ List.getElem_mem hk')
      rw [List.getElem_cons_succ, List.idxOf_cons]
      have hb : (a == xs[k]) = false := by simpa using hne
      rw [hb, cond_false, ih (List.nodup_cons.mp hd).2 hk']
/-- homes and places, out of the rows -/
theorem home_of {h : AH} {p : Nat} {A : AP} {T Ls : Nat} (f : WfA A T Ls) (hin : ∀ l k, l < 6 → ∀ hk : k < (qR A l).length, aI h (p + 4) ((qR A l)[k]) = nI l ∧ aI h (p + 5) ((qR A l)[k]) = nI k) (hout : ∀ t, t < 40 → (∀ l, l < 6 → t ∉ qR A l) → aI h (p + 4) t = -1 ∧ aI h (p + 5) t = -1) : (∀ t, t < 40 → aI h (p + 4) t = ov (hmA A t)) ∧ ∀ t, t < 40 → aI h (p + 5) t = ov (spA A t) := by
  have key : ∀ t, t < 40 → aI h (p + 4) t = ov (hmA A t) ∧ aI h (p + 5) t = ov (spA A t) := by
    intro t ht
    cases e : hmA A t with
    | none =>
      obtain ⟨a1, a2⟩ := hout t ht (fun l hl => hm_none e hl)
      have e3 : spA A t = none := by simp [spA, e]
      rw [a1, a2, e3]
      exact ⟨rfl, rfl⟩
    | some l =>
      obtain ⟨hl, hm⟩ := hm_lt e
      obtain ⟨k, hk, ek⟩ := List.getElem_of_mem hm
      obtain ⟨a1, a2⟩ := hin l k hl hk
      rw [ek] at a1 a2
      have e3 : spA A t = some k := by
        simp only [spA, e]
        rw [← ek, idx_at (f.2.2.2.1 l) hk]
      rw [a1, a2, e3]
      exact ⟨rfl, rfl⟩
  exact ⟨fun t ht => (key t ht).1, fun t ht => (key t ht).2⟩
theorem home_in {h : AH} {p : Nat} {A : AP} {T Ls : Nat} (R : RepC h p A) (f : WfA A T Ls) {l k : Nat} (hk : k < (qR A l).length) : aI h (p + 4) ((qR A l)[k]) = nI l ∧ aI h (p + 5) ((qR A l)[k]) = nI k := by
  have hm : (qR A l)[k] ∈ qR A l := List.getElem_mem hk
  have ht : (qR A l)[k] < 40 := Nat.lt_of_lt_of_le (f.2.2.1 l _ hm) f.1
  have e := hm_of f hm
  have e3 : spA A ((qR A l)[k]) = some k := by
    simp only [spA, e]
    rw [idx_at (f.2.2.2.1 l) hk]
  rw [R.2.2.2.1 _ ht, R.2.2.2.2.1 _ ht, e, e3]
  exact ⟨rfl, rfl⟩
theorem home_out {h : AH} {p : Nat} {A : AP} (R : RepC h p A) {t : Nat} (ht : t < 40) (hn : ∀ l, l < 6 → t ∉ qR A l) : aI h (p + 4) t = -1 ∧ aI h (p + 5) t = -1 := by
  have e : hmA A t = none := List.find?_eq_none.mpr (fun l hl => by simpa using hn l (List.mem_range.mp hl))
  have e3 : spA A t = none := by simp [spA, e]
  rw [R.2.2.2.1 t ht, R.2.2.2.2.1 t ht, e, e3]
  exact ⟨rfl, rfl⟩
theorem c40m (l : Nat) : 40 * nI l = nI (40 * l) := by rw [show (40 : Int32) = nI 40 from rfl, pk_mul]
theorem q_ins_loop {p l k : Nat} {t9 l9 : Int32} (hl : l < 6) : ∀ (n q : Nat) (h : AH), q - k < n → k ≤ q → q < 40 → WPl h p →
    ∃ h', f_X4_insert_26 p t9 l9 (nI k) (nI (40 * l)) n h (nI q) = some h' ∧ FrI h h' (fun a => a = p + 6) ∧ ∀ i, aI h' (p + 6) i = if 40 * l + k < i ∧ i ≤ 40 * l + q then aI h (p + 6) (i - 1) else aI h (p + 6) i := by
  intro n
  induction n with
  | zero => intro q h hn; omega
  | succ n ih =>
    intro q h hn hk hq w
    unfold f_X4_insert_26
    by_cases hc : q ≤ k
    · rw [if_pos (nI_le hc (by omega))]
      refine ⟨h, rfl, FrI.rf h _, fun i => ?_⟩
      rw [if_neg (by omega)]
    · obtain ⟨r, rfl⟩ : ∃ r, q = r + 1 := ⟨q - 1, by omega⟩
      have e1 : nI (40 * l) + nI (r + 1) - 1 = nI (40 * l + r) := by rw [nI_add, ← Nat.add_assoc, nI_pred]
      rw [if_neg (nI_ge (by omega) (by omega)), w.p 5 (by decide), bs, bs, e1, w.ld 5 (by decide) (show 40 * l + r < eP 5 by show _ < 240; omega), bs, nI_add, w.st 5 (by decide) (show 40 * l + (r + 1) < eP 5 by show _ < 240; omega), bs, pk_m1]
      obtain ⟨h2, eh2⟩ : ∃ y, y = sI h (p + 1 + 5) (40 * l + (r + 1)) (aI h (p + 1 + 5) (40 * l + r)) := ⟨_, rfl⟩
      have f2 : FrI h h2 (fun a => a = p + 6) := by
        rw [eh2]
        exact FrI.st (by omega)
      have k6 : ∀ i, aI h2 (p + 6) i = if i = 40 * l + (r + 1) then aI h (p + 6) (40 * l + r) else aI h (p + 6) i := fun i => by
        rw [eh2, sI_I]
        by_cases e : i = 40 * l + (r + 1)
        · rw [if_pos ⟨by omega, e⟩, if_pos e, show p + 1 + 5 = p + 6 by omega]
        · rw [if_neg (fun z => e z.2), if_neg e]
      rw [← eh2]
      obtain ⟨h', e3, f3, g3⟩ := ih r h2 (by omega) (by omega) (by omega) (f2.pl w)
      refine ⟨h', e3, f2.tr f3, fun i => ?_⟩
      rw [g3 i]
      by_cases c1 : 40 * l + k < i ∧ i ≤ 40 * l + r
      · rw [if_pos c1, if_pos (by omega), k6, if_neg (by omega)]
      · rw [if_neg c1, k6]
        by_cases c2 : i = 40 * l + (r + 1)
        · rw [if_pos c2, if_pos (by omega), c2]
          rfl
        · rw [if_neg c2, if_neg (by omega)]
def insA (A : AP) (l k t : Nat) : AP := setR A l ((qR A l).take k ++ t :: (qR A l).drop k)
theorem ins_len {xs : List Nat} {k t : Nat} (hk : k ≤ xs.length) : (xs.take k ++ t :: xs.drop k).length = xs.length + 1 := by
  simp
  omega
theorem ins_at {xs : List Nat} {k t : Nat} (hk : k ≤ xs.length) {i : Nat} (hi : i < (xs.take k ++ t :: xs.drop k).length) : (xs.take k ++ t :: xs.drop k)[i] = if h1 : i < k then xs[i]'(by omega) else if h2 : i = k then t else xs[i - 1]'(by rw [ins_len hk] at hi; omega) := by
  have hlt : (xs.take k).length = k := by simp; omega
  by_cases h1 : i < k
  · rw [dif_pos h1, List.getElem_append_left (by omega), List.getElem_take]
  · rw [dif_neg h1, List.getElem_append_right (by omega)]
    by_cases h2 : i = k
    · subst h2
      rw [dif_pos rfl]
      simp [hlt]
    · rw [dif_neg h2]
      obtain ⟨d, hd⟩ : ∃ d, i - (xs.take k).length = d + 1 := ⟨i - k - 1, by omega⟩
      simp only [hd, List.getElem_cons_succ, List.getElem_drop]
      congr 1
      omega
theorem ins_mem {xs : List Nat} {k t u : Nat} : u ∈ (xs.take k ++ t :: xs.drop k) ↔ u = t ∨ u ∈ xs := by
  constructor
  · intro h
    rcases List.mem_append.mp h with h | h
    · exact Or.inr (List.mem_of_mem_take h)
    · rcases List.mem_cons.mp h with h | h
      · exact Or.inl h
      · exact Or.inr (List.mem_of_mem_drop h)
  · intro h
    rcases h with h | h
    · subst h; simp
    · rw [← List.take_append_drop k xs] at h
      rcases List.mem_append.mp h with h | h
      · exact List.mem_append_left _ h
      · exact List.mem_append_right _ (List.mem_cons_of_mem _ h)
theorem ins_nodup {xs : List Nat} {k t : Nat} (hd : xs.Nodup) (ht : t ∉ xs) : (xs.take k ++ t :: xs.drop k).Nodup := by
  have h1 : (t :: (xs.take k ++ xs.drop k)).Nodup := by
    rw [List.take_append_drop]
    exact List.nodup_cons.mpr ⟨ht, hd⟩
  exact (List.perm_middle.nodup_iff).mpr h1
theorem ins_wf {A : AP} {T Ls l k t : Nat} (f : WfA A T Ls) (ht : t < T) (hl : l < Ls) (hk : k ≤ (qR A l).length) (hn : ∀ l, t ∉ qR A l) : WfA (insA A l k t) T Ls := by
  have hR : ∀ m u, u ∈ qR (insA A l k t) m → (m = l ∧ u = t) ∨ u ∈ qR A m := by
    intro m u hu
    by_cases hm : m = l
    · subst hm
      rw [insA, setR_at] at hu
      rcases ins_mem.mp hu with h | h
      · exact Or.inl ⟨rfl, h⟩
      · exact Or.inr h
    · rw [insA, setR_ne A _ hm] at hu
      exact Or.inr hu
  refine ⟨f.1, f.2.1, fun m u hu => ?_, fun m => ?_, fun m m' u h1 h2 => ?_, fun m hm => ?_, fun m => ?_, f.2.2.2.2.2.2.2⟩
  · rcases hR m u hu with ⟨-, h⟩ | h
    · rw [h]; exact ht
    · exact f.2.2.1 m u h
  · by_cases hm : m = l
    · subst hm
      rw [insA, setR_at]
      exact ins_nodup (f.2.2.2.1 m) (hn m)
    · rw [insA, setR_ne A _ hm]
      exact f.2.2.2.1 m
  · rcases hR m u h1 with ⟨a1, b1⟩ | a1 <;> rcases hR m' u h2 with ⟨a2, b2⟩ | a2
    · rw [a1, a2]
    · exact absurd (b1 ▸ a2) (hn m')
    · exact absurd (b2 ▸ a1) (hn m)
    · exact f.2.2.2.2.1 m m' u a1 a2
  · rw [insA, setR_ne A _ (by omega)]
    exact f.2.2.2.2.2.1 m hm
  · have h1 := f.2.2.2.2.2.2.1 m
    show qZ A m ≤ _
    by_cases hm : m = l
    · subst hm
      rw [insA, setR_at, ins_len hk]
      omega
    · rw [insA, setR_ne A _ hm]
      exact h1
