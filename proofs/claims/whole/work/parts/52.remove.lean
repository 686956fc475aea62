/-! remove -/
def remR (A : AP) (l k : Nat) : Nat → Nat → Nat := fun m i => if m = l ∧ k ≤ i then qR A l (i + 1) else qR A m i
def remS (A : AP) (l : Nat) : Nat → Nat := fun m => if m = l then qS A l - 1 else qS A m
def remA (A : AP) (l k : Nat) : AP := setR A (remR A l k) (remS A l)
theorem rem_wf {A : AP} {T Ls l k : Nat} (f : WfA A T Ls) (hk : k < qS A l) : WfA (remA A l k) T Ls := by
  refine wf_phi f (fun m _ => m) (fun m i => if m = l ∧ k ≤ i then i + 1 else i) (fun m i hi => ?_) (fun m i m' i' _ _ e1 e2 => ?_) (fun m hm => ?_)
  · unfold remS at hi
    unfold remR
    by_cases c : m = l ∧ k ≤ i
    · rw [if_pos c.1] at hi
      have e1 : (if m = l ∧ k ≤ i then i + 1 else i) = i + 1 := if_pos c
      show (if m = l ∧ k ≤ i then i + 1 else i) < _ ∧ _ = qR A m (if m = l ∧ k ≤ i then i + 1 else i)
      rw [e1, if_pos c, c.1]
      exact ⟨by omega, rfl⟩
    · have e1 : (if m = l ∧ k ≤ i then i + 1 else i) = i := if_neg c
      show (if m = l ∧ k ≤ i then i + 1 else i) < _ ∧ _ = qR A m (if m = l ∧ k ≤ i then i + 1 else i)
      rw [e1, if_neg c]
      refine ⟨?_, rfl⟩
      split at hi
      · rename_i e; subst e; omega
      · exact hi
  · have e3 : m = m' := e1
    subst e3
    refine ⟨rfl, ?_⟩
    have e4 : (if m = l ∧ k ≤ i then i + 1 else i) = (if m = l ∧ k ≤ i' then i' + 1 else i') := e2
    split at e4 <;> split at e4 <;> omega
  · have := f.2.2.2.2.1 m hm
    have hl := (f.l6 hk).1
    unfold remS
    rw [if_neg (by omega)]
    exact this
theorem q_rem_loop {p l k ln : Nat} {t9 l9 : Int32} (hl : l < 6) (hln : ln < 40) : ∀ (n q : Nat) (h : AH), ln - q < n → k ≤ q → q ≤ ln → WPl h p → aI h (p + 7) l = nI ln →
    ∃ h', f_X4_remove_39 p t9 (nI l) l9 (nI (40 * l)) n h (nI q) = some h' ∧ FrI h h' (fun a => a = p + 6) ∧ ∀ i, aI h' (p + 6) i = if 40 * l + q ≤ i ∧ i < 40 * l + ln then aI h (p + 6) (i + 1) else aI h (p + 6) i := by
  intro n
  induction n with
  | zero => intro q h hn; omega
  | succ n ih =>
    intro q h hn hk hq w hs
    unfold f_X4_remove_39
    rw [w.p 6 (by decide), bs, w.ld 6 (by decide) (show l < eP 6 from hl), bs, show aI h (p + 1 + 6) l = nI ln from hs]
    by_cases hc : ln ≤ q
    · rw [if_pos (nI_le hc (by omega))]
      refine ⟨h, rfl, FrI.rf h _, fun i => ?_⟩
      rw [if_neg (by omega)]
    · rw [if_neg (nI_ge (by omega) (by omega)), w.p 5 (by decide), bs, bs, nI_add, nI_1, w.ld 5 (by decide) (show 40 * l + q + 1 < eP 5 by show _ < 240; omega), bs, w.st 5 (by decide) (show 40 * l + q < eP 5 by show _ < 240; omega), bs, nI_1]
      obtain ⟨h2, eh2⟩ : ∃ y, y = sI h (p + 1 + 5) (40 * l + q) (aI h (p + 1 + 5) (40 * l + q + 1)) := ⟨_, rfl⟩
      have f2 : FrI h h2 (fun a => a = p + 6) := by
        rw [eh2]
        exact FrI.st (by omega)
      have k6 : ∀ i, aI h2 (p + 6) i = if i = 40 * l + q then aI h (p + 6) (40 * l + q + 1) else aI h (p + 6) i := fun i => by
        rw [eh2, sI_I]
        by_cases e : i = 40 * l + q
        · rw [if_pos ⟨by omega, e⟩, if_pos e, show p + 1 + 5 = p + 6 by omega]
        · rw [if_neg (fun z => e z.2), if_neg e]
      rw [← eh2]
      obtain ⟨h', e3, f3, g3⟩ := ih (q + 1) h2 (by omega) (by omega) (by omega) (f2.pl w) (by rw [f2.2.2.2.2.2 _ (by omega)]; exact hs)
      refine ⟨h', e3, f2.tr f3, fun i => ?_⟩
      rw [g3 i]
      by_cases c1 : 40 * l + (q + 1) ≤ i ∧ i < 40 * l + ln
      · rw [if_pos c1, if_pos (by omega), k6, if_neg (by omega)]
      · rw [if_neg c1, k6]
        by_cases c2 : i = 40 * l + q
        · rw [if_pos c2, if_pos (by omega), c2]
        · rw [if_neg c2, if_neg (by omega)]
set_option maxHeartbeats 1000000 in
theorem q_remove {h : AH} {p : Nat} {A : AP} {T Ls l k : Nat} (w : WPl h p) (R : RepC h p A) (f : WfA A T Ls) (hk : k < qS A l) :
    ∃ h', f_X4_remove h p (nI (qR A l k)) = some h' ∧ FrI h h' (fun a => p + 4 ≤ a ∧ a ≤ p + 7) ∧ RepC h' p (remA A l k) ∧ WfA (remA A l k) T Ls := by
  have hl6 : l < 6 := (f.l6 hk).2
  obtain ⟨t, et⟩ : ∃ t, t = qR A l k := ⟨_, rfl⟩
  have ht40 : t < 40 := by rw [et]; exact f.t40 hk
  have fI := rem_wf f hk
  obtain ⟨e1, e2⟩ := hm_at f hk
  rw [← et] at e1 e2 ⊢
  have hlen := f.len l
  obtain ⟨ln, eln⟩ : ∃ n, n + 1 = qS A l := ⟨qS A l - 1, by omega⟩
  have eS1 : remS A l l = ln := by unfold remS; rw [if_pos rfl]; omega
  have hs : aI h (p + 1 + 6) l = nI (ln + 1) := by rw [eln]; exact R.2.2.2.2.2.2.1 l hl6
  unfold f_X4_remove
  rw [if_pos w.1, w.p 3 (by decide), bs, w.ld 3 (by decide) (show t < eP 3 from ht40), bs, show aI h (p + 1 + 3) t = nI l by rw [← ov_s, ← e1]; exact R.2.2.2.1 t ht40, if_neg (nI_nm (by omega)), w.p 4 (by decide), bs, w.ld 4 (by decide) (show t < eP 4 from ht40), bs, show aI h (p + 1 + 4) t = nI k by rw [← ov_s, ← e2]; exact R.2.2.2.2.1 t ht40, w.p 6 (by decide), bs, w.ld 6 (by decide) (show l < eP 6 from hl6), bs, hs, nI_pred, w.st 6 (by decide) (show l < eP 6 from hl6), bs, c40m]
  obtain ⟨h1, eh1⟩ : ∃ y, y = sI h (p + 1 + 6) l (nI ln) := ⟨_, rfl⟩
  have f1 : FrI h h1 (fun a => a = p + 7) := by rw [eh1]; exact FrI.st (by omega)
  have w1 := f1.pl w
  have h17 : ∀ m, m < 6 → aI h1 (p + 7) m = nI (remS A l m) := by
    intro m hm
    unfold remS
    rw [eh1, sI_I]
    by_cases c : m = l
    · rw [if_pos ⟨by omega, c⟩, if_pos c, ← eln, Nat.add_sub_cancel]
    · rw [if_neg (fun z => c z.2), if_neg c]
      exact R.2.2.2.2.2.2.1 m hm
  rw [← eh1]
  obtain ⟨h2, e3, f2, g2⟩ := q_rem_loop (p := p) (t9 := nI t) (l9 := nI k) (k := k) (ln := ln) hl6 (by omega) FU k h1 (by unfold FU; omega) (Nat.le_refl k) (by omega) w1 (by rw [h17 l hl6, eS1])
  have w2 := f2.pl w1
  rw [e3, bs, w2.p 3 (by decide), bs, w2.st 3 (by decide) (show t < eP 3 from ht40), bs]
  obtain ⟨h3, eh3⟩ : ∃ y, y = sI h2 (p + 1 + 3) t (-1) := ⟨_, rfl⟩
  have f3 : FrI h2 h3 (fun a => a = p + 4) := by rw [eh3]; exact FrI.st (by omega)
  have w3 := f3.pl w2
  rw [← eh3, w3.p 4 (by decide), bs, w3.st 4 (by decide) (show t < eP 4 from ht40), bs]
  obtain ⟨h4, eh4⟩ : ∃ y, y = sI h3 (p + 1 + 4) t (-1) := ⟨_, rfl⟩
  have f4 : FrI h3 h4 (fun a => a = p + 5) := by rw [eh4]; exact FrI.st (by omega)
  have w4 := f4.pl w3
  rw [← eh4]
  have hrow : ∀ m i, m < 6 → i < remS A l m → aI h4 (p + 6) (40 * m + i) = nI (remR A l k m i) := by
    intro m i hm hi
    have hlm := f.len m
    unfold remS at hi
    unfold remR
    rw [f4.2.2.2.2.2 _ (by omega), f3.2.2.2.2.2 _ (by omega), g2, f1.2.2.2.2.2 _ (by omega)]
    by_cases c : m = l ∧ k ≤ i
    · rw [if_pos c.1] at hi
      obtain ⟨rfl, c2⟩ := c
      rw [if_pos (by omega), if_pos ⟨rfl, c2⟩]
      exact R.2.2.2.2.2.1 m (i + 1) hl6 (by omega)
    · rw [if_neg c]
      by_cases c1 : m = l
      · rw [if_pos c1] at hi
        subst c1
        rw [if_neg (by omega)]
        exact R.2.2.2.2.2.1 m i hl6 (by omega)
      · rw [if_neg c1] at hi
        rw [if_neg (by omega)]
        exact R.2.2.2.2.2.1 m i hm hi
  have h47 : ∀ m, m < 6 → aI h4 (p + 7) m = nI (remS A l m) := by
    intro m hm
    rw [f4.2.2.2.2.2 _ (by omega), f3.2.2.2.2.2 _ (by omega), f2.2.2.2.2.2 _ (by omega)]
    exact h17 m hm
  obtain ⟨h5, e5, f5, g4, g5⟩ := q_seat (p := p) (l := l) (len := ln) (x := remR A l k l) (k := k) (h := h4) hl6 (by omega)
    (fun i hi => fI.t40 (l := l) (k := i) (by show i < remS A l l; omega))
    (fun i j hi hj e => (fI.2.2.2.1 l i l j (by show i < remS A l l; omega) (by show j < remS A l l; omega) e).2)
    (by omega) w4 (by rw [h47 l hl6, eS1]) (fun i hi => hrow l i hl6 (by omega))
  rw [e5, bs]
  have f45 : FrI h4 h5 (fun a => p + 4 ≤ a ∧ a ≤ p + 7) := f5.mono (fun a ha => by omega)
  have f05 : FrI h h5 (fun a => p + 4 ≤ a ∧ a ≤ p + 7) := ((((f1.mono (fun a ha => by omega)).tr (f2.mono (fun a ha => by omega))).tr (f3.mono (fun a ha => by omega))).tr (f4.mono (fun a ha => by omega))).tr f45
  have old : ∀ u, aI h4 (p + 4) u = (if u = t then -1 else aI h (p + 4) u) ∧ aI h4 (p + 5) u = (if u = t then -1 else aI h (p + 5) u) := fun u => by
    constructor
    · rw [f4.2.2.2.2.2 (p + 4) (by omega), eh3, sI_I, f2.2.2.2.2.2 (p + 4) (by omega), f1.2.2.2.2.2 (p + 4) (by omega)]
      by_cases c : u = t
      · rw [if_pos ⟨by omega, c⟩, if_pos c]
      · rw [if_neg (fun z => c z.2), if_neg c]
    · rw [eh4, sI_I, f3.2.2.2.2.2 (p + 5) (by omega), f2.2.2.2.2.2 (p + 5) (by omega), f1.2.2.2.2.2 (p + 5) (by omega)]
      by_cases c : u = t
      · rw [if_pos ⟨by omega, c⟩, if_pos c]
      · rw [if_neg (fun z => c z.2), if_neg c]
  refine ⟨h5, rfl, f05, rep_rows R fI f05 (fun m i hm hi => ?_) (fun m hm => ?_) (fun m i hm hi => ?_) (fun u hu hout => ?_), fI⟩
  · rw [f5.2.2.2.2.2 _ (by omega)]; exact hrow m i hm hi
  · rw [f5.2.2.2.2.2 _ (by omega)]; exact h47 m hm
  · by_cases c : m = l ∧ k ≤ i
    · obtain ⟨rfl, c2⟩ := c
      exact g4 i c2 (by omega)
    · obtain ⟨a1, a2⟩ := g5 (remR A l k m i) (fun j h1 h2 e => by
        have := fI.2.2.2.1 l j m i (by show j < remS A l l; omega) hi e
        omega)
      have e9 : remR A l k m i = qR A m i ∧ i < qS A m := by
        unfold remS at hi
        unfold remR
        rw [if_neg c]
        refine ⟨rfl, ?_⟩
        split at hi
        · rename_i e; subst e; omega
        · exact hi
      have e10 : qR A m i ≠ t := fun e => by
        rw [et] at e
        have := f.2.2.2.1 m i l k e9.2 hk e
        omega
      rw [a1, a2, (old _).1, (old _).2, e9.1, if_neg e10, if_neg e10]
      exact home_in R f e9.2
  · obtain ⟨a1, a2⟩ := g5 u (fun j h1 h2 => hout l j (by omega))
    rw [a1, a2, (old _).1, (old _).2]
    by_cases c : u = t
    · rw [if_pos c, if_pos c]
      exact ⟨rfl, rfl⟩
    · rw [if_neg c, if_neg c]
      refine home_out R hu (fun m i hm hi e => ?_)
      by_cases c1 : m = l ∧ k < i
      · refine hout l (i - 1) (by have := c1.1 ▸ hi; omega) ?_
        unfold remR
        rw [if_pos ⟨rfl, by omega⟩, show i - 1 + 1 = i by omega, ← c1.1]
        exact e
      · have c2 : ¬ (m = l ∧ i = k) := fun z => c (by rw [et, ← z.1, ← z.2]; exact e.symm)
        refine hout m i ?_ ?_
        · unfold remS
          by_cases hm2 : m = l
          · rw [if_pos hm2]
            subst hm2
            omega
          · rw [if_neg hm2]; exact hi
        · unfold remR
          rw [if_neg (by omega)]
          exact e
