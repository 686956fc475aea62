/-! crossTails -/
theorem two_len {A : AP} {T Ls l m : Nat} (f : WfA A T Ls) (hlm : l ≠ m) : qS A l + qS A m ≤ 40 := by
  refine Nat.le_trans (inj_le (n := T) (f := fun i => if i < qS A l then qR A l i else qR A m (i - qS A l)) (fun k hk => ?_) (fun i j hi hj e => ?_)) f.1
  · by_cases c : k < qS A l
    · simp only [if_pos c]; exact f.2.2.1 _ _ c
    · simp only [if_neg c]; exact f.2.2.1 _ _ (by omega)
  · by_cases c : i < qS A l <;> by_cases c2 : j < qS A l
    · simp only [if_pos c, if_pos c2] at e
      exact (f.2.2.2.1 _ _ _ _ c c2 e).2
    · simp only [if_pos c, if_neg c2] at e
      exact absurd (f.2.2.2.1 _ _ _ _ c (by omega) e).1 hlm
    · simp only [if_neg c, if_pos c2] at e
      exact absurd (f.2.2.2.1 _ _ _ _ (by omega) c2 e).1.symm hlm
    · simp only [if_neg c, if_neg c2] at e
      have := (f.2.2.2.1 _ _ _ _ (by omega) (by omega) e).2
      omega
def crR (A : AP) (l a m b : Nat) : Nat → Nat → Nat := fun q i => if q = l ∧ a ≤ i then qR A m (i - a + b) else if q = m ∧ b ≤ i then qR A l (i - b + a) else qR A q i
def crS (A : AP) (l a m b : Nat) : Nat → Nat := fun q => if q = l then a + (qS A m - b) else if q = m then b + (qS A l - a) else qS A q
def crA (A : AP) (l a m b : Nat) : AP := setR A (crR A l a m b) (crS A l a m b)
theorem cr_key {A : AP} {T Ls l a m b : Nat} (f : WfA A T Ls) (hlm : l ≠ m) (ha : a ≤ qS A l) (hb : b ≤ qS A m) : ∀ q i, i < crS A l a m b q → (if q = l ∧ a ≤ i then i - a + b else if q = m ∧ b ≤ i then i - b + a else i) < qS A (if q = l ∧ a ≤ i then m else if q = m ∧ b ≤ i then l else q) ∧ crR A l a m b q i = qR A (if q = l ∧ a ≤ i then m else if q = m ∧ b ≤ i then l else q) (if q = l ∧ a ≤ i then i - a + b else if q = m ∧ b ≤ i then i - b + a else i) := by
  intro q i hi
  unfold crS at hi
  unfold crR
  by_cases c : q = l ∧ a ≤ i
  · simp only [if_pos c]
    rw [if_pos c.1] at hi
    exact ⟨by omega, trivial⟩
  · simp only [if_neg c]
    by_cases c2 : q = m ∧ b ≤ i
    · simp only [if_pos c2]
      rw [if_neg (by omega), if_pos c2.1] at hi
      exact ⟨by omega, trivial⟩
    · simp only [if_neg c2]
      refine ⟨?_, trivial⟩
      by_cases d : q = l
      · subst d; omega
      · rw [if_neg d] at hi
        by_cases d2 : q = m
        · subst d2; omega
        · rw [if_neg d2] at hi
          exact hi
theorem cr_wf {A : AP} {T Ls l a m b : Nat} (f : WfA A T Ls) (hl : l < Ls) (hm : m < Ls) (hlm : l ≠ m) (ha : a ≤ qS A l) (hb : b ≤ qS A m) : WfA (crA A l a m b) T Ls := by
  refine wf_phi f (fun q i => if q = l ∧ a ≤ i then m else if q = m ∧ b ≤ i then l else q) (fun q i => if q = l ∧ a ≤ i then i - a + b else if q = m ∧ b ≤ i then i - b + a else i) (cr_key f hlm ha hb) (fun q i q' i' _ _ e1 e2 => ?_) (fun q hq => ?_)
  · split at e1 <;> rename_i q1 <;> simp only [q1, if_true, if_false, and_self] at e2 <;> split at e1 <;> rename_i q2 <;> simp only [q2, if_true, if_false, and_self] at e2 <;> first | omega | (split at e1 <;> rename_i q3 <;> simp only [q3, if_true, if_false, and_self] at e2 <;> first | omega | (split at e1 <;> rename_i q4 <;> simp only [q4, if_true, if_false, and_self] at e2 <;> omega))
  · unfold crS
    rw [if_neg (by omega), if_neg (by omega)]
    exact f.2.2.2.2.1 q hq
set_option maxHeartbeats 1000000 in
theorem q_cr_loop {p l a m b x y : Nat} {z1 z2 z3 z4 : Int32} (hl : l < 6) (hm : m < 6) (hlm : l ≠ m) (hx : a + x ≤ 40) (hy : b + y ≤ 40) (hxy : a + y ≤ 40) (hyx : b + x ≤ 40) : ∀ (n k : Nat) (h : AH), 40 - k < n → k ≤ 40 → WPl h p →
    ∃ h', f_X4_crossTails_41 p z1 z2 z3 z4 (nI (40 * l + a)) (nI (40 * m + b)) (nI x) (nI y) n h (nI k) = some h' ∧ FrI h h' (fun q => q = p + 6) ∧ ∀ i, aI h' (p + 6) i = if 40 * l + a + k ≤ i ∧ i < 40 * l + a + y then aI h (p + 6) (40 * m + b + (i - (40 * l + a))) else if 40 * m + b + k ≤ i ∧ i < 40 * m + b + x then aI h (p + 6) (40 * l + a + (i - (40 * m + b))) else aI h (p + 6) i := by
  intro n
  induction n with
  | zero => intro k h hn; omega
  | succ n ih =>
    intro k h hn hk w
    have step : ∀ h2 : AH, k < x ∨ k < y → FrI h h2 (fun q => q = p + 6) → (∀ i, aI h2 (p + 6) i = if i = 40 * l + a + k ∧ k < y then aI h (p + 6) (40 * m + b + k) else if i = 40 * m + b + k ∧ k < x then aI h (p + 6) (40 * l + a + k) else aI h (p + 6) i) → ∃ h', f_X4_crossTails_41 p z1 z2 z3 z4 (nI (40 * l + a)) (nI (40 * m + b)) (nI x) (nI y) n h2 (nI (k + 1)) = some h' ∧ FrI h h' (fun q => q = p + 6) ∧ ∀ i, aI h' (p + 6) i = if 40 * l + a + k ≤ i ∧ i < 40 * l + a + y then aI h (p + 6) (40 * m + b + (i - (40 * l + a))) else if 40 * m + b + k ≤ i ∧ i < 40 * m + b + x then aI h (p + 6) (40 * l + a + (i - (40 * m + b))) else aI h (p + 6) i := by
      intro h2 hkk f2 g2
      obtain ⟨h', e3, f3, g3⟩ := ih (k + 1) h2 (by omega) (by omega) (f2.pl w)
      refine ⟨h', e3, f2.tr f3, fun i => ?_⟩
      rw [g3 i]
      by_cases c1 : 40 * l + a + k ≤ i ∧ i < 40 * l + a + y
      · rw [if_pos c1]
        by_cases c2 : i = 40 * l + a + k
        · rw [if_neg (by omega), if_neg (by omega), g2, if_pos (by omega), show i - (40 * l + a) = k by omega]
        · rw [if_pos (by omega), g2, if_neg (by omega), if_neg (by omega)]
      · rw [if_neg c1, if_neg (by omega)]
        by_cases c3 : 40 * m + b + k ≤ i ∧ i < 40 * m + b + x
        · rw [if_pos c3]
          by_cases c2 : i = 40 * m + b + k
          · rw [if_neg (by omega), g2, if_neg (by omega), if_pos (by omega), show i - (40 * m + b) = k by omega]
          · rw [if_pos (by omega), g2, if_neg (by omega), if_neg (by omega)]
        · rw [if_neg c3, if_neg (by omega), g2, if_neg (by omega), if_neg (by omega)]
    unfold f_X4_crossTails_41
    have l1 : k < x → ldI h (p + 1 + 5) (nI (40 * l + a + k)) = _ := fun c => w.ld 5 (by decide) (show 40 * l + a + k < eP 5 by show _ < 240; omega)
    have l2 : k < y → ldI h (p + 1 + 5) (nI (40 * m + b + k)) = _ := fun c => w.ld 5 (by decide) (show 40 * m + b + k < eP 5 by show _ < 240; omega)
    by_cases c1 : k < x
    · have n1 : ¬ nI x ≤ nI k := nI_ge c1 (by omega)
      have n2 : nI k < nI x := nI_lt c1 (by omega)
      by_cases c2 : k < y
      · have n3 : ¬ nI y ≤ nI k := nI_ge c2 (by omega)
        have f1 : FrI h (sI h (p + 1 + 5) (40 * l + a + k) (aI h (p + 1 + 5) (40 * m + b + k))) (fun q => q = p + 6) := FrI.st (by omega)
        have w1 := f1.pl w
        simp only [if_pos n2, if_neg n1, if_neg n3, bs, w.p 5 (by decide), nI_add, l1 c1, l2 c2, w.st 5 (by decide) (show 40 * l + a + k < eP 5 by show _ < 240; omega), w1.p 5 (by decide), w1.st 5 (by decide) (show 40 * m + b + k < eP 5 by show _ < 240; omega), nI_1]
        refine step _ (Or.inl c1) (f1.tr (FrI.st (by omega))) (fun i => ?_)
        rw [sI_I, sI_I, show p + 1 + 5 = p + 6 by omega]
        by_cases d1 : i = 40 * l + a + k
        · rw [if_neg (by omega), if_pos ⟨rfl, d1⟩, if_pos ⟨d1, c2⟩]
        · rw [if_neg (fun z : i = 40 * l + a + k ∧ k < y => d1 z.1)]
          by_cases d2 : i = 40 * m + b + k
          · rw [if_pos ⟨rfl, d2⟩, if_pos ⟨d2, c1⟩]
          · rw [if_neg (fun z => d2 z.2), if_neg (fun z => d1 z.2), if_neg (fun z : i = 40 * m + b + k ∧ k < x => d2 z.1)]
      · have n3 : nI y ≤ nI k := nI_le (by omega) (by omega)
        simp only [if_pos n2, if_neg n1, if_pos n3, bs, w.p 5 (by decide), nI_add, l1 c1, w.st 5 (by decide) (show 40 * m + b + k < eP 5 by show _ < 240; omega), nI_1]
        refine step _ (Or.inl c1) (FrI.st (by omega)) (fun i => ?_)
        rw [sI_I, show p + 1 + 5 = p + 6 by omega, if_neg (show ¬ (i = 40 * l + a + k ∧ k < y) from fun z => c2 z.2)]
        by_cases d2 : i = 40 * m + b + k
        · rw [if_pos ⟨rfl, d2⟩, if_pos ⟨d2, c1⟩]
        · rw [if_neg (fun z => d2 z.2), if_neg (fun z : i = 40 * m + b + k ∧ k < x => d2 z.1)]
    · have n1 : nI x ≤ nI k := nI_le (by omega) (by omega)
      have n2 : ¬ nI k < nI x := nI_nlt (by omega) (by omega)
      by_cases c2 : k < y
      · have n3 : ¬ nI y ≤ nI k := nI_ge c2 (by omega)
        simp only [if_neg n2, if_pos n1, if_neg n3, bs, w.p 5 (by decide), nI_add, l2 c2, w.st 5 (by decide) (show 40 * l + a + k < eP 5 by show _ < 240; omega), nI_1]
        refine step _ (Or.inr c2) (FrI.st (by omega)) (fun i => ?_)
        rw [sI_I, show p + 1 + 5 = p + 6 by omega]
        by_cases d1 : i = 40 * l + a + k
        · rw [if_pos ⟨rfl, d1⟩, if_pos ⟨d1, c2⟩]
        · rw [if_neg (fun z => d1 z.2), if_neg (fun z : i = 40 * l + a + k ∧ k < y => d1 z.1), if_neg (fun z : i = 40 * m + b + k ∧ k < x => c1 z.2)]
      · have n3 : nI y ≤ nI k := nI_le (by omega) (by omega)
        simp only [if_neg n2, if_pos n3]
        refine ⟨h, rfl, FrI.rf h _, fun i => ?_⟩
        rw [if_neg (by omega), if_neg (by omega)]
set_option maxHeartbeats 2000000 in
theorem q_crossTails {h : AH} {p : Nat} {A : AP} {T Ls l a m b : Nat} (w : WPl h p) (R : RepC h p A) (f : WfA A T Ls) (hl : l < Ls) (hm : m < Ls) (hlm : l ≠ m) (ha : a ≤ qS A l) (hb : b ≤ qS A m) :
    ∃ h', f_X4_crossTails h p (nI l) (nI a) (nI m) (nI b) = some h' ∧ FrI h h' (fun a => p + 4 ≤ a ∧ a ≤ p + 7) ∧ RepC h' p (crA A l a m b) ∧ WfA (crA A l a m b) T Ls := by
  have h6 := f.2.1
  have hl6 : l < 6 := by omega
  have hm6 : m < 6 := by omega
  have h2 := two_len f hlm
  have fI := cr_wf f hl hm hlm ha hb
  have sl : crS A l a m b l = a + (qS A m - b) := if_pos rfl
  have sm : crS A l a m b m = b + (qS A l - a) := by unfold crS; rw [if_neg (by omega), if_pos rfl]
  unfold f_X4_crossTails
  rw [if_pos w.1, w.p 6 (by decide), bs, w.ld 6 (by decide) (show l < eP 6 from hl6), bs, bs, w.ld 6 (by decide) (show m < eP 6 from hm6), bs, show aI h (p + 1 + 6) l = _ from R.2.2.2.2.2.2.1 l hl6, show aI h (p + 1 + 6) m = _ from R.2.2.2.2.2.2.1 m hm6, pk_sub ha, pk_sub hb, c40, c40]
  obtain ⟨h1, e1, f1, g1⟩ := q_cr_loop (p := p) (l := l) (a := a) (m := m) (b := b) (x := qS A l - a) (y := qS A m - b) (z1 := nI l) (z2 := nI a) (z3 := nI m) (z4 := nI b) hl6 hm6 hlm (by omega) (by omega) (by omega) (by omega) FU 0 h (by unfold FU; omega) (by omega) w
  have w1 := f1.pl w
  rw [show (0 : Int32) = nI 0 from rfl, e1, bs, w1.p 6 (by decide), bs, nI_add, w1.st 6 (by decide) (show l < eP 6 from hl6), bs]
  obtain ⟨h3, eh3⟩ : ∃ y, y = sI h1 (p + 1 + 6) l (nI (a + (qS A m - b))) := ⟨_, rfl⟩
  have f3 : FrI h1 h3 (fun a => a = p + 7) := by rw [eh3]; exact FrI.st (by omega)
  have w3 := f3.pl w1
  rw [← eh3, w3.p 6 (by decide), bs, nI_add, w3.st 6 (by decide) (show m < eP 6 from hm6), bs]
  obtain ⟨h4, eh4⟩ : ∃ y, y = sI h3 (p + 1 + 6) m (nI (b + (qS A l - a))) := ⟨_, rfl⟩
  have f4 : FrI h3 h4 (fun a => a = p + 7) := by rw [eh4]; exact FrI.st (by omega)
  have w4 := f4.pl w3
  rw [← eh4]
  have hrow : ∀ q i, q < 6 → i < crS A l a m b q → aI h4 (p + 6) (40 * q + i) = nI (crR A l a m b q i) := by
    intro q i hq hi
    have hlq := f.len q
    unfold crS at hi
    unfold crR
    rw [f4.2.2.2.2.2 _ (by omega), f3.2.2.2.2.2 _ (by omega), g1]
    by_cases c : q = l ∧ a ≤ i
    · rw [if_pos c.1] at hi
      rw [if_pos (by omega), if_pos c, show 40 * m + b + (40 * q + i - (40 * l + a)) = 40 * m + (i - a + b) by omega]
      exact R.2.2.2.2.2.1 m _ hm6 (by omega)
    · rw [if_neg c]
      by_cases c2 : q = m ∧ b ≤ i
      · rw [if_neg (by omega), if_pos c2.1] at hi
        rw [if_neg (by omega), if_pos (by omega), if_pos c2, show 40 * l + a + (40 * q + i - (40 * m + b)) = 40 * l + (i - b + a) by omega]
        exact R.2.2.2.2.2.1 l _ hl6 (by omega)
      · have hi2 : i < qS A q := by
          by_cases d : q = l
          · subst d; omega
          · rw [if_neg d] at hi
            by_cases d2 : q = m
            · subst d2; omega
            · rw [if_neg d2] at hi
              exact hi
        rw [if_neg (by omega), if_neg (by omega), if_neg c2]
        exact R.2.2.2.2.2.1 q i hq hi2
  have h47 : ∀ q, q < 6 → aI h4 (p + 7) q = nI (crS A l a m b q) := by
    intro q hq
    unfold crS
    rw [eh4, sI_I, eh3, sI_I, f1.2.2.2.2.2 _ (by omega)]
    by_cases c : q = m
    · rw [if_pos ⟨by omega, c⟩, if_neg (by omega), if_pos c]
    · rw [if_neg (fun z => c z.2)]
      by_cases c2 : q = l
      · rw [if_pos ⟨by omega, c2⟩, if_pos c2]
      · rw [if_neg (fun z => c2 z.2), if_neg c2, if_neg c]
        exact R.2.2.2.2.2.2.1 q hq
  obtain ⟨h5, e5, f5, g5, k5⟩ := q_seat (p := p) (l := l) (len := a + (qS A m - b)) (x := crR A l a m b l) (k := a) (h := h4) hl6 (by omega)
    (fun i hi => fI.t40 (l := l) (k := i) (by show i < crS A l a m b l; omega))
    (fun i j hi hj e => (fI.2.2.2.1 l i l j (by show i < crS A l a m b l; omega) (by show j < crS A l a m b l; omega) e).2)
    (by omega) w4 (by rw [h47 l hl6, sl]) (fun i hi => hrow l i hl6 (by omega))
  have w5 := f5.pl w4
  obtain ⟨h6, e6, f6, g6, k6⟩ := q_seat (p := p) (l := m) (len := b + (qS A l - a)) (x := crR A l a m b m) (k := b) (h := h5) hm6 (by omega)
    (fun i hi => fI.t40 (l := m) (k := i) (by show i < crS A l a m b m; omega))
    (fun i j hi hj e => (fI.2.2.2.1 m i m j (by show i < crS A l a m b m; omega) (by show j < crS A l a m b m; omega) e).2)
    (by omega) w5 (by rw [f5.2.2.2.2.2 _ (by omega), h47 m hm6, sm]) (fun i hi => by rw [f5.2.2.2.2.2 _ (by omega)]; exact hrow m i hm6 (by omega))
  rw [e5, bs, e6, bs]
  have f06 : FrI h h6 (fun a => p + 4 ≤ a ∧ a ≤ p + 7) := ((((f1.mono (fun a ha => by omega)).tr (f3.mono (fun a ha => by omega))).tr (f4.mono (fun a ha => by omega))).tr (f5.mono (fun a ha => by omega))).tr (f6.mono (fun a ha => by omega))
  have old : ∀ u, aI h4 (p + 4) u = aI h (p + 4) u ∧ aI h4 (p + 5) u = aI h (p + 5) u := fun u => by
    rw [f4.2.2.2.2.2 (p + 4) (by omega), f3.2.2.2.2.2 (p + 4) (by omega), f1.2.2.2.2.2 (p + 4) (by omega), f4.2.2.2.2.2 (p + 5) (by omega), f3.2.2.2.2.2 (p + 5) (by omega), f1.2.2.2.2.2 (p + 5) (by omega)]
    exact ⟨rfl, rfl⟩
  refine ⟨h6, rfl, f06, rep_rows R fI f06 (fun q i hq hi => ?_) (fun q hq => ?_) (fun q i hq hi => ?_) (fun u hu hout => ?_), fI⟩
  · rw [f6.2.2.2.2.2 _ (by omega), f5.2.2.2.2.2 _ (by omega)]; exact hrow q i hq hi
  · rw [f6.2.2.2.2.2 _ (by omega), f5.2.2.2.2.2 _ (by omega)]; exact h47 q hq
  · by_cases c2 : q = m ∧ b ≤ i
    · obtain ⟨rfl, c3⟩ := c2
      exact g6 i c3 (by omega)
    · obtain ⟨a1, a2⟩ := k6 (crR A l a m b q i) (fun j h1 h2 e => by
        have := fI.2.2.2.1 m j q i (by show j < crS A l a m b m; omega) hi e
        omega)
      rw [a1, a2]
      by_cases c : q = l ∧ a ≤ i
      · obtain ⟨rfl, c3⟩ := c
        exact g5 i c3 (by omega)
      · obtain ⟨a3, a4⟩ := k5 (crR A l a m b q i) (fun j h1 h2 e => by
          have := fI.2.2.2.1 l j q i (by show j < crS A l a m b l; omega) hi e
          omega)
        rw [a3, a4, (old _).1, (old _).2]
        have e9 : crR A l a m b q i = qR A q i ∧ i < qS A q := by
          have := cr_key f hlm ha hb q i hi
          simp only [if_neg c, if_neg c2] at this
          exact ⟨this.2, this.1⟩
        rw [e9.1]
        exact home_in R f e9.2
  · obtain ⟨a1, a2⟩ := k6 u (fun j h1 h2 => hout m j (by omega))
    obtain ⟨a3, a4⟩ := k5 u (fun j h1 h2 => hout l j (by omega))
    rw [a1, a2, a3, a4, (old _).1, (old _).2]
    refine home_out R hu (fun q i hq hi e => ?_)
    by_cases c : q = l ∧ a ≤ i
    · have hi2 : i < qS A l := c.1 ▸ hi
      refine hout m (i - a + b) (by omega) ?_
      unfold crR
      rw [if_neg (by omega), if_pos (by omega), show i - a + b - b + a = i by omega, ← c.1]
      exact e
    · by_cases c2 : q = m ∧ b ≤ i
      · have hi2 : i < qS A m := c2.1 ▸ hi
        refine hout l (i - b + a) (by omega) ?_
        unfold crR
        rw [if_pos (by omega), show i - b + a - a + b = i by omega, ← c2.1]
        exact e
      · refine hout q i ?_ ?_
        · unfold crS
          by_cases d : q = l
          · subst d
            rw [if_pos rfl]
            omega
          · rw [if_neg d]
            by_cases d2 : q = m
            · subst d2
              rw [if_pos rfl]
              omega
            · rw [if_neg d2]
              exact hi
        · unfold crR
          rw [if_neg c, if_neg c2]
          exact e
