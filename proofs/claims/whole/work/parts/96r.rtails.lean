/-! THE OTHER ONE: crossed tails; what a move may not touch -/
section RTails
variable {h : AH} {A D : AP} {T Ls : Nat}
theorem r_cross (S : Sh h) (R : RpR h 61 0 A) (R9 : RpR h 59 0 A) (f : WfA A T Ls) {l a o b : Nat} (hl : l < Ls) (ho : o < Ls) (hlo : l ≠ o) (ha : a ≤ qS A l) (hb : b ≤ qS A o) : ∃ h1 h2, f_X9_tails_105 53 (nI l) (nI a) (nI o) (nI b) (nI (qS A l)) (nI (qS A o)) FU h (nI b) = some h1 ∧ f_X9_tails_184 53 (nI l) (nI a) (nI o) (nI b) (nI (qS A l)) (nI (qS A o)) FU h1 (nI a) = some h2 ∧ Fg h h1 (fun a _ => a = 61) ∧ Fg h1 h2 (fun a _ => a = 61) ∧ RpR (sI (sI h2 61 (492 + l) (nI (a + qS A o - b))) 61 (492 + o) (nI (b + qS A l - a))) 61 0 (crA A l a o b) := by
  have hL := f.2.1
  have l6 : l < 6 := by omega
  have o6 : o < 6 := by omega
  have h2l := two_len f hlo
  obtain ⟨h1, e1, f1, g1, g2, g3⟩ := tail105 (l := l) (fr := a) (o := o) (at' := b) (M := qS A o) (nI (qS A l)) l6 o6 f (Nat.le_refl _) (by omega) (qS A o - b) FU h b (by omega) (Nat.le_refl _) (by unfold FU; omega) S R9
  have S1 := f1.S S
  obtain ⟨h2, e2, f2, k1, k2, k3⟩ := tail184 (l := l) (fr := a) (o := o) (at' := b) (M := qS A l) (nI (qS A o)) l6 o6 f (Nat.le_refl _) (by omega) (qS A l - a) FU h1 a (by omega) (Nat.le_refl _) (by unfold FU; omega) S1 (f1.R R9 (by omega))
  refine ⟨h1, h2, e1, e2, f1.mono (fun a j q => q.1), f2.mono (fun a j q => q.1), ?_⟩
  have fe := cr_wf f hl ho hlo ha hb
  have nn : ∀ i, i ≠ 492 + l → i ≠ 492 + o → aI (sI (sI h2 61 (492 + l) (nI (a + qS A o - b))) 61 (492 + o) (nI (b + qS A l - a))) 61 i = aI h2 61 i := fun i q1 q2 => by rw [sI_I, if_neg (by omega), sI_I, if_neg (by omega)]
  refine rp_rows (r := crR A l a o b) (s := crS A l a o b) R fe (fun i hi => ?_) (fun q i hq hi => ?_) (fun q hq => ?_) (fun q i hq hi => ?_) (fun u hu hno => ?_)
  · rw [nn _ (by omega) (by omega), f2.i (by omega), f1.i (by omega)]
  · have hi40 : i < 40 := by
      have := fe.len q
      have : crS A l a o b q ≤ 40 := this
      omega
    rw [nn _ (by omega) (by omega)]
    unfold crS at hi
    unfold crR
    by_cases c1 : q = l
    · subst c1
      rw [if_pos rfl] at hi
      by_cases c2 : a ≤ i
      · rw [if_pos ⟨rfl, c2⟩, f2.i (by omega)]
        have := g1 (i - a + b) (by omega) (by omega)
        rw [show a + (i - a + b) - b = i by omega] at this
        exact this
      · rw [if_neg (fun y => c2 y.2), if_neg (fun y => hlo y.1), f2.i (by omega), f1.i (by omega), R.r6 hq (by omega)]
    · rw [if_neg c1] at hi
      rw [if_neg (fun y => c1 y.1)]
      by_cases c3 : q = o
      · subst c3
        rw [if_pos rfl] at hi
        by_cases c2 : b ≤ i
        · rw [if_pos ⟨rfl, c2⟩]
          have := k1 (i - b + a) (by omega) (by omega)
          rw [show b + (i - b + a) - a = i by omega] at this
          exact this
        · rw [if_neg (fun y => c2 y.2), f2.i (by omega), f1.i (by omega), R.r6 hq (by omega)]
      · rw [if_neg c3] at hi
        have := f.len q
        rw [if_neg (fun y => c3 y.1), f2.i (by omega), f1.i (by omega), R.r6 hq hi]
  · unfold crS
    by_cases c1 : q = l
    · subst c1
      rw [if_pos rfl, sI_I, if_neg (by omega), sI_I, if_pos ⟨rfl, rfl⟩]
      congr 1
      omega
    · rw [if_neg c1]
      by_cases c3 : q = o
      · subst c3
        rw [if_pos rfl, sI_I, if_pos ⟨rfl, rfl⟩]
        congr 1
        omega
      · rw [if_neg c3, nn _ (by omega) (by omega), f2.i (by omega), f1.i (by omega), R.s6 hq]
  · have t40 : crR A l a o b q i < 40 := fe.t40 (l := q) (k := i) hi
    rw [nn _ (by omega) (by omega)]
    unfold crS at hi
    unfold crR
    by_cases c1 : q = l
    · subst c1
      rw [if_pos rfl] at hi
      by_cases c2 : a ≤ i
      · have hx : i - a + b < qS A o := by omega
        rw [if_pos ⟨rfl, c2⟩, k3 _ (f.t40 hx) (fun j h5 h6 e => hlo (f.2.2.2.1 _ _ _ _ h6 hx e).1)]
        exact g2 _ (by omega) hx
      · have hx : i < qS A q := by omega
        rw [if_neg (fun y => c2 y.2), if_neg (fun y => hlo y.1), k3 _ (f.t40 hx) (fun j h5 h6 e => by have := (f.2.2.2.1 _ _ _ _ h6 hx e).2; omega), g3 _ (f.t40 hx) (fun j h5 h6 e => hlo (f.2.2.2.1 _ _ _ _ h6 hx e).1.symm)]
        exact R.hi f hx
    · rw [if_neg c1] at hi
      rw [if_neg (fun y => c1 y.1)]
      by_cases c3 : q = o
      · subst c3
        rw [if_pos rfl] at hi
        by_cases c2 : b ≤ i
        · rw [if_pos ⟨rfl, c2⟩]
          exact k2 _ (by omega) (by omega)
        · have hx : i < qS A q := by omega
          rw [if_neg (fun y => c2 y.2), k3 _ (f.t40 hx) (fun j h5 h6 e => hlo (f.2.2.2.1 _ _ _ _ h6 hx e).1), g3 _ (f.t40 hx) (fun j h5 h6 e => by have := (f.2.2.2.1 _ _ _ _ h6 hx e).2; omega)]
          exact R.hi f hx
      · rw [if_neg c3] at hi
        rw [if_neg (fun y => c3 y.1), k3 _ (f.t40 hi) (fun j h5 h6 e => c1 (f.2.2.2.1 _ _ _ _ h6 hi e).1.symm), g3 _ (f.t40 hi) (fun j h5 h6 e => c3 (f.2.2.2.1 _ _ _ _ h6 hi e).1.symm)]
        exact R.hi f hi
  · have n1 : ∀ j, a ≤ j → j < qS A l → qR A l j ≠ u := fun j h5 h6 e => by
      refine hno o (b + (j - a)) o6 (show _ < crS A l a o b o by unfold crS; rw [if_neg (Ne.symm hlo), if_pos rfl]; omega) ?_
      unfold crR
      rw [if_neg (fun y => hlo y.1.symm), if_pos ⟨rfl, by omega⟩, show b + (j - a) - b + a = j by omega]
      exact e
    have n2 : ∀ j, b ≤ j → j < qS A o → qR A o j ≠ u := fun j h5 h6 e => by
      refine hno l (a + (j - b)) l6 (show _ < crS A l a o b l by unfold crS; rw [if_pos rfl]; omega) ?_
      unfold crR
      rw [if_pos ⟨rfl, by omega⟩, show a + (j - b) - a + b = j by omega]
      exact e
    rw [nn _ (by omega) (by omega), k3 u hu n1, g3 u hu n2]
    refine R.ho hu (fun q i hq hi e => ?_)
    by_cases c1 : q = l
    · subst c1
      by_cases c2 : a ≤ i
      · exact n1 i c2 hi e
      · refine hno q i hq (show _ < crS A q a o b q by unfold crS; rw [if_pos rfl]; omega) ?_
        unfold crR
        rw [if_neg (fun y => c2 y.2), if_neg (fun y => hlo y.1)]; exact e
    · by_cases c3 : q = o
      · subst c3
        by_cases c2 : b ≤ i
        · exact n2 i c2 hi e
        · refine hno q i hq (show _ < crS A l a q b q by unfold crS; rw [if_neg c1, if_pos rfl]; omega) ?_
          unfold crR
          rw [if_neg (fun y => c1 y.1), if_neg (fun y => c2 y.2)]; exact e
      · refine hno q i hq (show _ < crS A l a o b q by unfold crS; rw [if_neg c1, if_neg c3]; exact hi) ?_
        unfold crR
        rw [if_neg (fun y => c1 y.1), if_neg (fun y => c3 y.1)]; exact e
/-! what may not be touched -/
theorem kc_row {r : Nat → Nat → Nat} {s : Nat → Nat} (fA : WfA A T Ls) (fD : WfA (setR A r s) T Ls) : keC T A (setR A r s) ↔ ∃ l k, k < qS A l ∧ k < qZ A l ∧ ¬ (k < s l ∧ r l k = qR A l k) := by
  constructor
  · rintro ⟨t, ht, hz, hs⟩
    rcases hm_or fA t with ⟨e1, -, -⟩ | ⟨l, k, -, -, h3, h4, h5, h6⟩
    · rw [fz_off e1] at hz; cases hz
    · refine ⟨l, k, h3, ?_, fun y => hs ?_⟩
      · rw [← h4, fz_at fA h3] at hz
        exact of_decide_eq_true hz
      · have h7 := hm_at fD (l := l) (k := k) y.1
        have e : qR (setR A r s) l k = t := y.2.trans h4
        rw [e] at h7
        exact ⟨h7.1.trans h5.symm, rfl, h7.2.trans h6.symm, fun j _ => rfl⟩
  · rintro ⟨l, k, h1, h2, h3⟩
    obtain ⟨h5, h6⟩ := hm_at fA h1
    refine ⟨qR A l k, fA.2.2.1 l k h1, by rw [fz_at fA h1]; exact decide_eq_true h2, fun y => h3 ?_⟩
    have y1 := y.1.trans h5
    have y2 := y.2.2.1.trans h6
    rcases hm_or fD (qR A l k) with ⟨e1, -, -⟩ | ⟨l', k', -, -, z3, z4, z5, z6⟩
    · rw [e1] at y1; cases y1
    · rw [z5] at y1
      rw [z6] at y2
      cases y1
      cases y2
      exact ⟨z3, z4⟩
theorem kc_ins (fA : WfA A T Ls) (z : zfA A) {l k t : Nat} (ht : t < T) (hl : l < Ls) (hk : k ≤ qS A l) (hn : ∀ l k, k < qS A l → qR A l k ≠ t) : keC T A (insA A l k t) ↔ k < qZ A l := by
  rw [show insA A l k t = setR A (insR A l k t) (insS A l) from rfl, kc_row fA (ins_wf fA ht hl hk hn)]
  constructor
  · rintro ⟨a, i, h1, h2, h3⟩
    by_cases q : k < qZ A l
    · exact q
    · refine absurd ⟨?_, ?_⟩ h3
      · unfold insS
        split
        · rename_i c; subst c; omega
        · exact h1
      · unfold insR
        by_cases c : a = l
        · subst c
          rw [if_pos rfl, if_pos (by omega)]
        · rw [if_neg c]
  · intro q
    have := z l
    refine ⟨l, k, by omega, q, fun y => ?_⟩
    have e := y.2
    unfold insR at e
    rw [if_pos rfl, if_neg (by omega), if_pos rfl] at e
    exact hn l k (by omega) e.symm
theorem kc_rem (fA : WfA A T Ls) {l k : Nat} (hk : k < qS A l) : keC T A (remA A l k) ↔ k < qZ A l := by
  rw [show remA A l k = setR A (remR A l k) (remS A l) from rfl, kc_row fA (rem_wf fA hk)]
  constructor
  · rintro ⟨a, i, h1, h2, h3⟩
    by_cases q : k < qZ A l
    · exact q
    · refine absurd ⟨?_, ?_⟩ h3
      · unfold remS
        split
        · rename_i c; subst c; omega
        · exact h1
      · unfold remR
        by_cases c : a = l
        · subst c
          rw [if_neg (by omega)]
        · rw [if_neg (fun y => c y.1)]
  · intro q
    refine ⟨l, k, hk, q, fun y => ?_⟩
    have e := y.2
    have y1 := y.1
    unfold remS at y1
    rw [if_pos rfl] at y1
    unfold remR at e
    rw [if_pos ⟨rfl, Nat.le_refl _⟩] at e
    have := (fA.2.2.2.1 l (k + 1) l k (by omega) hk e).2
    omega
theorem mv_wf (fA : WfA A T Ls) {m j l k : Nat} (hj : j < qS A m) (hl : l < Ls) (hk : k ≤ qS (remA A m j) l) : WfA (insA (remA A m j) l k (qR A m j)) T Ls := by
  have fr := rem_wf fA hj
  refine ins_wf fr (fA.2.2.1 m j hj) hl hk (fun a i hi e => ?_)
  have := hm_rem fA hj
  rw [← e, (hm_at fr hi).1] at this
  cases this
theorem kc_mov (fA : WfA A T Ls) (z : zfA A) {m j l k : Nat} (hj : j < qS A m) (hl : l < Ls) (hk : k ≤ qS (remA A m j) l) : keC T A (insA (remA A m j) l k (qR A m j)) ↔ ¬ ((m = l ∧ j = k) ∨ (¬ j < qZ A m ∧ ¬ k < qZ A l)) := by
  have fD := mv_wf fA hj hl hk
  have e0 : insA (remA A m j) l k (qR A m j) = setR A (insR (remA A m j) l k (qR A m j)) (insS (remA A m j) l) := rfl
  have hrow : ∀ a i, qR (remA A m j) a i = remR A m j a i := fun _ _ => rfl
  have hsz : ∀ a, qS (remA A m j) a = remS A m a := fun _ => rfl
  have hlk : insR (remA A m j) l k (qR A m j) l k = qR A m j := by
    unfold insR
    rw [if_pos rfl, if_neg (by omega), if_pos rfl]
  have hsl : k < insS (remA A m j) l l := by
    unfold insS
    rw [if_pos rfl]
    omega
  rw [e0, kc_row fA (e0 ▸ fD)]
  constructor
  · rintro ⟨a, i, h1, h2, h3⟩ y
    apply h3
    rcases y with ⟨rfl, rfl⟩ | ⟨y1, y2⟩
    · refine ⟨?_, ?_⟩
      · unfold insS
        rw [hsz, hsz]
        unfold remS
        by_cases c : a = m
        · rw [if_pos c, if_pos rfl]; subst c; omega
        · rw [if_neg c, if_neg c]; exact h1
      · unfold insR
        rw [hrow, hrow, hrow]
        unfold remR
        by_cases c : a = m
        · subst c
          rw [if_pos rfl]
          by_cases c1 : i < j
          · rw [if_pos c1, if_neg (by omega)]
          · rw [if_neg c1]
            by_cases c2 : i = j
            · rw [if_pos c2, c2]
            · rw [if_neg c2, if_pos ⟨rfl, by omega⟩, show i - 1 + 1 = i by omega]
        · rw [if_neg c, if_neg (fun y => c y.1)]
    · have zm := z m
      have zl := z l
      refine ⟨?_, ?_⟩
      · unfold insS
        rw [hsz, hsz]
        unfold remS
        by_cases c : a = l
        · rw [if_pos c]
          by_cases c2 : l = m
          · rw [if_pos c2]; subst c; subst c2; omega
          · rw [if_neg c2]; subst c; omega
        · rw [if_neg c]
          by_cases c2 : a = m
          · rw [if_pos c2]; subst c2; omega
          · rw [if_neg c2]; exact h1
      · unfold insR
        rw [hrow, hrow, hrow]
        unfold remR
        by_cases c : a = l
        · subst c
          rw [if_pos rfl, if_pos (by omega), if_neg (fun y => by obtain ⟨y3, y4⟩ := y; subst y3; omega)]
        · rw [if_neg c, if_neg (fun y => by obtain ⟨y3, y4⟩ := y; subst y3; omega)]
  · intro q
    by_cases q1 : j < qZ A m
    · refine ⟨m, j, hj, q1, fun y => q (Or.inl ?_)⟩
      have := fD.2.2.2.1 m j l k y.1 hsl (y.2.trans hlk.symm)
      exact this
    · by_cases q2 : k < qZ A l
      · have zl := z l
        refine ⟨l, k, by omega, q2, fun y => q (Or.inl ?_)⟩
        have e := y.2
        rw [hlk] at e
        exact fA.2.2.2.1 m j l k hj (by omega) e
      · exact absurd (Or.inr ⟨q1, q2⟩) q
theorem kc_exc (fA : WfA A T Ls) {l k m j : Nat} (hk : k < qS A l) (hj : j < qS A m) (hne : ¬ (l = m ∧ k = j)) : keC T A (excA A l k m j) ↔ k < qZ A l ∨ j < qZ A m := by
  rw [show excA A l k m j = setR A (excR A l k m j) (qS A) from rfl, kc_row fA (exc_wf fA hk hj)]
  constructor
  · rintro ⟨a, i, h1, h2, h3⟩
    by_cases c1 : a = l ∧ i = k
    · rw [c1.1, c1.2] at h2; exact Or.inl h2
    by_cases c2 : a = m ∧ i = j
    · rw [c2.1, c2.2] at h2; exact Or.inr h2
    refine absurd ⟨h1, ?_⟩ h3
    unfold excR
    rw [if_neg c1, if_neg c2]
  · rintro (q | q)
    · refine ⟨l, k, hk, q, fun y => hne ?_⟩
      have e := y.2
      unfold excR at e
      rw [if_pos ⟨rfl, rfl⟩] at e
      have := fA.2.2.2.1 m j l k hj hk e
      exact ⟨this.1.symm, this.2.symm⟩
    · refine ⟨m, j, hj, q, fun y => hne ?_⟩
      have e := y.2
      unfold excR at e
      rw [if_neg (fun y => hne ⟨y.1.symm, y.2.symm⟩), if_pos ⟨rfl, rfl⟩] at e
      exact fA.2.2.2.1 l k m j hk hj e
theorem kc_rev (fA : WfA A T Ls) {l lo hi : Nat} (hh : hi < qS A l) (hlo : lo ≤ hi) : keC T A (revA A l lo hi) ↔ lo < hi ∧ lo < qZ A l := by
  rw [show revA A l lo hi = setR A (revR A l lo hi) (qS A) from rfl, kc_row fA (rev_wf fA hh hlo)]
  constructor
  · rintro ⟨a, i, h1, h2, h3⟩
    by_cases c : a = l ∧ lo ≤ i ∧ i ≤ hi
    · obtain ⟨rfl, c1, c2⟩ := c
      refine ⟨?_, by omega⟩
      by_cases c3 : lo < hi
      · exact c3
      · refine absurd ⟨h1, ?_⟩ h3
        unfold revR
        rw [if_pos ⟨rfl, c1, c2⟩, show lo + hi - i = i by omega]
    · refine absurd ⟨h1, ?_⟩ h3
      unfold revR
      rw [if_neg c]
  · rintro ⟨q1, q2⟩
    refine ⟨l, lo, by omega, q2, fun y => ?_⟩
    have e := y.2
    unfold revR at e
    rw [if_pos ⟨rfl, Nat.le_refl _, by omega⟩] at e
    have := (fA.2.2.2.1 _ _ _ _ (by omega) (by omega) e).2
    omega
theorem kc_cr (fA : WfA A T Ls) (z : zfA A) {l a o b : Nat} (hl : l < Ls) (ho : o < Ls) (hlo : l ≠ o) (ha : a ≤ qS A l) (hb : b ≤ qS A o) : keC T A (crA A l a o b) ↔ a < qZ A l ∨ b < qZ A o := by
  rw [show crA A l a o b = setR A (crR A l a o b) (crS A l a o b) from rfl, kc_row fA (cr_wf fA hl ho hlo ha hb)]
  have zl := z l
  have zo := z o
  constructor
  · rintro ⟨q, i, h1, h2, h3⟩
    by_cases y : a < qZ A l ∨ b < qZ A o
    · exact y
    · refine absurd ⟨?_, ?_⟩ h3
      · unfold crS
        by_cases c1 : q = l
        · rw [if_pos c1]; subst c1; omega
        · rw [if_neg c1]
          by_cases c2 : q = o
          · rw [if_pos c2]; subst c2; omega
          · rw [if_neg c2]; exact h1
      · unfold crR
        rw [if_neg (fun w => by obtain ⟨w1, w2⟩ := w; subst w1; omega), if_neg (fun w => by obtain ⟨w1, w2⟩ := w; subst w1; omega)]
  · rintro (q | q)
    · refine ⟨l, a, by omega, q, fun y => ?_⟩
      have y1 := y.1
      unfold crS at y1
      rw [if_pos rfl] at y1
      have e := y.2
      unfold crR at e
      rw [if_pos ⟨rfl, Nat.le_refl _⟩] at e
      exact hlo (fA.2.2.2.1 _ _ _ _ (by omega) (by omega) e).1.symm
    · refine ⟨o, b, by omega, q, fun y => ?_⟩
      have y1 := y.1
      unfold crS at y1
      rw [if_neg (Ne.symm hlo), if_pos rfl] at y1
      have e := y.2
      unfold crR at e
      rw [if_neg (fun y => hlo y.1.symm), if_pos ⟨rfl, Nat.le_refl _⟩] at e
      exact hlo (fA.2.2.2.1 _ _ _ _ (by omega) (by omega) e).1
theorem kc_F {t i : Nat} {v : Int32} (ht : t < T) (hi : i < 4) : keC T A (seF A (4 * t + i) v) ↔ fzA A t = true ∧ qF A (4 * t + i) ≠ v := by
  constructor
  · rintro ⟨u, hu, hz, hs⟩
    by_cases q : u = t ∧ qF A (4 * t + i) ≠ v
    · exact ⟨q.1 ▸ hz, q.2⟩
    · refine absurd ⟨rfl, rfl, rfl, fun k hk => ?_⟩ hs
      show (if 4 * u + k = 4 * t + i then v else qF A (4 * u + k)) = qF A (4 * u + k)
      by_cases c : 4 * u + k = 4 * t + i
      · have c1 : u = t := by omega
        have c2 : qF A (4 * t + i) = v := by
          by_cases c3 : qF A (4 * t + i) = v
          · exact c3
          · exact absurd ⟨c1, c3⟩ q
        rw [if_pos c, c, c2]
      · rw [if_neg c]
  · rintro ⟨hz, hv⟩
    refine ⟨t, ht, hz, fun y => hv ?_⟩
    have := y.2.2.2 i hi
    have e : (if 4 * t + i = 4 * t + i then v else qF A (4 * t + i)) = qF A (4 * t + i) := this
    rw [if_pos rfl] at e
    exact e.symm
theorem kc_K {t : Nat} {v : Int32} (ht : t < T) : keC T A (seK A t v) ↔ fzA A t = true ∧ qK A t ≠ v := by
  constructor
  · rintro ⟨u, hu, hz, hs⟩
    by_cases q : u = t ∧ qK A t ≠ v
    · exact ⟨q.1 ▸ hz, q.2⟩
    · refine absurd ⟨rfl, ?_, rfl, fun k hk => rfl⟩ hs
      show (if u = t then v else qK A u) = qK A u
      by_cases c : u = t
      · have c2 : qK A t = v := by
          by_cases c3 : qK A t = v
          · exact c3
          · exact absurd ⟨c, c3⟩ q
        rw [if_pos c, c, c2]
      · rw [if_neg c]
  · rintro ⟨hz, hv⟩
    refine ⟨t, ht, hz, fun y => hv ?_⟩
    have e : (if t = t then v else qK A t) = qK A t := y.2.1
    rw [if_pos rfl] at e
    exact e.symm
theorem kc_L {i : Nat} {v : Int32} : ¬ keC T A (seL A i v) := fun ⟨_, _, _, hs⟩ => hs ⟨rfl, rfl, rfl, fun _ _ => rfl⟩
theorem kc_Z {i n : Nat} : ¬ keC T A (seZ A i n) := fun ⟨_, _, _, hs⟩ => hs ⟨rfl, rfl, rfl, fun _ _ => rfl⟩
end RTails
