/-! putAt, exchange, reverse -/
theorem q_putAt {h : AH} {p t l k : Nat} (w : WPl h p) (ht : t < 40) (hl : l < 6) (hk : k < 40) :
    ∃ h', f_X4_putAt h p (nI t) (nI l) (nI k) = some h' ∧ FrI h h' (fun a => p + 4 ≤ a ∧ a ≤ p + 6) ∧ (∀ i, aI h' (p + 6) i = if i = 40 * l + k then nI t else aI h (p + 6) i) ∧ (∀ u, aI h' (p + 4) u = if u = t then nI l else aI h (p + 4) u) ∧ ∀ u, aI h' (p + 5) u = if u = t then nI k else aI h (p + 5) u := by
  unfold f_X4_putAt
  rw [if_pos w.1, w.p 5 (by decide), bs, c40, w.st 5 (by decide) (show 40 * l + k < eP 5 by show _ < 240; omega), bs]
  obtain ⟨h1, eh1⟩ : ∃ y, y = sI h (p + 1 + 5) (40 * l + k) (nI t) := ⟨_, rfl⟩
  have f1 : FrI h h1 (fun a => a = p + 6) := by rw [eh1]; exact FrI.st (by omega)
  have w1 := f1.pl w
  rw [← eh1, w1.p 3 (by decide), bs, w1.st 3 (by decide) (show t < eP 3 from ht), bs]
  obtain ⟨h2, eh2⟩ : ∃ y, y = sI h1 (p + 1 + 3) t (nI l) := ⟨_, rfl⟩
  have f2 : FrI h1 h2 (fun a => a = p + 4) := by rw [eh2]; exact FrI.st (by omega)
  have w2 := f2.pl w1
  rw [← eh2, w2.p 4 (by decide), bs, w2.st 4 (by decide) (show t < eP 4 from ht), bs]
  obtain ⟨h3, eh3⟩ : ∃ y, y = sI h2 (p + 1 + 4) t (nI k) := ⟨_, rfl⟩
  have f3 : FrI h2 h3 (fun a => a = p + 5) := by rw [eh3]; exact FrI.st (by omega)
  rw [← eh3]
  refine ⟨h3, rfl, ((f1.mono (fun a ha => by omega)).tr (f2.mono (fun a ha => by omega))).tr (f3.mono (fun a ha => by omega)), fun i => ?_, fun u => ?_, fun u => ?_⟩
  · rw [f3.2.2.2.2.2 _ (by omega), f2.2.2.2.2.2 _ (by omega), eh1, sI_I]
    by_cases c : i = 40 * l + k
    · rw [if_pos ⟨by omega, c⟩, if_pos c]
    · rw [if_neg (fun z => c z.2), if_neg c]
  · rw [f3.2.2.2.2.2 _ (by omega), eh2, sI_I, f1.2.2.2.2.2 _ (by omega)]
    by_cases c : u = t
    · rw [if_pos ⟨by omega, c⟩, if_pos c]
    · rw [if_neg (fun z => c z.2), if_neg c]
  · rw [eh3, sI_I, f2.2.2.2.2.2 _ (by omega), f1.2.2.2.2.2 _ (by omega)]
    by_cases c : u = t
    · rw [if_pos ⟨by omega, c⟩, if_pos c]
    · rw [if_neg (fun z => c z.2), if_neg c]
def excR (A : AP) (l k m j : Nat) : Nat → Nat → Nat := fun a i => if a = l ∧ i = k then qR A m j else if a = m ∧ i = j then qR A l k else qR A a i
def excA (A : AP) (l k m j : Nat) : AP := setR A (excR A l k m j) (qS A)
theorem exc_wf {A : AP} {T Ls l k m j : Nat} (f : WfA A T Ls) (hk : k < qS A l) (hj : j < qS A m) : WfA (excA A l k m j) T Ls := by
  refine wf_phi f (fun a i => if a = l ∧ i = k then m else if a = m ∧ i = j then l else a) (fun a i => if a = l ∧ i = k then j else if a = m ∧ i = j then k else i) (fun a i hi => ?_) (fun a i a' i' _ _ e1 e2 => ?_) (fun a ha => f.2.2.2.2.1 a ha)
  · unfold excR
    by_cases c : a = l ∧ i = k
    · simp only [if_pos c]
      exact ⟨hj, trivial⟩
    · simp only [if_neg c]
      by_cases c2 : a = m ∧ i = j
      · simp only [if_pos c2]
        exact ⟨hk, trivial⟩
      · simp only [if_neg c2]
        exact ⟨hi, trivial⟩
  · split at e1 <;> rename_i q1 <;> simp only [q1, if_true, if_false, and_self] at e2 <;> split at e1 <;> rename_i q2 <;> simp only [q2, if_true, if_false, and_self] at e2 <;> first | omega | (split at e1 <;> rename_i q3 <;> simp only [q3, if_true, if_false, and_self] at e2 <;> first | omega | (split at e1 <;> rename_i q4 <;> simp only [q4, if_true, if_false, and_self] at e2 <;> omega))
/-- two stand in each other's places -/
theorem q_exc2 {h : AH} {p : Nat} {A : AP} {T Ls l k m j : Nat} (w : WPl h p) (R : RepC h p A) (f : WfA A T Ls) (hk : k < qS A l) (hj : j < qS A m) (hne : ¬ (l = m ∧ k = j)) :
    ∃ h1 h', f_X4_putAt h p (nI (qR A l k)) (nI m) (nI j) = some h1 ∧ f_X4_putAt h1 p (nI (qR A m j)) (nI l) (nI k) = some h' ∧ FrI h h' (fun a => p + 4 ≤ a ∧ a ≤ p + 7) ∧ RepC h' p (excA A l k m j) ∧ WfA (excA A l k m j) T Ls := by
  have fI := exc_wf f hk hj
  have hlen := f.len l
  have hlenm := f.len m
  have htu : qR A l k ≠ qR A m j := fun e => hne (f.2.2.2.1 l k m j hk hj e)
  obtain ⟨h1, e1, f1, a6, a4, a5⟩ := q_putAt (l := m) (k := j) w (f.t40 hk) (f.l6 hj).2 (by omega)
  obtain ⟨h2, e2, f2, b6, b4, b5⟩ := q_putAt (l := l) (k := k) (f1.pl w) (f.t40 hj) (f.l6 hk).2 (by omega)
  have fr : FrI h h2 (fun a => p + 4 ≤ a ∧ a ≤ p + 7) := (f1.mono (fun a ha => by omega)).tr (f2.mono (fun a ha => by omega))
  have hl6 := (f.l6 hk).2
  have hm6 := (f.l6 hj).2
  refine ⟨h1, h2, e1, e2, fr, rep_rows R fI fr (fun a i ha hi => ?_) (fun a ha => ?_) (fun a i ha hi => ?_) (fun u hu hout => ?_), fI⟩
  · have hla := f.len a
    have hi' : i < qS A a := hi
    rw [b6, a6]
    unfold excR
    by_cases c : a = l ∧ i = k
    · rw [if_pos (by omega), if_pos c]
    · rw [if_neg (by omega), if_neg c]
      by_cases c2 : a = m ∧ i = j
      · rw [if_pos (by omega), if_pos c2]
      · rw [if_neg (by omega), if_neg c2]
        exact R.2.2.2.2.2.1 a i ha hi'
  · rw [f2.2.2.2.2.2 _ (by omega), f1.2.2.2.2.2 _ (by omega)]
    exact R.2.2.2.2.2.2.1 a ha
  · have hi' : i < qS A a := hi
    rw [b4, a4, b5, a5]
    unfold excR
    by_cases c : a = l ∧ i = k
    · rw [if_pos c, if_pos rfl, if_pos rfl, c.1, c.2]
      exact ⟨rfl, rfl⟩
    · rw [if_neg c]
      by_cases c2 : a = m ∧ i = j
      · rw [if_pos c2, if_neg htu, if_neg htu, if_pos rfl, if_pos rfl, c2.1, c2.2]
        exact ⟨rfl, rfl⟩
      · have n1 : qR A a i ≠ qR A m j := fun e => c2 (f.2.2.2.1 a i m j hi' hj e)
        have n2 : qR A a i ≠ qR A l k := fun e => c (f.2.2.2.1 a i l k hi' hk e)
        rw [if_neg c2, if_neg n1, if_neg n1, if_neg n2, if_neg n2]
        exact home_in R f hi'
  · have n1 : u ≠ qR A m j := fun e => hout l k hk (by unfold excR; rw [if_pos ⟨rfl, rfl⟩, e])
    have n2 : u ≠ qR A l k := fun e => hout m j hj (by
      unfold excR
      rw [if_neg (fun z => hne ⟨z.1.symm, z.2.symm⟩), if_pos ⟨rfl, rfl⟩, e])
    rw [b4, a4, b5, a5, if_neg n1, if_neg n1, if_neg n2, if_neg n2]
    refine home_out R hu (fun a i ha hi e => ?_)
    refine hout a i hi ?_
    unfold excR
    rw [if_neg (fun z => n2 (by rw [← e, z.1, z.2])), if_neg (fun z => n1 (by rw [← e, z.1, z.2]))]
    exact e
theorem q_exchange {h : AH} {p : Nat} {A : AP} {T Ls l k m j : Nat} (w : WPl h p) (R : RepC h p A) (f : WfA A T Ls) (hk : k < qS A l) (hj : j < qS A m) (hne : ¬ (l = m ∧ k = j)) :
    ∃ h', f_X4_exchange h p (nI (qR A l k)) (nI (qR A m j)) = some h' ∧ FrI h h' (fun a => p + 4 ≤ a ∧ a ≤ p + 7) ∧ RepC h' p (excA A l k m j) ∧ WfA (excA A l k m j) T Ls := by
  obtain ⟨h1, h2, e1, e2, r⟩ := q_exc2 w R f hk hj hne
  have a1 := home_in R f hk
  have a2 := home_in R f hj
  refine ⟨h2, ?_, r⟩
  unfold f_X4_exchange
  rw [if_pos w.1, w.p 3 (by decide), bs, w.ld 3 (by decide) (f.t40 hk : _ < eP 3), bs, show aI h (p + 1 + 3) _ = _ from a1.1, w.p 4 (by decide), bs, w.ld 4 (by decide) (f.t40 hk : _ < eP 4), bs, show aI h (p + 1 + 4) _ = _ from a1.2, bs, w.ld 3 (by decide) (f.t40 hj : _ < eP 3), bs, show aI h (p + 1 + 3) (qR A m j) = _ from a2.1, bs, w.ld 4 (by decide) (f.t40 hj : _ < eP 4), bs, show aI h (p + 1 + 4) (qR A m j) = _ from a2.2, e1, bs, e2, bs]
/-- a part of a list turned round -/
def revR (A : AP) (l lo hi : Nat) : Nat → Nat → Nat := fun a i => if a = l ∧ lo ≤ i ∧ i ≤ hi then qR A l (lo + hi - i) else qR A a i
def revA (A : AP) (l lo hi : Nat) : AP := setR A (revR A l lo hi) (qS A)
theorem rev_step (A : AP) (l lo hi : Nat) (h : lo < hi) : revA (excA A l lo l hi) l (lo + 1) (hi - 1) = revA A l lo hi := by
  have e : revR (excA A l lo l hi) l (lo + 1) (hi - 1) = revR A l lo hi := by
    funext a i
    show (if a = l ∧ lo + 1 ≤ i ∧ i ≤ hi - 1 then excR A l lo l hi l (lo + 1 + (hi - 1) - i) else excR A l lo l hi a i) = _
    unfold revR excR
    by_cases c : a = l ∧ lo ≤ i ∧ i ≤ hi
    · rw [if_pos c]
      by_cases c1 : i = lo
      · rw [if_neg (by omega), if_pos (by omega), c1, Nat.add_sub_cancel_left]
      · by_cases c2 : i = hi
        · rw [if_neg (by omega), if_neg (by omega), if_pos (by omega), c2, Nat.add_sub_cancel]
        · rw [if_pos (by omega), if_neg (by omega), if_neg (by omega)]
          congr 1
          omega
    · rw [if_neg c, if_neg (by omega), if_neg (by omega), if_neg (by omega)]
  unfold revA
  rw [e]
  rfl
theorem rev_id (A : AP) (l lo hi : Nat) (h : hi ≤ lo) : revR A l lo hi = qR A := by
  funext a i
  unfold revR
  by_cases c : a = l ∧ lo ≤ i ∧ i ≤ hi
  · rw [if_pos c, c.1]
    congr 1
    omega
  · rw [if_neg c]
theorem q_rev_loop {p l T Ls : Nat} : ∀ (n : Nat) (lo hi : Nat) (h : AH) (A : AP), hi - lo < n → lo ≤ 40 → hi < qS A l → WPl h p → RepC h p A → WfA A T Ls →
    ∃ h', f_X4_reverse_12 p (nI l) (nI (40 * l)) n h (nI lo) (nI hi) = some h' ∧ FrI h h' (fun a => p + 4 ≤ a ∧ a ≤ p + 7) ∧ RepC h' p (revA A l lo hi) ∧ WfA (revA A l lo hi) T Ls := by
  intro n
  induction n with
  | zero => intro lo hi h A hn; omega
  | succ n ih =>
    intro lo hi h A hn hl4 hh w R f
    have hlen := f.len l
    have hl6 := (f.l6 hh).2
    by_cases hc : hi ≤ lo
    · unfold f_X4_reverse_12
      by_cases hlo : lo < 2 ^ 31
      · rw [if_pos (nI_le hc hlo)]
        refine ⟨h, rfl, FrI.rf h _, ?_⟩
        have e : revA A l lo hi = A := by
          unfold revA
          rw [rev_id A l lo hi hc]
          rfl
        rw [e]
        exact ⟨R, f⟩
      · exact absurd hlo (by omega)
    · unfold f_X4_reverse_12
      obtain ⟨h1, h2, e1, e2, fr, R2, f2⟩ := q_exc2 w R f hh (show lo < qS A l by omega) (show ¬ (l = l ∧ hi = lo) by omega)
      rw [if_neg (nI_ge (by omega) (by omega)), w.p 5 (by decide), bs, nI_add, w.ld 5 (by decide) (show 40 * l + lo < eP 5 by show _ < 240; omega), bs, bs, nI_add, w.ld 5 (by decide) (show 40 * l + hi < eP 5 by show _ < 240; omega), bs, show aI h (p + 1 + 5) (40 * l + lo) = _ from R.2.2.2.2.2.1 l lo hl6 (by omega), show aI h (p + 1 + 5) (40 * l + hi) = _ from R.2.2.2.2.2.1 l hi hl6 hh, e1, bs, e2, bs, nI_1]
      obtain ⟨g, rfl⟩ : ∃ g, hi = g + 1 := ⟨hi - 1, by omega⟩
      rw [pk_m1]
      have esym : excA A l (g + 1) l lo = excA A l lo l (g + 1) := by
        unfold excA
        congr 1
        funext a i
        unfold excR
        by_cases c1 : a = l ∧ i = g + 1
        · rw [if_pos c1, if_neg (by omega), if_pos c1]
        · rw [if_neg c1]
          by_cases c2 : a = l ∧ i = lo
          · rw [if_pos c2, if_pos c2]
          · rw [if_neg c2, if_neg c2, if_neg c1]
      rw [esym] at R2 f2
      obtain ⟨h3, e3, f3, R3, w3⟩ := ih (lo + 1) g h2 (excA A l lo l (g + 1)) (by omega) (by omega) (show g < qS A l by omega) (fr.pl w) R2 f2
      have e9 := rev_step A l lo (g + 1) (by omega)
      rw [show g + 1 - 1 = g from rfl] at e9
      rw [e9] at R3 w3
      exact ⟨h3, e3, fr.tr f3, R3, w3⟩
theorem q_reverse {h : AH} {p : Nat} {A : AP} {T Ls l lo hi : Nat} (w : WPl h p) (R : RepC h p A) (f : WfA A T Ls) (hh : hi < qS A l) (hlo : lo ≤ hi) :
    ∃ h', f_X4_reverse h p (nI l) (nI lo) (nI hi) = some h' ∧ FrI h h' (fun a => p + 4 ≤ a ∧ a ≤ p + 7) ∧ RepC h' p (revA A l lo hi) ∧ WfA (revA A l lo hi) T Ls := by
  have hlen := f.len l
  obtain ⟨h', e, r⟩ := q_rev_loop (p := p) (l := l) FU lo hi h A (by unfold FU; omega) (by omega) hh w R f
  refine ⟨h', ?_, r⟩
  unfold f_X4_reverse
  rw [if_pos w.1, c40m, e, bs]
