/-! plans that change: what holds of the rows when places are only shifted -/
def setR (A : AP) (r : Nat → Nat → Nat) (s : Nat → Nat) : AP := (A.1, A.2.1, A.2.2.1, r, s, A.2.2.2.2.2)
theorem wf_phi {A : AP} {T Ls : Nat} (f : WfA A T Ls) {r : Nat → Nat → Nat} {s : Nat → Nat} (f1 f2 : Nat → Nat → Nat) (hv : ∀ l k, k < s l → f2 l k < qS A (f1 l k) ∧ r l k = qR A (f1 l k) (f2 l k)) (hi : ∀ l k l' k', k < s l → k' < s l' → f1 l k = f1 l' k' → f2 l k = f2 l' k' → l = l' ∧ k = k') (h0 : ∀ l, Ls ≤ l → s l = 0) : WfA (setR A r s) T Ls := by
  refine ⟨f.1, f.2.1, fun l k hk => ?_, fun l k l' k' hk hk' e => ?_, h0, f.2.2.2.2.2.1, f.2.2.2.2.2.2⟩
  · obtain ⟨a, b⟩ := hv l k hk
    show r l k < T
    rw [b]
    exact f.2.2.1 _ _ a
  · obtain ⟨a, b⟩ := hv l k hk
    obtain ⟨a', b'⟩ := hv l' k' hk'
    have e' : r l k = r l' k' := e
    rw [b, b'] at e'
    obtain ⟨c, d⟩ := f.2.2.2.1 _ _ _ _ a a' e'
    exact hi l k l' k' hk hk' c d
/-- homes and places, out of the rows -/
theorem home_of {h : AH} {p : Nat} {A : AP} {T Ls : Nat} (f : WfA A T Ls) (hin : ∀ l k, l < 6 → k < qS A l → aI h (p + 4) (qR A l k) = nI l ∧ aI h (p + 5) (qR A l k) = nI k) (hout : ∀ t, t < 40 → (∀ l k, k < qS A l → qR A l k ≠ t) → aI h (p + 4) t = -1 ∧ aI h (p + 5) t = -1) : (∀ t, t < 40 → aI h (p + 4) t = ov (hmA A t)) ∧ ∀ t, t < 40 → aI h (p + 5) t = ov (spA A t) := by
  have key : ∀ t, t < 40 → aI h (p + 4) t = ov (hmA A t) ∧ aI h (p + 5) t = ov (spA A t) := by
    intro t ht
    rcases hm_or f t with ⟨e1, e2, hn⟩ | ⟨l, k, -, hl, hk, e, e1, e2⟩
    · rw [e1, e2]
      exact hout t ht hn
    · rw [e1, e2, ← e]
      exact hin l k hl hk
  exact ⟨fun t ht => (key t ht).1, fun t ht => (key t ht).2⟩
theorem home_in {h : AH} {p : Nat} {A : AP} {T Ls : Nat} (R : RepC h p A) (f : WfA A T Ls) {l k : Nat} (hk : k < qS A l) : aI h (p + 4) (qR A l k) = nI l ∧ aI h (p + 5) (qR A l k) = nI k := by
  obtain ⟨e1, e2⟩ := hm_at f hk
  rw [R.2.2.2.1 _ (f.t40 hk), R.2.2.2.2.1 _ (f.t40 hk), e1, e2]
  exact ⟨rfl, rfl⟩
theorem home_out {h : AH} {p : Nat} {A : AP} (R : RepC h p A) {t : Nat} (ht : t < 40) (hn : ∀ l k, l < 6 → k < qS A l → qR A l k ≠ t) : aI h (p + 4) t = -1 ∧ aI h (p + 5) t = -1 := by
  obtain ⟨e1, e2⟩ := hm_off hn
  rw [R.2.2.2.1 t ht, R.2.2.2.2.1 t ht, e1, e2]
  exact ⟨rfl, rfl⟩
theorem RepC.fr {h h' : AH} {p : Nat} {A : AP} {S : Nat → Prop} (R : RepC h p A) (f : FrI h h' S) (hS : ∀ a, p < a → a ≤ p + 8 → ¬ S a) : RepC h' p A := by
  have e : ∀ j, j < 8 → aI h' (p + 1 + j) = aI h (p + 1 + j) := fun j hj => f.2.2.2.2.2 _ (hS _ (by omega) (by omega))
  unfold RepC
  rw [show aI h' (p + 1) = aI h (p + 1) from e 0 (by decide), show aI h' (p + 2) = aI h (p + 2) from e 1 (by decide), show aI h' (p + 3) = aI h (p + 3) from e 2 (by decide), show aI h' (p + 4) = aI h (p + 4) from e 3 (by decide), show aI h' (p + 5) = aI h (p + 5) from e 4 (by decide), show aI h' (p + 6) = aI h (p + 6) from e 5 (by decide), show aI h' (p + 7) = aI h (p + 7) from e 6 (by decide), show aI h' (p + 8) = aI h (p + 8) from e 7 (by decide)]
  exact R
/-- a plan whose rows alone have changed -/
theorem rep_rows {h h' : AH} {p : Nat} {A : AP} {T Ls : Nat} {r : Nat → Nat → Nat} {s : Nat → Nat} (R : RepC h p A) (f : WfA (setR A r s) T Ls) (fr : FrI h h' (fun a => p + 4 ≤ a ∧ a ≤ p + 7)) (h6 : ∀ l k, l < 6 → k < s l → aI h' (p + 6) (40 * l + k) = nI (r l k)) (h7 : ∀ l, l < 6 → aI h' (p + 7) l = nI (s l)) (hin : ∀ l k, l < 6 → k < s l → aI h' (p + 4) (r l k) = nI l ∧ aI h' (p + 5) (r l k) = nI k) (hout : ∀ t, t < 40 → (∀ l k, k < s l → r l k ≠ t) → aI h' (p + 4) t = -1 ∧ aI h' (p + 5) t = -1) : RepC h' p (setR A r s) := by
  obtain ⟨r1, r2, r3, -, -, -, -, r8⟩ := R
  obtain ⟨a, b⟩ := home_of (h := h') (p := p) f hin hout
  refine ⟨?_, ?_, ?_, a, b, h6, h7, ?_⟩
  · rw [fr.2.2.2.2.2 (p + 1) (by omega)]; exact r1
  · rw [fr.2.2.2.2.2 (p + 2) (by omega)]; exact r2
  · rw [fr.2.2.2.2.2 (p + 3) (by omega)]; exact r3
  · rw [fr.2.2.2.2.2 (p + 8) (by omega)]; exact r8
theorem c40m (l : Nat) : 40 * nI l = nI (40 * l) := by rw [show (40 : Int32) = nI 40 from rfl, pk_mul]
theorem q_ins_loop {p l k : Nat} {t9 l9 : Int32} (hl : l < 6) : ∀ (n q : Nat) (h : AH), q - k < n → k ≤ q → q < 40 → WPl h p →
    ∃ h', f_X4_insert_26 p t9 l9 (nI k) (nI (40 * l)) n h (nI q) = some h' ∧ FrI h h' (fun a => a = p + 6) ∧ ∀ i, aI h' (p + 6) i = if 40 * l + k < i ∧ i ≤ 40 * l + q then aI h (p + 6) (i - 1) else aI h (p + 6) i := by
  intro n
  induction n with
  | zero => intro q h hn; omega
  | succ n ih =>
    intro q h hn hk hq w
    unfold f_X4_insert_26
    by_cases hc : q ≤ k
    · rw [if_pos (nI_le hc (by omega))]
      refine ⟨h, rfl, FrI.rf h _, fun i => ?_⟩
      rw [if_neg (by omega)]
    · obtain ⟨r, rfl⟩ : ∃ r, q = r + 1 := ⟨q - 1, by omega⟩
      have e1 : nI (40 * l) + nI (r + 1) - 1 = nI (40 * l + r) := by rw [nI_add, ← Nat.add_assoc, nI_pred]
      rw [if_neg (nI_ge (by omega) (by omega)), w.p 5 (by decide), bs, bs, e1, w.ld 5 (by decide) (show 40 * l + r < eP 5 by show _ < 240; omega), bs, nI_add, w.st 5 (by decide) (show 40 * l + (r + 1) < eP 5 by show _ < 240; omega), bs, pk_m1]
      obtain ⟨h2, eh2⟩ : ∃ y, y = sI h (p + 1 + 5) (40 * l + (r + 1)) (aI h (p + 1 + 5) (40 * l + r)) := ⟨_, rfl⟩
      have f2 : FrI h h2 (fun a => a = p + 6) := by
        rw [eh2]
        exact FrI.st (by omega)
      have k6 : ∀ i, aI h2 (p + 6) i = if i = 40 * l + (r + 1) then aI h (p + 6) (40 * l + r) else aI h (p + 6) i := fun i => by
        rw [eh2, sI_I]
        by_cases e : i = 40 * l + (r + 1)
        · rw [if_pos ⟨by omega, e⟩, if_pos e, show p + 1 + 5 = p + 6 by omega]
        · rw [if_neg (fun z => e z.2), if_neg e]
      rw [← eh2]
      obtain ⟨h', e3, f3, g3⟩ := ih r h2 (by omega) (by omega) (by omega) (f2.pl w)
      refine ⟨h', e3, f2.tr f3, fun i => ?_⟩
      rw [g3 i]
      by_cases c1 : 40 * l + k < i ∧ i ≤ 40 * l + r
      · rw [if_pos c1, if_pos (by omega), k6, if_neg (by omega)]
      · rw [if_neg c1, k6]
        by_cases c2 : i = 40 * l + (r + 1)
        · rw [if_pos c2, if_pos (by omega), c2]
          rfl
        · rw [if_neg c2, if_neg (by omega)]
def insR (A : AP) (l k t : Nat) : Nat → Nat → Nat := fun m i => if m = l then (if i < k then qR A l i else if i = k then t else qR A l (i - 1)) else qR A m i
def insS (A : AP) (l : Nat) : Nat → Nat := fun m => if m = l then qS A l + 1 else qS A m
def insA (A : AP) (l k t : Nat) : AP := setR A (insR A l k t) (insS A l)
theorem ins_wf {A : AP} {T Ls l k t : Nat} (f : WfA A T Ls) (ht : t < T) (hl : l < Ls) (hk : k ≤ qS A l) (hn : ∀ l k, k < qS A l → qR A l k ≠ t) : WfA (insA A l k t) T Ls := by
  have key : ∀ m i, i < insS A l m → (m = l ∧ i = k ∧ insR A l k t m i = t) ∨ (¬ (m = l ∧ i = k) ∧ (if m = l ∧ k < i then i - 1 else i) < qS A m ∧ insR A l k t m i = qR A m (if m = l ∧ k < i then i - 1 else i)) := by
    intro m i hi
    unfold insS at hi
    unfold insR
    by_cases hm : m = l
    · subst hm
      rw [if_pos rfl] at hi
      rw [if_pos rfl]
      by_cases c1 : i < k
      · rw [if_pos c1, if_neg (by omega)]
        exact Or.inr ⟨by omega, by omega, rfl⟩
      · rw [if_neg c1]
        by_cases c2 : i = k
        · rw [if_pos c2]
          exact Or.inl ⟨rfl, c2, rfl⟩
        · rw [if_neg c2, if_pos (by omega)]
          exact Or.inr ⟨by omega, by omega, rfl⟩
    · rw [if_neg hm] at hi
      rw [if_neg hm, if_neg (by omega)]
      exact Or.inr ⟨by omega, hi, rfl⟩
  refine ⟨f.1, f.2.1, fun m i hi => ?_, fun m i m' i' hi hi' e => ?_, fun m hm => ?_, f.2.2.2.2.2.1, f.2.2.2.2.2.2⟩
  · show insR A l k t m i < T
    rcases key m i hi with ⟨-, -, e⟩ | ⟨-, a, e⟩
    · rw [e]; exact ht
    · rw [e]; exact f.2.2.1 _ _ a
  · have e' : insR A l k t m i = insR A l k t m' i' := e
    rcases key m i hi with ⟨a, b, c⟩ | ⟨a, b, c⟩ <;> rcases key m' i' hi' with ⟨a', b', c'⟩ | ⟨a', b', c'⟩
    · omega
    · rw [c, c'] at e'
      exact absurd e'.symm (hn _ _ b')
    · rw [c, c'] at e'
      exact absurd e' (hn _ _ b)
    · rw [c, c'] at e'
      obtain ⟨q1, q2⟩ := f.2.2.2.1 _ _ _ _ b b' e'
      subst q1
      refine ⟨rfl, ?_⟩
      split at q2 <;> split at q2 <;> omega
  · show insS A l m = 0
    unfold insS
    rw [if_neg (by omega)]
    exact f.2.2.2.2.1 m hm
