/-! seat: the things of a list, from a place on, are told where they stand -/
theorem aI_st_eq {h : AH} {a i : Nat} {v : Int32} : aI (sI h a i v) a i = v := by rw [sI_I, if_pos ⟨rfl, rfl⟩]
theorem aI_st_ne {h : AH} {a i b j : Nat} {v : Int32} (hn : ¬ (b = a ∧ j = i)) : aI (sI h a i v) b j = aI h b j := by rw [sI_I, if_neg hn]
theorem WPl.st {h : AH} {p : Nat} (w : WPl h p) (j : Nat) (hj : j < 8) {i : Nat} (hi : i < eP j) (v : Int32) : stI h (p + 1 + j) (nI i) v = some (sI h (p + 1 + j) i v) := by
  have := eP_le j
  exact stI_n (w.2.2.1 j hj) (by rw [w.2.2.2 j hj]; exact hi) (by rw [w.2.2.2 j hj]; omega)
theorem q_seat_loop {p l len : Nat} {x : Nat → Nat} (hl : l < 6) (hlen : len ≤ 40) (hx : ∀ i, i < len → x i < 40) (hinj : ∀ i j, i < len → j < len → x i = x j → i = j) : ∀ (n k : Nat) (h : AH), len - k < n → k ≤ len → WPl h p → aI h (p + 7) l = nI len → (∀ i, i < len → aI h (p + 6) (40 * l + i) = nI (x i)) →
    ∃ h', f_X4_seat_2 p (nI l) n h (nI k) = some h' ∧ FrI h h' (fun a => a = p + 4 ∨ a = p + 5) ∧ (∀ i, k ≤ i → i < len → aI h' (p + 4) (x i) = nI l ∧ aI h' (p + 5) (x i) = nI i) ∧ ∀ t, (∀ i, k ≤ i → i < len → x i ≠ t) → aI h' (p + 4) t = aI h (p + 4) t ∧ aI h' (p + 5) t = aI h (p + 5) t := by
  intro n
  induction n with
  | zero => intro k h hn; omega
  | succ n ih =>
    intro k h hn hk w hs hr
    unfold f_X4_seat_2
    rw [w.p 6 (by decide), bs, w.ld 6 (by decide) (show l < eP 6 from hl), bs, hs]
    by_cases hc : len ≤ k
    · rw [if_pos (nI_le hc (by omega))]
      exact ⟨h, rfl, FrI.rf h _, fun i h1 h2 => by omega, fun t _ => ⟨rfl, rfl⟩⟩
    · have hk' : k < len := by omega
      have hxk := hx k hk'
      rw [if_neg (nI_ge hk' (by omega)), w.p 5 (by decide), bs, c40, w.ld 5 (by decide) (show 40 * l + k < eP 5 by show _ < 240; omega), bs, hr k hk', w.p 3 (by decide), bs, w.st 3 (by decide) (show x k < eP 3 from hxk), bs]
      have w1 : WPl (sI h (p + 1 + 3) (x k) (nI l)) p := sI_w w
      rw [w1.p 4 (by decide), bs, w1.st 4 (by decide) (show x k < eP 4 from hxk), bs, nI_1]
      have w2 : WPl (sI (sI h (p + 1 + 3) (x k) (nI l)) (p + 1 + 4) (x k) (nI k)) p := sI_w w1
      obtain ⟨h2, eh2⟩ : ∃ y, y = sI (sI h (p + 1 + 3) (x k) (nI l)) (p + 1 + 4) (x k) (nI k) := ⟨_, rfl⟩
      rw [← eh2] at w2 ⊢
      have f2 : FrI h h2 (fun a => a = p + 4 ∨ a = p + 5) := by
        rw [eh2]
        exact (FrI.st (Or.inl (by omega))).tr (FrI.st (Or.inr (by omega)))
      have k4 : ∀ t, aI h2 (p + 4) t = if t = x k then nI l else aI h (p + 4) t := fun t => by
        rw [eh2, aI_st_ne (by omega), sI_I]
        by_cases e : t = x k
        · rw [if_pos ⟨by omega, e⟩, if_pos e]
        · rw [if_neg (fun q => e q.2), if_neg e]
      have k5 : ∀ t, aI h2 (p + 5) t = if t = x k then nI k else aI h (p + 5) t := fun t => by
        rw [eh2, sI_I]
        by_cases e : t = x k
        · rw [if_pos ⟨by omega, e⟩, if_pos e]
        · rw [if_neg (fun q => e q.2), if_neg e, aI_st_ne (by omega)]
      obtain ⟨h', e1, f1, g1, g2⟩ := ih (k + 1) h2 (by omega) (by omega) w2 (by rw [f2.2.2.2.2.2 (p + 7) (by omega)]; exact hs) (fun i hi => by rw [f2.2.2.2.2.2 (p + 6) (by omega)]; exact hr i hi)
      refine ⟨h', e1, f2.tr f1, fun i h1 h3 => ?_, fun t ht => ?_⟩
      · rcases Nat.lt_or_ge k i with q | q
        · exact g1 i q h3
        · have e : i = k := by omega
          subst e
          obtain ⟨a1, a2⟩ := g2 (x i) (fun j h4 h5 e => by have := hinj j i h5 h3 e; omega)
          rw [a1, a2, k4, k5, if_pos rfl, if_pos rfl]
          exact ⟨rfl, rfl⟩
      · obtain ⟨a1, a2⟩ := g2 t (fun j h4 h5 => ht j (by omega) h5)
        have hne : t ≠ x k := fun e => ht k (Nat.le_refl k) hk' e.symm
        rw [a1, a2, k4, k5, if_neg hne, if_neg hne]
        exact ⟨rfl, rfl⟩
theorem q_seat {p l len : Nat} {x : Nat → Nat} (hl : l < 6) (hlen : len ≤ 40) (hx : ∀ i, i < len → x i < 40) (hinj : ∀ i j, i < len → j < len → x i = x j → i = j) {k : Nat} {h : AH} (hk : k ≤ len) (w : WPl h p) (hs : aI h (p + 7) l = nI len) (hr : ∀ i, i < len → aI h (p + 6) (40 * l + i) = nI (x i)) :
    ∃ h', f_X4_seat h p (nI l) (nI k) = some h' ∧ FrI h h' (fun a => a = p + 4 ∨ a = p + 5) ∧ (∀ i, k ≤ i → i < len → aI h' (p + 4) (x i) = nI l ∧ aI h' (p + 5) (x i) = nI i) ∧ ∀ t, (∀ i, k ≤ i → i < len → x i ≠ t) → aI h' (p + 4) t = aI h (p + 4) t ∧ aI h' (p + 5) t = aI h (p + 5) t := by
  obtain ⟨h', e1, r⟩ := q_seat_loop hl hlen hx hinj FU k h (by unfold FU; omega) hk w hs hr
  refine ⟨h', ?_, r⟩
  unfold f_X4_seat
  rw [if_pos w.1, e1, bs]
