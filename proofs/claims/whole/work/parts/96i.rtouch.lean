/-! THE OTHER ONE: copies; isTouched -/
theorem rci_go {a b sp dp N Ea Eb : Nat} (hEa : Ea < 2 ^ 31) (hEb : Eb < 2 ^ 31) (hab : a ≠ b ∨ dp ≤ sp) (h1 : sp + N ≤ Ea) (h2 : dp + N ≤ Eb) (g : AH) : ∀ (m n : Nat) (h : AH) (i : Nat), i + m = N → m < n → aK h a = 10 → aE h a = Ea → aK h b = 10 → aE h b = Eb → Fg g h (fun x j => x = b ∧ dp ≤ j ∧ j < dp + N) → (∀ k, k < i → aI h b (dp + k) = aI g a (sp + k)) → (∀ k, i ≤ k → k < N → aI h a (sp + k) = aI g a (sp + k)) →
    ∃ h', f_X9_copyInts_3 a (nI sp) b (nI dp) (nI N) n h (nI i) = some h' ∧ Fg g h' (fun x j => x = b ∧ dp ≤ j ∧ j < dp + N) ∧ ∀ k, k < N → aI h' b (dp + k) = aI g a (sp + k) := by
  intro m
  induction m with
  | zero =>
    intro n h i hi hn k1 e1 k2 e2 f d r
    obtain ⟨n, rfl⟩ : ∃ j, n = j + 1 := ⟨n - 1, by omega⟩
    refine ⟨h, ?_, f, fun k hk => d k (by omega)⟩
    unfold f_X9_copyInts_3
    rw [if_pos (nI_le (by omega) (by omega))]
  | succ m ih =>
    intro n h i hi hn k1 e1 k2 e2 f d r
    obtain ⟨n, rfl⟩ : ∃ j, n = j + 1 := ⟨n - 1, by omega⟩
    have f2 : Fg g (sI h b (dp + i) (aI h a (sp + i))) (fun x j => x = b ∧ dp ≤ j ∧ j < dp + N) := f.tr (Fg.si ⟨rfl, by omega, by omega⟩)
    obtain ⟨h', e', f', g'⟩ := ih n (sI h b (dp + i) (aI h a (sp + i))) (i + 1) (by omega) (by omega) k1 e1 k2 e2 f2 (fun k hk => by
      rw [sI_I]
      by_cases q : k = i
      · rw [if_pos ⟨rfl, by omega⟩, q]; exact r i (Nat.le_refl _) (by omega)
      · rw [if_neg (by omega)]; exact d k (by omega)) (fun k h3 h4 => by
      rw [sI_I, if_neg (fun q => by
        rcases hab with q2 | q2
        · exact q2 q.1
        · omega)]
      exact r k (by omega) h4)
    refine ⟨h', ?_, f', g'⟩
    unfold f_X9_copyInts_3
    rw [if_neg (nI_ge (by omega) (by omega)), nI_add, nI_add, ldI_n k1 (by omega) (by omega), bs, stI_n k2 (by omega) (by omega), bs, nI_1, e']
theorem r_copyInts {h : AH} {a b sp dp n : Nat} (ka : aK h a = 10) (kb : aK h b = 10) (ha : sp + n ≤ aE h a) (hb : dp + n ≤ aE h b) (hEa : aE h a < 2 ^ 31) (hEb : aE h b < 2 ^ 31) (hab : a ≠ b ∨ dp ≤ sp) : ∃ h', f_X9_copyInts h a (nI sp) b (nI dp) (nI n) = some h' ∧ Fg h h' (fun x j => x = b ∧ dp ≤ j ∧ j < dp + n) ∧ ∀ k, k < n → aI h' b (dp + k) = aI h a (sp + k) := by
  obtain ⟨h', e, f, g⟩ := rci_go hEa hEb hab ha hb h n FU h 0 (by omega) (by unfold FU; omega) ka rfl kb rfl (Fg.rf _ _) (fun k hk => by omega) (fun k _ _ => rfl)
  refine ⟨h', ?_, f, g⟩
  unfold f_X9_copyInts
  rw [show (0 : Int32) = nI 0 from rfl, e, bs]
theorem rcl_go {a b sp dp N Ea Eb : Nat} (hEa : Ea < 2 ^ 31) (hEb : Eb < 2 ^ 31) (hab : a ≠ b ∨ dp ≤ sp) (h1 : sp + N ≤ Ea) (h2 : dp + N ≤ Eb) (g : AH) : ∀ (m n : Nat) (h : AH) (i : Nat), i + m = N → m < n → aK h a = 11 → aE h a = Ea → aK h b = 11 → aE h b = Eb → Fg g h (fun x j => x = b ∧ dp ≤ j ∧ j < dp + N) → (∀ k, k < i → aJ h b (dp + k) = aJ g a (sp + k)) → (∀ k, i ≤ k → k < N → aJ h a (sp + k) = aJ g a (sp + k)) →
    ∃ h', f_X9_copyLongs_3 a (nI sp) b (nI dp) (nI N) n h (nI i) = some h' ∧ Fg g h' (fun x j => x = b ∧ dp ≤ j ∧ j < dp + N) ∧ ∀ k, k < N → aJ h' b (dp + k) = aJ g a (sp + k) := by
  intro m
  induction m with
  | zero =>
    intro n h i hi hn k1 e1 k2 e2 f d r
    obtain ⟨n, rfl⟩ : ∃ j, n = j + 1 := ⟨n - 1, by omega⟩
    refine ⟨h, ?_, f, fun k hk => d k (by omega)⟩
    unfold f_X9_copyLongs_3
    rw [if_pos (nI_le (by omega) (by omega))]
  | succ m ih =>
    intro n h i hi hn k1 e1 k2 e2 f d r
    obtain ⟨n, rfl⟩ : ∃ j, n = j + 1 := ⟨n - 1, by omega⟩
    have f2 : Fg g (sJ h b (dp + i) (aJ h a (sp + i))) (fun x j => x = b ∧ dp ≤ j ∧ j < dp + N) := f.tr (Fg.sj ⟨rfl, by omega, by omega⟩)
    obtain ⟨h', e', f', g'⟩ := ih n (sJ h b (dp + i) (aJ h a (sp + i))) (i + 1) (by omega) (by omega) k1 e1 k2 e2 f2 (fun k hk => by
      rw [sJ_J]
      by_cases q : k = i
      · rw [if_pos ⟨rfl, by omega⟩, q]; exact r i (Nat.le_refl _) (by omega)
      · rw [if_neg (by omega)]; exact d k (by omega)) (fun k h3 h4 => by
      rw [sJ_J, if_neg (fun q => by
        rcases hab with q2 | q2
        · exact q2 q.1
        · omega)]
      exact r k (by omega) h4)
    refine ⟨h', ?_, f', g'⟩
    unfold f_X9_copyLongs_3
    rw [if_neg (nI_ge (by omega) (by omega)), nI_add, nI_add, ldJ_n k1 (by omega) (by omega), bs, stJ_n k2 (by omega) (by omega), bs, nI_1, e']
theorem r_copyLongs {h : AH} {a b sp dp n : Nat} (ka : aK h a = 11) (kb : aK h b = 11) (ha : sp + n ≤ aE h a) (hb : dp + n ≤ aE h b) (hEa : aE h a < 2 ^ 31) (hEb : aE h b < 2 ^ 31) (hab : a ≠ b ∨ dp ≤ sp) : ∃ h', f_X9_copyLongs h a (nI sp) b (nI dp) (nI n) = some h' ∧ Fg h h' (fun x j => x = b ∧ dp ≤ j ∧ j < dp + n) ∧ ∀ k, k < n → aJ h' b (dp + k) = aJ h a (sp + k) := by
  obtain ⟨h', e, f, g⟩ := rcl_go hEa hEb hab ha hb h n FU h 0 (by omega) (by unfold FU; omega) ka rfl kb rfl (Fg.rf _ _) (fun k hk => by omega) (fun k _ _ => rfl)
  refine ⟨h', ?_, f, g⟩
  unfold f_X9_copyLongs
  rw [show (0 : Int32) = nI 0 from rfl, e, bs]
section RTouch2
variable {B : BK} {P A : AP} {N F : Nat → Int64}
/-- how many looks a step has -/
theorem id_cnt {W : WfB B} {c s : Nat} (hc : c < 258) (hs : s < nsN B c) : (∀ X Y : AP, (idS B X c s).length = (idS B Y c s).length) ∨ (∀ X : AP, (idS B X c s).length = qS X (owN c)) := by
  by_cases q : cdN B c s = 9 ∨ cdN B c s = 10 ∨ cdN B c s = 11
  · refine Or.inr (fun X => ?_)
    obtain ⟨-, -, v3⟩ := ok_all W hc hs q
    have l1 : lsD X c = owN c := by unfold lsD lsN; rw [if_neg v3]; rfl
    unfold idS
    rw [if_neg (by omega), if_neg (by omega), if_neg (by omega), if_pos q]
    unfold sdS
    rw [if_pos q, l1]
    simp
  · refine Or.inl (fun X Y => ?_)
    unfold idS
    split
    · rfl
    · split
      · rfl
      · split
        · rfl
        · split <;> rfl
theorem id_all {W : WfB B} {c : Nat} (hc : c < 258) : ∀ n, n ≤ nsN B c → (qS P (owN c) ≤ qS A (owN c)) → (idL B P c n).length ≤ (idL B A c n).length ∧ ((idL B P c n).length = (idL B A c n).length → ∀ s, s < n → (idS B P c s).length = (idS B A c s).length) := by
  intro n
  induction n with
  | zero => intro _ _; exact ⟨Nat.le_refl _, fun _ s hs => by omega⟩
  | succ n ih =>
    intro hn hq
    obtain ⟨i1, i2⟩ := ih (by omega) hq
    have hle : (idS B P c n).length ≤ (idS B A c n).length := by
      rcases id_cnt (W := W) hc (show n < nsN B c by omega) with q | q
      · rw [q P A]; exact Nat.le_refl _
      · rw [q P, q A]; exact hq
    rw [idL_s, idL_s, List.length_append, List.length_append]
    refine ⟨by omega, fun e s hs => ?_⟩
    by_cases q : s = n
    · subst q; omega
    · exact i2 (by omega) s (by omega)
theorem idL_eq {W : WfB B} {c : Nat} (hc : c < 258) : ∀ n, n ≤ nsN B c → (idL B P c n = idL B A c n ↔ ∀ s, s < n → idS B P c s = idS B A c s) := by
  intro n hn
  constructor
  · intro e
    have hlen : ∀ s, s < n → (idS B P c s).length = (idS B A c s).length := by
      rcases Nat.le_total (qS P (owN c)) (qS A (owN c)) with q | q
      · exact (id_all (W := W) hc n hn q).2 (by rw [e])
      · intro s hs
        exact ((id_all (W := W) (P := A) (A := P) hc n hn q).2 (by rw [e]) s hs).symm
    clear hn
    induction n with
    | zero => intro s hs; omega
    | succ n ih =>
      intro s hs
      rw [idL_s, idL_s] at e
      obtain ⟨e1, e2⟩ := List.append_inj' e (hlen n (by omega))
      by_cases q : s = n
      · rw [q]; exact e2
      · exact ih e1 (fun s hs => hlen s (by omega)) s (by omega)
  · intro hall
    clear hn
    induction n with
    | zero => rfl
    | succ n ih => rw [idL_s, idL_s, ih (fun s hs => hall s (by omega)), hall n (by omega)]
theorem idL_in {c n i : Nat} : i ∈ idL B A c n ↔ ∃ s, s < n ∧ i ∈ idS B A c s := by
  unfold idL
  rw [List.mem_flatMap]
  constructor
  · rintro ⟨s, h1, h2⟩; exact ⟨s, List.mem_range.mp h1, h2⟩
  · rintro ⟨s, h1, h2⟩; exact ⟨s, List.mem_range.mpr h1, h2⟩
/-- no step differs: the looks are the same, and their values -/
theorem df_all {W : WfB B} (fP : WfA P (bT B) (bL B)) (fA : WfA A (bT B) (bL B)) {c : Nat} (hc : c < 258) (hP : isC B P c = true) (hA : isC B A c = true) : (List.range (nsN B c)).any (dfS B P A N F c) = false ↔ idL B P c (nsN B c) = idL B A c (nsN B c) ∧ ∀ i, i ∈ idL B A c (nsN B c) → vlG A F (owN c) i = vlG P N (owN c) i := by
  rw [List.any_eq_false, idL_eq (W := W) hc _ (Nat.le_refl _)]
  constructor
  · intro h
    have h' : ∀ s, s < nsN B c → dfS B P A N F c s = false := fun s hs => by
      have := h s (List.mem_range.mpr hs)
      simpa using this
    refine ⟨fun s hs => ((df_id (W := W) fP fA hc hP hA hs).mp (h' s hs)).1, fun i hi => ?_⟩
    obtain ⟨s, hs, h2⟩ := idL_in.mp hi
    exact ((df_id (W := W) fP fA hc hP hA hs).mp (h' s hs)).2 i h2
  · rintro ⟨h1, h2⟩ s hs
    have hs' := List.mem_range.mp hs
    rw [(df_id (N := N) (F := F) (W := W) fP fA hc hP hA hs').mpr ⟨h1 s hs', fun i hi => h2 i (idL_in.mpr ⟨s, hs', hi⟩)⟩]
    decide
end RTouch2
