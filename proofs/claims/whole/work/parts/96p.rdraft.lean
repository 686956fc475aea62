/-! THE OTHER ONE: changes of the draft -/
section RDraft
variable {h : AH} {A : AP} {b T Ls : Nat}
theorem rp_rows {h' : AH} {r : Nat → Nat → Nat} {s : Nat → Nat} (R : RpR h b 0 A) (f : WfA (setR A r s) T Ls) (fr : ∀ i, i < 212 ∨ (498 ≤ i ∧ i < 504) → aI h' b i = aI h b i) (h6 : ∀ l k, l < 6 → k < s l → aI h' b (252 + 40 * l + k) = nI (r l k)) (h7 : ∀ l, l < 6 → aI h' b (492 + l) = nI (s l)) (hin : ∀ l k, l < 6 → k < s l → aI h' b (212 + r l k) = nI l) (hout : ∀ t, t < 40 → (∀ l k, l < 6 → k < s l → r l k ≠ t) → aI h' b (212 + t) = -1) : RpR h' b 0 (setR A r s) := by
  obtain ⟨a1, a2, a3, a4, a5, a6, a7⟩ := R
  refine ⟨fun i hi => ?_, fun i hi => ?_, fun i hi => ?_, fun t ht => ?_, fun l k hl hk => ?_, fun l hl => ?_, fun l hl => ?_⟩
  · rw [Nat.zero_add, fr _ (by omega)]; have := a1 i hi; rwa [Nat.zero_add] at this
  · rw [Nat.zero_add, fr _ (by omega)]; have := a2 i hi; rwa [Nat.zero_add] at this
  · rw [Nat.zero_add, fr _ (by omega)]; have := a3 i hi; rwa [Nat.zero_add] at this
  · rw [Nat.zero_add]
    rcases hm_or f t with ⟨e1, -, hn⟩ | ⟨l, k, -, hl, hk, e3, e1, -⟩
    · rw [e1, hout t ht (fun l k _ hk => hn l k hk)]; rfl
    · have hk' : k < s l := hk
      have e3' : r l k = t := e3
      rw [e1, ← e3', hin l k hl hk']; rfl
  · rw [Nat.zero_add]; exact h6 l k hl hk
  · rw [Nat.zero_add]; exact h7 l hl
  · rw [Nat.zero_add, fr _ (by omega)]; have := a7 l hl; rwa [Nat.zero_add] at this
theorem RpR.r6 (R : RpR h b 0 A) {l k : Nat} (hl : l < 6) (hk : k < qS A l) : aI h b (252 + 40 * l + k) = nI (qR A l k) := by have := R.2.2.2.2.1 l k hl hk; rwa [Nat.zero_add] at this
theorem RpR.s6 (R : RpR h b 0 A) {l : Nat} (hl : l < 6) : aI h b (492 + l) = nI (qS A l) := by have := R.2.2.2.2.2.1 l hl; rwa [Nat.zero_add] at this
theorem RpR.h6 (R : RpR h b 0 A) {t : Nat} (ht : t < 40) : aI h b (212 + t) = ov (hmA A t) := by have := R.2.2.2.1 t ht; rwa [Nat.zero_add] at this
theorem RpR.hi (R : RpR h b 0 A) (f : WfA A T Ls) {l k : Nat} (hk : k < qS A l) : aI h b (212 + qR A l k) = nI l := by rw [R.h6 (f.t40 hk), (hm_at f hk).1]; rfl
theorem RpR.ho (R : RpR h b 0 A) {t : Nat} (ht : t < 40) (hn : ∀ l k, l < 6 → k < qS A l → qR A l k ≠ t) : aI h b (212 + t) = -1 := by rw [R.h6 ht, (hm_off hn).1]; rfl
theorem a252k (l k : Nat) : (252 : Int32) + nI l * 40 + nI k = nI (252 + 40 * l + k) := by rw [a252, nI_add]
/-! out -/
theorem out35 (l1 : Int32) {l ln : Nat} (hl : l < 6) (hln : ln ≤ 40) : ∀ (m n : Nat) (h : AH) (i : Nat), i + 1 + m = ln → m < n → Sh h →
    ∃ h', f_X9_out_35 53 l1 (nI l) (nI ln) n h (nI i) = some h' ∧ Fg h h' (fun a j => a = 61 ∧ 252 + 40 * l + i ≤ j ∧ j + 1 < 252 + 40 * l + ln) ∧ ∀ j, i ≤ j → j + 1 < ln → aI h' 61 (252 + 40 * l + j) = aI h 61 (252 + 40 * l + (j + 1)) := by
  intro m
  induction m with
  | zero =>
    intro n h i hi hn S
    obtain ⟨n, rfl⟩ : ∃ j, n = j + 1 := ⟨n - 1, by omega⟩
    refine ⟨h, ?_, Fg.rf _ _, fun j h1 h2 => by omega⟩
    unfold f_X9_out_35
    rw [nI_1, if_pos (nI_le (by omega) (by omega))]
  | succ m ih =>
    intro n h i hi hn S
    obtain ⟨n, rfl⟩ : ∃ j, n = j + 1 := ⟨n - 1, by omega⟩
    obtain ⟨h1, eh1⟩ : ∃ z, z = sI h 61 (252 + 40 * l + i) (aI h 61 (252 + 40 * l + (i + 1))) := ⟨_, rfl⟩
    have f1 : Fg h h1 (fun a j => a = 61 ∧ j = 252 + 40 * l + i) := by rw [eh1]; exact Fg.si ⟨rfl, rfl⟩
    have S1 := f1.S S
    obtain ⟨h2, e2, f2, g2⟩ := ih n h1 (i + 1) (by omega) (by omega) S1
    refine ⟨h2, ?_, (f1.mono (fun a j q => by omega)).tr (f2.mono (fun a j q => by omega)), fun j h1 h3 => ?_⟩
    · unfold f_X9_out_35
      rw [nI_1, if_neg (nI_ge (by omega) (by omega)), g_53_12 S, bs, bs, a252k, nI_1, ld_61 S (by omega), bs, st_61 S (by omega), bs, show 252 + 40 * l + i + 1 = 252 + 40 * l + (i + 1) by omega, ← eh1, e2]
    · by_cases q : j = i
      · rw [q, f2.i (by omega), eh1, sI_I, if_pos ⟨rfl, rfl⟩]
      · rw [g2 j (by omega) h3, f1.i (by omega)]
theorem r_out (S : Sh h) (R : RpR h 61 0 A) (f : WfA A T Ls) {l k : Nat} (hk : k < qS A l) : ∃ h', f_X9_out h 53 (nI (qR A l k)) = some h' ∧ Fg h h' (fun a _ => a = 61) ∧ RpR h' 61 0 (remA A l k) := by
  have hl := (f.l6 hk).2
  have w := S.b (b := 61) (Or.inr (Or.inr rfl))
  have ht := f.t40 hk
  have hlen := f.len l
  obtain ⟨hm, sp⟩ := hm_at f hk
  obtain ⟨h1, e1, f1, g1⟩ := out35 (nI (qR A l k)) hl hlen (qS A l - 1 - k) FU h k (by omega) (by unfold FU; omega) S
  have S1 := f1.S S
  obtain ⟨h2, eh2⟩ : ∃ z, z = sI h1 61 (492 + l) (nI (qS A l - 1)) := ⟨_, rfl⟩
  have f2 : Fg h1 h2 (fun a j => a = 61 ∧ j = 492 + l) := by rw [eh2]; exact Fg.si ⟨rfl, rfl⟩
  have S2 := f2.S S1
  obtain ⟨h3, eh3⟩ : ∃ z, z = sI h2 61 (212 + qR A l k) (-1) := ⟨_, rfl⟩
  have f3 : Fg h2 h3 (fun a j => a = 61 ∧ j = 212 + qR A l k) := by rw [eh3]; exact Fg.si ⟨rfl, rfl⟩
  refine ⟨h3, ?_, ((f1.mono (fun a j q => q.1)).tr (f2.mono (fun a j q => q.1))).tr (f3.mono (fun a j q => q.1)), ?_⟩
  · unfold f_X9_out
    rw [if_pos (k_53 S), g_53_12 S, bs, R.hm w ht, bs, hm, ov_s, bs, r_placeOf w R f ht hm hk rfl, bs, bs, R.sz w hl, bs, e1, bs, g_53_12 S1, bs, a492, show nI (qS A l) - 1 = nI (qS A l - 1) by
      have := nI_pred (qS A l - 1)
      rwa [show qS A l - 1 + 1 = qS A l by omega] at this, st_61 S1 (by omega), bs, ← eh2, g_53_12 S2, bs, a212, st_61 S2 (by omega), bs, ← eh3]
  · have fr := rem_wf f hk
    refine rp_rows (r := remR A l k) (s := remS A l) R fr (fun i hi => ?_) (fun m i hm' hi => ?_) (fun m hm' => ?_) (fun m i hm' hi => ?_) (fun t ht' hn => ?_)
    · rw [f3.i (by omega), f2.i (by omega), f1.i (by omega)]
    · have hi2 : i < qS A m := by
        unfold remS at hi
        split at hi
        · rename_i q; subst q; omega
        · exact hi
      have lm := f.len m
      rw [f3.i (by omega), f2.i (by omega)]
      unfold remR
      by_cases c : m = l ∧ k ≤ i
      · rw [if_pos c]
        obtain ⟨rfl, c2⟩ := c
        unfold remS at hi
        rw [if_pos rfl] at hi
        rw [g1 i c2 (by omega), R.r6 hm' (by omega)]
      · rw [if_neg c, f1.i (by omega), R.r6 hm' hi2]
    · rw [f3.i (by omega)]
      unfold remS
      by_cases c : m = l
      · subst c
        rw [eh2, sI_I, if_pos ⟨rfl, rfl⟩, if_pos rfl]
      · rw [f2.i (by omega), f1.i (by omega), R.s6 hm', if_neg c]
    · have hne : remR A l k m i ≠ qR A l k := fun e => by
        have := hm_rem f hk
        have h2 := (hm_at fr (l := m) (k := i) hi).1
        have e' : qR (remA A l k) m i = qR A l k := e
        have h3 : hmA (remA A l k) (qR A l k) = some m := by rw [← e']; exact h2
        rw [this] at h3; cases h3
      have hi2 : i < qS A m := by
        unfold remS at hi
        split at hi
        · rename_i q; subst q; omega
        · exact hi
      have ht40 := fr.t40 (l := m) (k := i) hi
      have ht40' : remR A l k m i < 40 := ht40
      rw [f3.i (by omega), f2.i (by omega), f1.i (by omega)]
      unfold remR
      by_cases c : m = l ∧ k ≤ i
      · rw [if_pos c]
        obtain ⟨rfl, c2⟩ := c
        unfold remS at hi
        rw [if_pos rfl] at hi
        exact R.hi f (by omega)
      · rw [if_neg c]
        exact R.hi f hi2
    · by_cases c : t = qR A l k
      · rw [eh3, sI_I, if_pos ⟨rfl, by omega⟩]
      · rw [f3.i (by omega), f2.i (by omega), f1.i (by omega)]
        refine R.ho ht' (fun m i hm' hi e => ?_)
        by_cases c1 : m = l
        · subst c1
          by_cases c2 : i < k
          · refine hn m i hm' (show i < remS A m m by unfold remS; rw [if_pos rfl]; omega) ?_
            unfold remR
            rw [if_neg (by omega)]; exact e
          · by_cases c3 : i = k
            · subst c3; exact c e.symm
            · refine hn m (i - 1) hm' (show i - 1 < remS A m m by unfold remS; rw [if_pos rfl]; omega) ?_
              unfold remR
              rw [if_pos ⟨rfl, by omega⟩, show i - 1 + 1 = i by omega]; exact e
        · refine hn m i hm' (show i < remS A l m by unfold remS; rw [if_neg c1]; exact hi) ?_
          unfold remR
          rw [if_neg (fun q => c1 q.1)]; exact e
/-! in -/
theorem in16 (l1 l4 : Int32) {l at' : Nat} (hl : l < 6) : ∀ (m n : Nat) (h : AH) (i : Nat), at' + m = i → i < 40 → m < n → Sh h →
    ∃ h', f_X9_in_16 53 l1 (nI l) (nI at') l4 n h (nI i) = some h' ∧ Fg h h' (fun a j => a = 61 ∧ 252 + 40 * l + at' < j ∧ j ≤ 252 + 40 * l + i) ∧ ∀ j, at' < j → j ≤ i → aI h' 61 (252 + 40 * l + j) = aI h 61 (252 + 40 * l + (j - 1)) := by
  intro m
  induction m with
  | zero =>
    intro n h i hi h40 hn S
    obtain ⟨n, rfl⟩ : ∃ j, n = j + 1 := ⟨n - 1, by omega⟩
    refine ⟨h, ?_, Fg.rf _ _, fun j h1 h2 => by omega⟩
    unfold f_X9_in_16
    rw [if_pos (nI_le (by omega) (by omega))]
  | succ m ih =>
    intro n h i hi h40 hn S
    obtain ⟨n, rfl⟩ : ∃ j, n = j + 1 := ⟨n - 1, by omega⟩
    obtain ⟨i, rfl⟩ : ∃ j, i = j + 1 := ⟨i - 1, by omega⟩
    obtain ⟨h1, eh1⟩ : ∃ z, z = sI h 61 (252 + 40 * l + (i + 1)) (aI h 61 (252 + 40 * l + i)) := ⟨_, rfl⟩
    have f1 : Fg h h1 (fun a j => a = 61 ∧ j = 252 + 40 * l + (i + 1)) := by rw [eh1]; exact Fg.si ⟨rfl, rfl⟩
    have S1 := f1.S S
    obtain ⟨h2, e2, f2, g2⟩ := ih n h1 i (by omega) (by omega) (by omega) S1
    refine ⟨h2, ?_, (f1.mono (fun a j q => by omega)).tr (f2.mono (fun a j q => by omega)), fun j h1 h3 => ?_⟩
    · unfold f_X9_in_16
      rw [if_neg (nI_ge (by omega) (by omega)), g_53_12 S, bs, bs, a252k, show nI (252 + 40 * l + (i + 1)) - 1 = nI (252 + 40 * l + i) from nI_pred (252 + 40 * l + i), ld_61 S (by omega), bs, st_61 S (by omega), bs, ← eh1, pk_m1, e2]
    · by_cases q : j = i + 1
      · rw [q, f2.i (by omega), eh1, sI_I, if_pos ⟨rfl, rfl⟩]; rfl
      · rw [g2 j (by omega) (by omega), f1.i (by omega)]
theorem r_in (S : Sh h) (R : RpR h 61 0 A) (f : WfA A T Ls) {t l k : Nat} (ht : t < T) (hl : l < Ls) (hk : k ≤ qS A l) (hn : hmA A t = none) : ∃ h', f_X9_in h 53 (nI t) (nI l) (nI k) = some h' ∧ Fg h h' (fun a _ => a = 61) ∧ RpR h' 61 0 (insA A l k t) := by
  have hL := f.2.1
  have hT := f.1
  have hl6 : l < 6 := by omega
  have w := S.b (b := 61) (Or.inr (Or.inr rfl))
  have hoff : ∀ l k, k < qS A l → qR A l k ≠ t := by
    rcases hm_or f t with ⟨-, -, q⟩ | ⟨l, k, -, -, -, -, q, -⟩
    · exact q
    · rw [hn] at q; cases q
  have fi := ins_wf f ht hl hk hoff
  have hlen : qS A l + 1 ≤ 40 := by
    have := fi.len l
    have e : qS (insA A l k t) l = qS A l + 1 := by show insS A l l = _; unfold insS; rw [if_pos rfl]
    omega
  obtain ⟨h1, e1, f1, g1⟩ := in16 (nI t) (nI (qS A l)) (at' := k) hl6 (qS A l - k) FU h (qS A l) (by omega) (by omega) (by unfold FU; omega) S
  have S1 := f1.S S
  obtain ⟨h2, eh2⟩ : ∃ z, z = sI h1 61 (252 + 40 * l + k) (nI t) := ⟨_, rfl⟩
  have f2 : Fg h1 h2 (fun a j => a = 61 ∧ j = 252 + 40 * l + k) := by rw [eh2]; exact Fg.si ⟨rfl, rfl⟩
  have S2 := f2.S S1
  obtain ⟨h3, eh3⟩ : ∃ z, z = sI h2 61 (492 + l) (nI (qS A l + 1)) := ⟨_, rfl⟩
  have f3 : Fg h2 h3 (fun a j => a = 61 ∧ j = 492 + l) := by rw [eh3]; exact Fg.si ⟨rfl, rfl⟩
  have S3 := f3.S S2
  obtain ⟨h4, eh4⟩ : ∃ z, z = sI h3 61 (212 + t) (nI l) := ⟨_, rfl⟩
  have f4 : Fg h3 h4 (fun a j => a = 61 ∧ j = 212 + t) := by rw [eh4]; exact Fg.si ⟨rfl, rfl⟩
  refine ⟨h4, ?_, (((f1.mono (fun a j q => q.1)).tr (f2.mono (fun a j q => q.1))).tr (f3.mono (fun a j q => q.1))).tr (f4.mono (fun a j q => q.1)), ?_⟩
  · unfold f_X9_in
    rw [if_pos (k_53 S), g_53_12 S, bs, R.sz w hl6, bs, e1, bs, g_53_12 S1, bs, a252k, st_61 S1 (by omega), bs, ← eh2, g_53_12 S2, bs, a492, nI_1, st_61 S2 (by omega), bs, ← eh3, g_53_12 S3, bs, a212, st_61 S3 (by omega), bs, ← eh4]
  · refine rp_rows (r := insR A l k t) (s := insS A l) R fi (fun i hi => ?_) (fun m i hm' hi => ?_) (fun m hm' => ?_) (fun m i hm' hi => ?_) (fun u hu hno => ?_)
    · rw [f4.i (by omega), f3.i (by omega), f2.i (by omega), f1.i (by omega)]
    · have l0 : qS A m ≤ 40 := f.len m
      have hi40 : i < 40 := by
        unfold insS at hi
        split at hi <;> omega
      rw [f4.i (by omega), f3.i (by omega)]
      unfold insR
      by_cases c : m = l
      · subst c
        unfold insS at hi
        rw [if_pos rfl] at hi
        rw [if_pos rfl]
        by_cases c1 : i < k
        · rw [if_pos c1, f2.i (by omega), f1.i (by omega), R.r6 hm' (by omega)]
        · rw [if_neg c1]
          by_cases c2 : i = k
          · rw [if_pos c2, eh2, sI_I, if_pos ⟨rfl, by omega⟩]
          · rw [if_neg c2, f2.i (by omega), g1 i (by omega) (by omega), R.r6 hm' (by omega)]
      · unfold insS at hi
        rw [if_neg c] at hi
        rw [if_neg c, f2.i (by omega), f1.i (by omega), R.r6 hm' hi]
    · rw [f4.i (by omega)]
      unfold insS
      by_cases c : m = l
      · subst c
        rw [eh3, sI_I, if_pos ⟨rfl, rfl⟩, if_pos rfl]
      · rw [f3.i (by omega), f2.i (by omega), f1.i (by omega), R.s6 hm', if_neg c]
    · have ht40 : insR A l k t m i < 40 := fi.t40 (l := m) (k := i) hi
      by_cases ct : insR A l k t m i = t
      · have : m = l := by
          have h2 := fi.2.2.2.1 m i l k hi (show k < insS A l l by unfold insS; rw [if_pos rfl]; omega) (by
            show insR A l k t m i = insR A l k t l k
            rw [ct]
            unfold insR
            rw [if_pos rfl, if_neg (by omega), if_pos rfl])
          exact h2.1
        rw [ct, eh4, sI_I, if_pos ⟨rfl, rfl⟩, this]
      · rw [f4.i (by omega), f3.i (by omega), f2.i (by omega), f1.i (by omega)]
        unfold insR at ct ⊢
        by_cases c : m = l
        · subst c
          unfold insS at hi
          rw [if_pos rfl] at hi
          rw [if_pos rfl] at ct ⊢
          by_cases c1 : i < k
          · rw [if_pos c1]; exact R.hi f (by omega)
          · rw [if_neg c1] at ct ⊢
            by_cases c2 : i = k
            · rw [if_pos c2] at ct; exact absurd rfl ct
            · rw [if_neg c2]; exact R.hi f (by omega)
        · unfold insS at hi
          rw [if_neg c] at hi
          rw [if_neg c]; exact R.hi f hi
    · have cu : u ≠ t := fun e => by
        refine hno l k hl6 (show k < insS A l l by unfold insS; rw [if_pos rfl]; omega) ?_
        unfold insR
        rw [if_pos rfl, if_neg (by omega), if_pos rfl, e]
      rw [f4.i (by omega), f3.i (by omega), f2.i (by omega), f1.i (by omega)]
      refine R.ho hu (fun m i hm' hi e => ?_)
      by_cases c : m = l
      · subst c
        by_cases c1 : i < k
        · refine hno m i hm' (show i < insS A m m by unfold insS; rw [if_pos rfl]; omega) ?_
          unfold insR
          rw [if_pos rfl, if_pos c1]; exact e
        · refine hno m (i + 1) hm' (show i + 1 < insS A m m by unfold insS; rw [if_pos rfl]; omega) ?_
          unfold insR
          rw [if_pos rfl, if_neg (by omega), if_neg (by omega)]; exact e
      · refine hno m i hm' (show i < insS A l m by unfold insS; rw [if_neg c]; exact hi) ?_
        unfold insR
        rw [if_neg c]; exact e
end RDraft
