/-! plans: facts, lists' facts, links, who stands where (list, place), how many stand in a list, how many are frozen -/
theorem bs {α β : Type} (a : α) (f : α → Option β) : (some a).bind f = f a := rfl
abbrev AP : Type := (Nat → Int32) × (Nat → Int32) × (Nat → Int32) × (Nat → Nat → Nat) × (Nat → Nat) × (Nat → Nat)
def qF (A : AP) : Nat → Int32 := A.1
def qL (A : AP) : Nat → Int32 := A.2.1
def qK (A : AP) : Nat → Int32 := A.2.2.1
def qR (A : AP) : Nat → Nat → Nat := A.2.2.2.1
def qS (A : AP) : Nat → Nat := A.2.2.2.2.1
def qZ (A : AP) : Nat → Nat := A.2.2.2.2.2
def ov (o : Option Nat) : Int32 := match o with
  | none => -1
  | some n => nI n
theorem ov_s (n : Nat) : ov (some n) = nI n := rfl
theorem ov_n : ov none = -1 := rfl
def hmA (A : AP) (t : Nat) : Option Nat := (List.range 6).find? (fun l => (List.range (qS A l)).any (fun k => qR A l k == t))
def spA (A : AP) (t : Nat) : Option Nat := match hmA A t with
  | none => none
  | some l => (List.range (qS A l)).find? (fun k => qR A l k == t)
def WfA (A : AP) (T Ls : Nat) : Prop := T ≤ 40 ∧ Ls ≤ 6 ∧ (∀ l k, k < qS A l → qR A l k < T) ∧ (∀ l k l' k', k < qS A l → k' < qS A l' → qR A l k = qR A l' k' → l = l' ∧ k = k') ∧ (∀ l, Ls ≤ l → qS A l = 0) ∧ (∀ l, qZ A l ≤ 40) ∧ (∀ t, t < 40 → qK A t = -1 ∨ ∃ u, u < T ∧ qK A t = nI u)
/-- lengths of a plan's rows, by their fields -/
def eP (j : Nat) : Nat := match j with
  | 0 => 160 | 1 => 12 | 2 => 40 | 3 => 40 | 4 => 40 | 5 => 240 | 6 => 6 | _ => 6
def WPl (h : AH) (p : Nat) : Prop := aK h p = 4 ∧ (∀ j, j < 8 → aP h p j = some (p + 1 + j)) ∧ (∀ j, j < 8 → aK h (p + 1 + j) = 10) ∧ ∀ j, j < 8 → aE h (p + 1 + j) = eP j
def RepC (h : AH) (p : Nat) (A : AP) : Prop :=
  (∀ i, i < 160 → aI h (p + 1) i = qF A i) ∧ (∀ i, i < 12 → aI h (p + 2) i = qL A i) ∧ (∀ i, i < 40 → aI h (p + 3) i = qK A i) ∧ (∀ t, t < 40 → aI h (p + 4) t = ov (hmA A t)) ∧ (∀ t, t < 40 → aI h (p + 5) t = ov (spA A t)) ∧
  (∀ l k, l < 6 → k < qS A l → aI h (p + 6) (40 * l + k) = nI (qR A l k)) ∧ (∀ l, l < 6 → aI h (p + 7) l = nI (qS A l)) ∧ (∀ l, l < 6 → aI h (p + 8) l = nI (qZ A l))
theorem nodup_le {n : Nat} : ∀ {l : List Nat}, l.Nodup → (∀ t ∈ l, t < n) → l.length ≤ n := by
  induction n with
  | zero =>
    intro l _ h
    cases l with
    | nil => exact Nat.le_refl _
    | cons a l => exact absurd (h a List.mem_cons_self) (Nat.not_lt_zero _)
  | succ n ih =>
    intro l hd h
    by_cases hn : n ∈ l
    · have h1 : (l.erase n).length ≤ n := ih (hd.erase n) (fun t ht => by
        have h2 := h t (List.mem_of_mem_erase ht)
        have h3 : t ≠ n := fun e => by
          subst e
          exact (List.Nodup.mem_erase_iff hd).mp ht |>.1 rfl
        omega)
      rw [List.length_erase_of_mem hn] at h1
      omega
    · have h1 : l.length ≤ n := ih hd (fun t ht => by
        have h2 := h t ht
        have h3 : t ≠ n := fun e => hn (e ▸ ht)
        omega)
      omega
/-- no more places than numbers, if no number stands twice -/
theorem inj_le {n s : Nat} {f : Nat → Nat} (hf : ∀ k, k < s → f k < n) (hi : ∀ i j, i < s → j < s → f i = f j → i = j) : s ≤ n := by
  have h1 : ((List.range s).map f).Nodup := by
    rw [List.Nodup, List.pairwise_map]
    refine List.Pairwise.imp_of_mem (R := fun a b => a ≠ b) ?_ List.nodup_range
    intro a b ha hb hne e
    exact hne (hi a b (List.mem_range.mp ha) (List.mem_range.mp hb) e)
  have h2 := nodup_le h1 (fun t ht => by
    obtain ⟨k, hk, e⟩ := List.mem_map.mp ht
    rw [← e]
    exact hf k (List.mem_range.mp hk))
  simpa using h2
theorem WfA.len {A : AP} {T Ls : Nat} (w : WfA A T Ls) (l : Nat) : qS A l ≤ 40 := Nat.le_trans (inj_le (f := qR A l) (w.2.2.1 l) (fun i j hi hj e => (w.2.2.2.1 l i l j hi hj e).2)) w.1
theorem WfA.l6 {A : AP} {T Ls : Nat} (w : WfA A T Ls) {l k : Nat} (hk : k < qS A l) : l < Ls ∧ l < 6 := by
  rcases Nat.lt_or_ge l Ls with q | q
  · exact ⟨q, Nat.lt_of_lt_of_le q w.2.1⟩
  · rw [w.2.2.2.2.1 l q] at hk
    omega
theorem WfA.t40 {A : AP} {T Ls : Nat} (w : WfA A T Ls) {l k : Nat} (hk : k < qS A l) : qR A l k < 40 := Nat.lt_of_lt_of_le (w.2.2.1 l k hk) w.1
theorem find_one {n k : Nat} {f : Nat → Bool} (hk : k < n) (ht : f k = true) (hu : ∀ j, j < n → f j = true → j = k) : (List.range n).find? f = some k := by
  cases e : (List.range n).find? f with
  | none => exact absurd ht (by simpa using List.find?_eq_none.mp e k (List.mem_range.mpr hk))
  | some j => rw [hu j (List.mem_range.mp (List.mem_of_find?_eq_some e)) (List.find?_some e)]
theorem hm_at {A : AP} {T Ls : Nat} (f : WfA A T Ls) {l k : Nat} (hk : k < qS A l) : hmA A (qR A l k) = some l ∧ spA A (qR A l k) = some k := by
  have e : hmA A (qR A l k) = some l := by
    refine find_one (f.l6 hk).2 (List.any_eq_true.mpr ⟨k, List.mem_range.mpr hk, by simp⟩) (fun j _ hj => ?_)
    obtain ⟨i, hi, hb⟩ := List.any_eq_true.mp hj
    exact (f.2.2.2.1 j i l k (List.mem_range.mp hi) hk (by simpa using hb)).1
  refine ⟨e, ?_⟩
  unfold spA
  rw [e]
  exact find_one hk (by simp) (fun j hj hb => (f.2.2.2.1 l j l k hj hk (by simpa using hb)).2)
theorem hm_off {A : AP} {t : Nat} (hn : ∀ l k, l < 6 → k < qS A l → qR A l k ≠ t) : hmA A t = none ∧ spA A t = none := by
  have e : hmA A t = none := by
    refine List.find?_eq_none.mpr (fun l hl => ?_)
    simp only [List.any_eq_true, not_exists, not_and]
    intro k hk hb
    exact hn l k (List.mem_range.mp hl) (List.mem_range.mp hk) (by simpa using hb)
  refine ⟨e, ?_⟩
  unfold spA
  rw [e]
theorem hm_or {A : AP} {T Ls : Nat} (f : WfA A T Ls) (t : Nat) : (hmA A t = none ∧ spA A t = none ∧ ∀ l k, k < qS A l → qR A l k ≠ t) ∨ ∃ l k, l < Ls ∧ l < 6 ∧ k < qS A l ∧ qR A l k = t ∧ hmA A t = some l ∧ spA A t = some k := by
  by_cases hc : ∃ l k, k < qS A l ∧ qR A l k = t
  · obtain ⟨l, k, hk, e⟩ := hc
    obtain ⟨a, b⟩ := hm_at f hk
    rw [e] at a b
    exact Or.inr ⟨l, k, (f.l6 hk).1, (f.l6 hk).2, hk, e, a, b⟩
  · have hn : ∀ l k, k < qS A l → qR A l k ≠ t := fun l k hk e => hc ⟨l, k, hk, e⟩
    obtain ⟨a, b⟩ := hm_off (A := A) (t := t) (fun l k _ hk => hn l k hk)
    exact Or.inl ⟨a, b, hn⟩
theorem WPl.p {h : AH} {p : Nat} (w : WPl h p) (j : Nat) (hj : j < 8) : gP h 4 p j = some (p + 1 + j) := gP_n w.1 (w.2.1 j hj)
theorem WPl.ld {h : AH} {p : Nat} (w : WPl h p) (j : Nat) (hj : j < 8) {i : Nat} (hi : i < eP j) : ldI h (p + 1 + j) (nI i) = some (aI h (p + 1 + j) i) := by
  refine ldI_n (w.2.2.1 j hj) (by rw [w.2.2.2 j hj]; exact hi) ?_
  rw [w.2.2.2 j hj]
  have : eP j ≤ 240 := by
    unfold eP
    split <;> omega
  omega
section Readers
variable {h : AH} {p : Nat} {A : AP} {T Ls : Nat}
def atA (A : AP) (l k : Nat) : Int32 := if k < qS A l then nI (qR A l k) else -1
theorem q_standsAt (w : WPl h p) (R : RepC h p A) (f : WfA A T Ls) {l k : Nat} (hl : l < 6) (hk : k < 2 ^ 31) : f_X4_standsAt h p (nI l) (nI k) = some (atA A l k) := by
  have hlen := f.len l
  unfold f_X4_standsAt atA
  rw [if_pos w.1, if_neg (nI_nn hk), w.p 6 (by decide), bs, w.ld 6 (by decide) (show l < eP 6 from hl), bs, R.2.2.2.2.2.2.1 l hl]
  by_cases hc : k < qS A l
  · rw [if_pos (nI_lt hc (by omega)), if_pos hc, w.p 5 (by decide), bs, c40, w.ld 5 (by decide) (show 40 * l + k < eP 5 by show _ < 240; omega), bs, R.2.2.2.2.2.1 l k hl hc]
    rfl
  · rw [if_neg (nI_nlt (by omega) hk), if_neg hc]
    rfl
theorem q_standsAt_m (w : WPl h p) (l : Int32) : f_X4_standsAt h p l (-1) = some (-1) := by
  unfold f_X4_standsAt
  rw [if_pos w.1, if_pos (by decide)]
  rfl
/-- is a thing frozen -/
def fzA (A : AP) (t : Nat) : Bool := match hmA A t, spA A t with
  | some l, some k => decide (k < qZ A l)
  | _, _ => false
theorem q_isFrozen (w : WPl h p) (R : RepC h p A) (f : WfA A T Ls) {t : Nat} (ht : t < 40) : f_X4_isFrozen h p (nI t) = some (if fzA A t = true then 1 else 0) := by
  unfold f_X4_isFrozen fzA
  rw [if_pos w.1, w.p 3 (by decide), bs, w.ld 3 (by decide) (show t < eP 3 from ht), bs, R.2.2.2.1 t ht]
  rcases hm_or f t with ⟨e1, e2, -⟩ | ⟨l, k, -, hl, hk, -, e1, e2⟩
  · simp only [e1, e2, ov_n]
    rfl
  · have hlen := f.len l
    have hz := f.2.2.2.2.2.1 l
    rw [e1, ov_s, if_neg (nI_nm (by omega)), w.p 4 (by decide), bs, w.ld 4 (by decide) (show t < eP 4 from ht), bs, R.2.2.2.2.1 t ht, w.p 7 (by decide), bs, w.ld 7 (by decide) (show l < eP 7 from hl), bs, R.2.2.2.2.2.2.2 l hl, e2, ov_s]
    by_cases hc : k < qZ A l
    · rw [if_neg (nI_ge hc (by omega))]
      simp only [hc, decide_true, if_true]
      rfl
    · rw [if_pos (nI_le (by omega) (by omega))]
      simp only [hc, decide_false]
      rfl
end Readers
