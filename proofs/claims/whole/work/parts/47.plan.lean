/-! plans: facts, lists' facts, links, the things of each list, how many are frozen -/
theorem bs {α β : Type} (a : α) (f : α → Option β) : (some a).bind f = f a := rfl
abbrev AP : Type := (Nat → Int32) × (Nat → Int32) × (Nat → Int32) × (Nat → List Nat) × (Nat → Nat)
def qF (A : AP) : Nat → Int32 := A.1
def qL (A : AP) : Nat → Int32 := A.2.1
def qK (A : AP) : Nat → Int32 := A.2.2.1
def qR (A : AP) : Nat → List Nat := A.2.2.2.1
def qZ (A : AP) : Nat → Nat := A.2.2.2.2
def ov (o : Option Nat) : Int32 := match o with
  | none => -1
  | some n => nI n
theorem ov_s (n : Nat) : ov (some n) = nI n := rfl
theorem ov_n : ov none = -1 := rfl
def hmA (A : AP) (t : Nat) : Option Nat := (List.range 6).find? (fun l => decide (t ∈ qR A l))
def spA (A : AP) (t : Nat) : Option Nat := match hmA A t with
  | none => none
  | some l => some ((qR A l).idxOf t)
def WfA (A : AP) (T Ls : Nat) : Prop := T ≤ 40 ∧ Ls ≤ 6 ∧ (∀ l, ∀ t ∈ qR A l, t < T) ∧ (∀ l, (qR A l).Nodup) ∧ (∀ l k t, t ∈ qR A l → t ∈ qR A k → l = k) ∧ (∀ l, Ls ≤ l → qR A l = []) ∧ (∀ l, qZ A l ≤ (qR A l).length) ∧ (∀ t, t < 40 → qK A t = -1 ∨ ∃ u, u < T ∧ qK A t = nI u)
/-- lengths of a plan's rows, by their fields -/
def eP (j : Nat) : Nat := match j with
  | 0 => 160 | 1 => 12 | 2 => 40 | 3 => 40 | 4 => 40 | 5 => 240 | 6 => 6 | _ => 6
def WPl (h : AH) (p : Nat) : Prop := aK h p = 4 ∧ (∀ j, j < 8 → aP h p j = some (p + 1 + j)) ∧ (∀ j, j < 8 → aK h (p + 1 + j) = 10) ∧ ∀ j, j < 8 → aE h (p + 1 + j) = eP j
def RepC (h : AH) (p : Nat) (A : AP) : Prop :=
  (∀ i, i < 160 → aI h (p + 1) i = qF A i) ∧ (∀ i, i < 12 → aI h (p + 2) i = qL A i) ∧ (∀ i, i < 40 → aI h (p + 3) i = qK A i) ∧ (∀ t, t < 40 → aI h (p + 4) t = ov (hmA A t)) ∧ (∀ t, t < 40 → aI h (p + 5) t = ov (spA A t)) ∧
  (∀ l k, l < 6 → ∀ hk : k < (qR A l).length, aI h (p + 6) (40 * l + k) = nI ((qR A l)[k])) ∧ (∀ l, l < 6 → aI h (p + 7) l = nI (qR A l).length) ∧ (∀ l, l < 6 → aI h (p + 8) l = nI (qZ A l))
theorem nodup_le {n : Nat} : ∀ {l : List Nat}, l.Nodup → (∀ t ∈ l, t < n) → l.length ≤ n := by
  induction n with
  | zero =>
    intro l _ h
    cases l with
    | nil => exact Nat.le_refl _
    | cons a l => exact absurd (h a List.mem_cons_self) (Nat.not_lt_zero _)
  | succ n ih =>
    intro l hd h
    by_cases hn : n ∈ l
    · have h1 : (l.erase n).length ≤ n := ih (hd.erase n) (fun t ht => by
        have h2 := h t (List.mem_of_mem_erase ht)
        have h3 : t ≠ n := fun e => by
          subst e
          exact (List.Nodup.mem_erase_iff hd).mp ht |>.1 rfl
        omega)
      rw [List.length_erase_of_mem hn] at h1
      omega
    · have h1 : l.length ≤ n := ih hd (fun t ht => by
        have h2 := h t ht
        have h3 : t ≠ n := fun e => hn (e ▸ ht)
        omega)
      omega
theorem WfA.len {A : AP} {T Ls : Nat} (w : WfA A T Ls) (l : Nat) : (qR A l).length ≤ 40 := Nat.le_trans (nodup_le (w.2.2.2.1 l) (w.2.2.1 l)) w.1
theorem WPl.p {h : AH} {p : Nat} (w : WPl h p) (j : Nat) (hj : j < 8) : gP h 4 p j = some (p + 1 + j) := gP_n w.1 (w.2.1 j hj)
theorem WPl.ld {h : AH} {p : Nat} (w : WPl h p) (j : Nat) (hj : j < 8) {i : Nat} (hi : i < eP j) : ldI h (p + 1 + j) (nI i) = some (aI h (p + 1 + j) i) := by
  refine ldI_n (w.2.2.1 j hj) (by rw [w.2.2.2 j hj]; exact hi) ?_
  rw [w.2.2.2 j hj]
  have : eP j ≤ 240 := by
    unfold eP
    split <;> omega
  omega
section Readers
variable {h : AH} {p : Nat} {A : AP} {T Ls : Nat}
theorem q_standsAt (w : WPl h p) (R : RepC h p A) (f : WfA A T Ls) {l k : Nat} (hl : l < 6) (hk : k < 2 ^ 31) : f_X4_standsAt h p (nI l) (nI k) = some (if hk : k < (qR A l).length then nI ((qR A l)[k]) else -1) := by
  have hlen := f.len l
  unfold f_X4_standsAt
  rw [if_pos w.1, if_neg (nI_nn hk), w.p 6 (by decide), bs, w.ld 6 (by decide) (show l < eP 6 from hl), bs, R.2.2.2.2.2.2.1 l hl]
  by_cases hc : k < (qR A l).length
  · rw [if_pos (nI_lt hc (by omega)), dif_pos hc, w.p 5 (by decide), bs, c40, w.ld 5 (by decide) (show 40 * l + k < eP 5 by show _ < 240; omega), bs, R.2.2.2.2.2.1 l k hl hc]
    rfl
  · rw [if_neg (nI_nlt (by omega) hk), dif_neg hc]
    rfl
theorem q_standsAt_m (w : WPl h p) (l : Int32) : f_X4_standsAt h p l (-1) = some (-1) := by
  unfold f_X4_standsAt
  rw [if_pos w.1, if_pos (by decide)]
  rfl
theorem hm_lt {t l : Nat} (e : hmA A t = some l) : l < 6 ∧ t ∈ qR A l := by
  have h1 := List.find?_some e
  have h2 := List.mem_of_find?_eq_some e
  exact ⟨List.mem_range.mp h2, by simpa using h1⟩
theorem hm_none {t l : Nat} (e : hmA A t = none) (hl : l < 6) : t ∉ qR A l := by
  have h1 := List.find?_eq_none.mp e l (List.mem_range.mpr hl)
  simpa using h1
theorem hm_of {t l : Nat} (f : WfA A T Ls) (ht : t ∈ qR A l) : hmA A t = some l := by
  have hl : l < 6 := by
    rcases Nat.lt_or_ge l 6 with q | q
    · exact q
    · rw [f.2.2.2.2.2.1 l (Nat.le_trans f.2.1 q)] at ht
      cases ht
  cases e : hmA A t with
  | none => exact absurd ht (hm_none e hl)
  | some k => rw [f.2.2.2.2.1 l k t ht (hm_lt e).2]
/-- is a thing frozen -/
def fzA (A : AP) (t : Nat) : Bool := match hmA A t with
  | none => false
  | some l => decide ((qR A l).idxOf t < qZ A l)
theorem q_isFrozen (w : WPl h p) (R : RepC h p A) (f : WfA A T Ls) {t : Nat} (ht : t < 40) : f_X4_isFrozen h p (nI t) = some (if fzA A t = true then 1 else 0) := by
  unfold f_X4_isFrozen
  rw [if_pos w.1, w.p 3 (by decide), bs, w.ld 3 (by decide) (show t < eP 3 from ht), bs, R.2.2.2.1 t ht]
  cases e : hmA A t with
  | none =>
    have e2 : fzA A t = false := by simp [fzA, e]
    rw [e2]
    rfl
  | some l =>
    obtain ⟨hl, hm⟩ := hm_lt e
    have hlen := f.len l
    have hz := f.2.2.2.2.2.2.1 l
    have hi : (qR A l).idxOf t < (qR A l).length := List.idxOf_lt_length_of_mem hm
    have e3 : spA A t = some ((qR A l).idxOf t) := by simp [spA, e]
    rw [ov_s, if_neg (nI_nm (by omega)), w.p 4 (by decide), bs, w.ld 4 (by decide) (show t < eP 4 from ht), bs, R.2.2.2.2.1 t ht, w.p 7 (by decide), bs, w.ld 7 (by decide) (show l < eP 7 from hl), bs, R.2.2.2.2.2.2.2 l hl, e3, ov_s]
    by_cases hc : (qR A l).idxOf t < qZ A l
    · have e2 : fzA A t = true := by simp [fzA, e, hc]
      rw [if_neg (nI_ge hc (by omega)), e2]
      rfl
    · have e2 : fzA A t = false := by simp [fzA, e, hc]
      rw [if_pos (nI_le (by omega) (by omega)), e2]
      rfl
end Readers
