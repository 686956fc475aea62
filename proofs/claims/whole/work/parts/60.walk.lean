/-! the nearest read, the ring's walk -/
/-- as the other one looks for it: what is out of reach counts 258 -/
def nbR (f : Nat → Option Nat) (b : Option Nat) (d : Nat) : Option Nat := match b with
  | none => some d
  | some x => if (f d).getD 258 < (f x).getD 258 then some d else b
theorem nb_rel {f : Nat → Option Nat} (hf : ∀ x m, f x = some m → m < 258) : ∀ (l : List Nat) (b b' : Option Nat), ((b = b' ∧ ∃ x m, b = some x ∧ f x = some m) ∨ (b = none ∧ ∀ x, b' = some x → f x = none)) →
    ((l.foldl (nbG f) b = l.foldl (nbR f) b' ∧ ∃ x m, l.foldl (nbG f) b = some x ∧ f x = some m) ∨ (l.foldl (nbG f) b = none ∧ ∀ x, l.foldl (nbR f) b' = some x → f x = none)) := by
  intro l
  induction l with
  | nil => intro b b' h; exact h
  | cons d l ih =>
    intro b b' h
    rw [List.foldl_cons, List.foldl_cons]
    apply ih
    cases hd : f d with
    | none =>
      have e1 : nbG f b d = b := by unfold nbG; rw [hd]
      rw [e1]
      rcases h with ⟨h1, x, m, h2, h3⟩ | ⟨h1, h2⟩
      · refine Or.inl ⟨?_, x, m, h2, h3⟩
        subst h1
        rw [h2]
        unfold nbR
        have := hf x m h3
        simp only [hd, h3, Option.getD_none, Option.getD_some]
        rw [if_neg (by omega)]
      · refine Or.inr ⟨h1, fun x hx => ?_⟩
        unfold nbR at hx
        cases b' with
        | none =>
          have hx2 : some d = some x := hx
          cases hx2
          exact hd
        | some y =>
          have hy := h2 y rfl
          simp only [hd, hy, Option.getD_none] at hx
          rw [if_neg (by omega)] at hx
          cases hx
          exact hy
    | some k =>
      have hk := hf d k hd
      rcases h with ⟨h1, x, m, h2, h3⟩ | ⟨h1, h2⟩
      · subst h1
        rw [h2]
        unfold nbG nbR
        simp only [hd, h3, Option.getD_some]
        by_cases q : k < m
        · rw [if_pos q]
          exact Or.inl ⟨trivial, d, k, rfl, hd⟩
        · rw [if_neg q]
          exact Or.inl ⟨trivial, x, m, rfl, h3⟩
      · rw [h1]
        have e1 : nbG f none d = some d := by unfold nbG; simp only [hd]
        have e2 : nbR f b' d = some d := by
          unfold nbR
          cases b' with
          | none => rfl
          | some y =>
            have hy := h2 y rfl
            simp only [hd, hy, Option.getD_none, Option.getD_some]
            rw [if_pos hk]
        rw [e1, e2]
        exact Or.inl ⟨rfl, d, k, rfl, hd⟩
theorem nr_ref {f : Nat → Option Nat} (hf : ∀ x m, f x = some m → m < 258) {l : List Nat} {x : Nat} (h : nrG f l = some x) : l.foldl (nbR f) none = some x := by
  rcases nb_rel hf l none none (Or.inr ⟨rfl, fun x e => by cases e⟩) with ⟨h1, -⟩ | ⟨h1, -⟩
  · rw [← h1]; exact h
  · unfold nrG at h; rw [h1] at h; cases h
/-- what is out of reach may be left out -/
theorem nr_filter {f : Nat → Option Nat} {p : Nat → Bool} : ∀ (l : List Nat) (b : Option Nat), (∀ d, d ∈ l → p d = false → f d = none) → l.foldl (nbG f) b = (l.filter p).foldl (nbG f) b := by
  intro l
  induction l with
  | nil => intro b h; rfl
  | cons d l ih =>
    intro b h
    rw [List.foldl_cons]
    cases e : p d with
    | true => rw [List.filter_cons_of_pos e, List.foldl_cons]; exact ih _ (fun x hx => h x (List.mem_cons_of_mem _ hx))
    | false =>
      rw [List.filter_cons_of_neg (by rw [e]; decide)]
      have e1 : nbG f b d = b := by unfold nbG; rw [h d List.mem_cons_self e]
      rw [e1]
      exact ih _ (fun x hx => h x (List.mem_cons_of_mem _ hx))
section Walk
variable {C : Nat → Bool} {R : Nat → Nat → Bool}
theorem nr_in {f : Nat → Option Nat} {l : List Nat} {x : Nat} (h : nrG f l = some x) : x ∈ l ∧ ∃ m, f x = some m ∧ ∀ y k, y ∈ l → f y = some k → m ≤ k := by
  obtain ⟨a, m, b, c, -⟩ := (nr_go l none (fun x e => by cases e)).1 x h
  rcases a with q | q
  · cases q
  · exact ⟨q, m, b, c⟩
theorem nr_ex {f : Nat → Option Nat} {l : List Nat} {y k : Nat} (hy : y ∈ l) (hk : f y = some k) : ∃ x, nrG f l = some x := by
  cases e : nrG f l with
  | some x => exact ⟨x, rfl⟩
  | none =>
    have := ((nr_go l none (fun x e => by cases e)).2 e).2 y hy
    rw [hk] at this
    cases this
/-- one step nearer -/
theorem nx_s {s c k : Nat} {l : List Nat} (hl : ∀ d, R c d = true ↔ d ∈ l) (hb : ∀ d, d ∈ l → d < 258) (h : exG C R s (k + 1) c) : ∃ d, nrG (dsG C R s) l = some d ∧ d < 258 ∧ R c d = true ∧ exG C R s k d := by
  obtain ⟨d, h1, h2, h3⟩ := ex_s h
  obtain ⟨x, hx⟩ := nr_ex ((hl d).mp h2) (ds_i h1 h3)
  obtain ⟨a, m, b, c2⟩ := nr_in hx
  have e1 := c2 d k ((hl d).mp h2) (ds_i h1 h3)
  have e2 := ex_r h (hb x a) ((hl x).mpr a) (ds_s b).2
  have e3 : m = k := by omega
  subst e3
  exact ⟨x, hx, hb x a, (hl x).mpr a, (ds_s b).2⟩
theorem nx_0 {s : Nat} {l : List Nat} (hl : ∀ d, R s d = true ↔ d ∈ l) (hb : ∀ d, d ∈ l → d < 258) (h : irG C R s = true) : ∃ d k, nrG (dsG C R s) l = some d ∧ d < 258 ∧ R s d = true ∧ exG C R s k d := by
  obtain ⟨d, k, h1, h2, h3⟩ := ir_iff.mp h
  obtain ⟨x, hx⟩ := nr_ex ((hl d).mp h2) h3
  obtain ⟨a, m, b, -⟩ := nr_in hx
  exact ⟨x, m, hx, hb x a, (hl x).mpr a, (ds_s b).2⟩
/-- a cell at way 0 is s -/
theorem ex_0 {s c : Nat} (h : exG C R s 0 c) : c = s := dk_0.mp h.1
theorem ex_ne {s c k : Nat} (h : exG C R s (k + 1) c) : c ≠ s := fun e => by
  have := h.2 0 (by omega)
  rw [dk_0.mpr e] at this
  cases this
end Walk
