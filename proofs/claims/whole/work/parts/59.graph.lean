/-! reads as a graph. C: is it a cell; R c d: c reads d; D: the cells that have come, in their order -/
theorem fn_s {n c : Nat} {p : Nat → Bool} (h : (List.range n).find? p = some c) : c < n ∧ p c = true ∧ ∀ j, j < c → p j = false := by
  obtain ⟨h1, h2, h3⟩ := List.find?_range_eq_some.mp h
  exact ⟨List.mem_range.mp h2, h1, fun j hj => by simpa using h3 j hj⟩
theorem fn_i {n c : Nat} {p : Nat → Bool} (h1 : c < n) (h2 : p c = true) (h3 : ∀ j, j < c → p j = false) : (List.range n).find? p = some c := List.find?_range_eq_some.mpr ⟨h2, List.mem_range.mpr h1, fun j hj => by simp [h3 j hj]⟩
theorem fn_n {n : Nat} {p : Nat → Bool} (h : (List.range n).find? p = none) : ∀ j, j < n → p j = false := fun j hj => by simpa using List.find?_range_eq_none.mp h j hj
theorem fn_0 {n : Nat} {p : Nat → Bool} (h : ∀ j, j < n → p j = false) : (List.range n).find? p = none := List.find?_range_eq_none.mpr (fun j hj => by simp [h j hj])
def rdG (C : Nat → Bool) (R : Nat → Nat → Bool) (D : List Nat) (c : Nat) : Bool := C c && !(D.contains c) && (List.range 258).all (fun d => !(R c d) || D.contains d)
def ordG (C : Nat → Bool) (R : Nat → Nat → Bool) : Nat → List Nat → List Nat
  | 0, D => D
  | n + 1, D => match (List.range 258).find? (rdG C R D) with
    | none => D
    | some c => ordG C R n (D ++ [c])
def mnG (C : Nat → Bool) (n : Nat) : Nat := (List.range n).countP C
def GdG (C : Nat → Bool) (R : Nat → Nat → Bool) (D : List Nat) : Prop := D.Nodup ∧ (∀ c, c ∈ D → c < 258 ∧ C c = true) ∧ (∀ c, c ∈ D → ∀ d, R c d = true → d ∈ D) ∧ ∃ rk : Nat → Nat, (∀ c, c ∈ D → rk c < D.length) ∧ ∀ c, c ∈ D → ∀ d, R c d = true → rk d < rk c
section Graph
variable {C : Nat → Bool} {R : Nat → Nat → Bool} {D : List Nat}
theorem rd_iff {c : Nat} : rdG C R D c = true ↔ C c = true ∧ c ∉ D ∧ ∀ d, d < 258 → R c d = true → d ∈ D := by
  unfold rdG
  rw [Bool.and_eq_true, Bool.and_eq_true, List.all_eq_true]
  constructor
  · rintro ⟨⟨h1, h2⟩, h3⟩
    refine ⟨h1, by simpa using h2, fun d hd hr => ?_⟩
    have := h3 d (List.mem_range.mpr hd)
    rw [hr] at this
    simpa using this
  · rintro ⟨h1, h2, h3⟩
    refine ⟨⟨h1, by simpa using h2⟩, fun d hd => ?_⟩
    cases e : R c d with
    | false => rfl
    | true => simpa using h3 d (List.mem_range.mp hd) e
theorem gd_nil : GdG C R [] := ⟨List.nodup_nil, fun c h => by simp at h, fun c h => by simp at h, fun _ => 0, fun c h => by simp at h, fun c h => by simp at h⟩
theorem GdG.len (g : GdG C R D) : D.length ≤ 258 := nodup_le g.1 (fun c hc => (g.2.1 c hc).1)
/-- hR: what is read is a cell -/
theorem GdG.snoc (hR : ∀ c d, R c d = true → d < 258 ∧ C d = true) (g : GdG C R D) {c : Nat} (hc : c < 258) (hr : rdG C R D c = true) : GdG C R (D ++ [c]) := by
  obtain ⟨h1, h2, h3⟩ := rd_iff.mp hr
  obtain ⟨g1, g2, g3, rk, g4, g5⟩ := g
  have hne : ∀ x, x ∈ D → x ≠ c := fun x hx e => h2 (e ▸ hx)
  refine ⟨?_, ?_, ?_, fun x => if x = c then D.length else rk x, ?_, ?_⟩
  · rw [List.nodup_append]
    exact ⟨g1, List.pairwise_singleton _ _, fun a ha b hb => by rw [List.mem_singleton.mp hb]; exact hne a ha⟩
  · intro x hx
    rcases List.mem_append.mp hx with q | q
    · exact g2 x q
    · rw [List.mem_singleton.mp q]; exact ⟨hc, h1⟩
  · intro x hx d hd
    rcases List.mem_append.mp hx with q | q
    · exact List.mem_append.mpr (Or.inl (g3 x q d hd))
    · rw [List.mem_singleton.mp q] at hd
      exact List.mem_append.mpr (Or.inl (h3 d (hR c d hd).1 hd))
  · intro x hx
    show (if x = c then D.length else rk x) < _
    rw [List.length_append]
    rcases List.mem_append.mp hx with q | q
    · rw [if_neg (hne x q)]
      have := g4 x q
      omega
    · rw [if_pos (List.mem_singleton.mp q)]
      simp
  · intro x hx d hd
    show (if d = c then D.length else rk d) < (if x = c then D.length else rk x)
    rcases List.mem_append.mp hx with q | q
    · rw [if_neg (hne x q), if_neg (hne d (g3 x q d hd))]
      exact g5 x q d hd
    · rw [if_pos (List.mem_singleton.mp q)]
      rw [List.mem_singleton.mp q] at hd
      have hm := h3 d (hR c d hd).1 hd
      rw [if_neg (hne d hm)]
      exact g4 d hm
theorem ord_gd (hR : ∀ c d, R c d = true → d < 258 ∧ C d = true) : ∀ (n : Nat) (D : List Nat), GdG C R D → GdG C R (ordG C R n D) := by
  intro n
  induction n with
  | zero => intro D g; exact g
  | succ n ih =>
    intro D g
    unfold ordG
    split
    · exact g
    · rename_i c e
      obtain ⟨h1, h2, -⟩ := fn_s e
      exact ih _ (g.snoc hR h1 h2)
/-- with enough fuel nothing more comes -/
theorem ord_end (hR : ∀ c d, R c d = true → d < 258 ∧ C d = true) : ∀ (n : Nat) (D : List Nat), GdG C R D → 258 < D.length + n → (List.range 258).find? (rdG C R (ordG C R n D)) = none := by
  intro n
  induction n with
  | zero => intro D g h; have := g.len; omega
  | succ n ih =>
    intro D g h
    unfold ordG
    cases e : (List.range 258).find? (rdG C R D) with
    | none => exact e
    | some c =>
      obtain ⟨h1, h2, -⟩ := fn_s e
      refine ih _ (g.snoc hR h1 h2) ?_
      rw [List.length_append]
      simp
      omega
theorem ord_st {n : Nat} (h : (List.range 258).find? (rdG C R D) = none) : ordG C R n D = D := by
  cases n with
  | zero => rfl
  | succ n => unfold ordG; rw [h]
theorem ord_s {n c : Nat} (h : (List.range 258).find? (rdG C R D) = some c) : ordG C R (n + 1) D = ordG C R n (D ++ [c]) := by
  show (match (List.range 258).find? (rdG C R D) with
    | none => D
    | some c => ordG C R n (D ++ [c])) = _
  rw [h]
/-- THE ORDER -/
def orA (C : Nat → Bool) (R : Nat → Nat → Bool) : List Nat := ordG C R 259 []
theorem or_gd (hR : ∀ c d, R c d = true → d < 258 ∧ C d = true) : GdG C R (orA C R) := ord_gd hR _ _ gd_nil
theorem or_end (hR : ∀ c d, R c d = true → d < 258 ∧ C d = true) : (List.range 258).find? (rdG C R (orA C R)) = none := ord_end hR _ _ gd_nil (by decide)
/-- how many are left -/
def lfG (C : Nat → Bool) (D : List Nat) (n : Nat) : Nat := (List.range n).countP (fun c => C c && !(D.contains c))
theorem lf_snoc {c : Nat} (h1 : C c = true) (h2 : c ∉ D) : ∀ n, lfG C D n = lfG C (D ++ [c]) n + (if c < n then 1 else 0) := by
  intro n
  unfold lfG
  induction n with
  | zero => simp
  | succ n ih =>
    rw [List.range_succ, List.countP_append, List.countP_append, ih, List.countP_singleton, List.countP_singleton]
    by_cases e : n = c
    · subst e
      simp [h1, h2]
    · have e2 : (C n && !(D ++ [c]).contains n) = (C n && !D.contains n) := by
        simp [e]
      rw [e2]
      by_cases e3 : c < n
      · have q1 : c < n + 1 := by omega
        simp only [e3, q1, if_true]
        omega
      · have q1 : ¬ c < n + 1 := by omega
        simp only [e3, q1, if_false]
        omega
theorem lf_sum (hR : ∀ c d, R c d = true → d < 258 ∧ C d = true) : ∀ (n : Nat) (D : List Nat), GdG C R D → (ordG C R n D).length + lfG C (ordG C R n D) 258 = D.length + lfG C D 258 := by
  intro n
  induction n with
  | zero => intro D g; rfl
  | succ n ih =>
    intro D g
    cases e : (List.range 258).find? (rdG C R D) with
    | none => rw [ord_st e]
    | some c =>
      obtain ⟨h1, h2, -⟩ := fn_s e
      rw [ord_s e, ih _ (g.snoc hR h1 h2), lf_snoc (rd_iff.mp h2).1 (rd_iff.mp h2).2.1 258, if_pos h1, List.length_append]
      simp
      omega
theorem lf_nil : lfG C [] 258 = mnG C 258 := by unfold lfG mnG; simp
theorem lf_0 {n : Nat} : lfG C D n = 0 ↔ ∀ c, c < n → C c = true → c ∈ D := by
  unfold lfG
  rw [List.countP_eq_zero]
  constructor
  · intro h c hc h1
    have := h c (List.mem_range.mpr hc)
    simpa [h1] using this
  · intro h c hc
    have := h c (List.mem_range.mp hc)
    cases e : C c with
    | false => simp
    | true => simpa using this e
/-- all came, or some cell is left -/
def alG (C : Nat → Bool) (R : Nat → Nat → Bool) : Prop := ∀ c, c < 258 → C c = true → c ∈ orA C R
theorem or_len (hR : ∀ c d, R c d = true → d < 258 ∧ C d = true) : (orA C R).length ≤ mnG C 258 ∧ ((orA C R).length = mnG C 258 ↔ alG C R) := by
  have h1 := lf_sum hR 259 [] gd_nil
  rw [lf_nil] at h1
  have h2 : ordG C R 259 [] = orA C R := rfl
  rw [h2] at h1
  simp only [List.length_nil, Nat.zero_add] at h1
  refine ⟨by omega, ?_⟩
  unfold alG
  rw [← lf_0]
  constructor
  · intro e; omega
  · intro e; omega
/-- ways of at most k reads to g -/
def dkG (C : Nat → Bool) (R : Nat → Nat → Bool) (g : Nat) : Nat → Nat → Bool
  | 0, c => c == g
  | k + 1, c => dkG C R g k c || (List.range 258).any (fun d => R c d && dkG C R g k d)
theorem dk_s {g k c : Nat} : dkG C R g (k + 1) c = true ↔ dkG C R g k c = true ∨ ∃ d, d < 258 ∧ R c d = true ∧ dkG C R g k d = true := by
  show (dkG C R g k c || _) = true ↔ _
  rw [Bool.or_eq_true, List.any_eq_true]
  constructor
  · rintro (h | ⟨d, h1, h2⟩)
    · exact Or.inl h
    · rw [Bool.and_eq_true] at h2
      exact Or.inr ⟨d, List.mem_range.mp h1, h2.1, h2.2⟩
  · rintro (h | ⟨d, h1, h2, h3⟩)
    · exact Or.inl h
    · exact Or.inr ⟨d, List.mem_range.mpr h1, by rw [h2, h3]; rfl⟩
theorem dk_mono {g c k m : Nat} (h : k ≤ m) (hk : dkG C R g k c = true) : dkG C R g m c = true := by
  induction m with
  | zero => have : k = 0 := by omega
            subst this; exact hk
  | succ m ih =>
    rcases Nat.lt_or_ge m k with q | q
    · have : k = m + 1 := by omega
      subst this; exact hk
    · exact dk_s.mpr (Or.inl (ih q))
theorem dk_0 {g c : Nat} : dkG C R g 0 c = true ↔ c = g := by
  show (c == g) = true ↔ _
  simp
/-- exactly k reads -/
def exG (C : Nat → Bool) (R : Nat → Nat → Bool) (g k c : Nat) : Prop := dkG C R g k c = true ∧ ∀ j, j < k → dkG C R g j c = false
theorem ex_of {g k c : Nat} (h : dkG C R g k c = true) : ∃ m, m ≤ k ∧ exG C R g m c := by
  induction k using Nat.strongRecOn with
  | ind k ih =>
    by_cases hc : ∃ j, j < k ∧ dkG C R g j c = true
    · obtain ⟨j, hj, e⟩ := hc
      obtain ⟨m, h1, h2⟩ := ih j hj e
      exact ⟨m, by omega, h2⟩
    · refine ⟨k, Nat.le_refl _, h, fun j hj => ?_⟩
      cases e : dkG C R g j c with
      | false => rfl
      | true => exact absurd ⟨j, hj, e⟩ hc
theorem ex_u {g k m c : Nat} (h1 : exG C R g k c) (h2 : exG C R g m c) : k = m := by
  rcases Nat.lt_trichotomy k m with q | q | q
  · have := h2.2 k q; rw [h1.1] at this; cases this
  · exact q
  · have := h1.2 m q; rw [h2.1] at this; cases this
theorem ex_s {g k c : Nat} (h : exG C R g (k + 1) c) : ∃ d, d < 258 ∧ R c d = true ∧ exG C R g k d := by
  rcases dk_s.mp h.1 with q | ⟨d, h1, h2, h3⟩
  · have := h.2 k (by omega); rw [q] at this; cases this
  · refine ⟨d, h1, h2, h3, fun j hj => ?_⟩
    cases e : dkG C R g j d with
    | false => rfl
    | true =>
      have e2 := h.2 (j + 1) (by omega)
      rw [dk_s.mpr (Or.inr ⟨d, h1, h2, e⟩)] at e2
      cases e2
/-- a read is never nearer by more than one -/
theorem ex_r {g k m c d : Nat} (hc : exG C R g k c) (hd : d < 258) (hr : R c d = true) (hm : exG C R g m d) : k ≤ m + 1 := by
  rcases Nat.lt_or_ge (m + 1) k with q | q
  · have := hc.2 (m + 1) q
    rw [dk_s.mpr (Or.inr ⟨d, hd, hr, hm.1⟩)] at this
    cases this
  · exact q
theorem ex_lv {g k c : Nat} (h : exG C R g k c) (hc : c < 258) : ∀ j, j ≤ k → ∃ d, d < 258 ∧ exG C R g j d := by
  induction k generalizing c with
  | zero =>
    intro j hj
    have : j = 0 := by omega
    subst this
    exact ⟨c, hc, h⟩
  | succ k ih =>
    intro j hj
    rcases Nat.lt_or_ge k j with q | q
    · have : j = k + 1 := by omega
      subst this
      exact ⟨c, hc, h⟩
    · obtain ⟨d, h1, -, h3⟩ := ex_s h
      exact ih h3 h1 j q
theorem ex_lt {g k c : Nat} (h : exG C R g k c) (hc : c < 258) : k < 258 := by
  have h1 := ex_lv h hc
  have h2 : ∀ j, ∃ d, j ≤ k → d < 258 ∧ exG C R g j d := fun j => by
    by_cases q : j ≤ k
    · obtain ⟨d, hd⟩ := h1 j q
      exact ⟨d, fun _ => hd⟩
    · exact ⟨0, fun q2 => absurd q2 q⟩
  have h3 := inj_le (n := 258) (s := k + 1) (f := fun j => Classical.choose (h2 j)) (fun j hj => (Classical.choose_spec (h2 j) (by omega)).1) (fun i j hi hj e => by
    have a := (Classical.choose_spec (h2 i) (by omega)).2
    have b := (Classical.choose_spec (h2 j) (by omega)).2
    rw [e] at a
    exact ex_u a b)
  omega
/-- how far a cell is from g -/
def dsG (C : Nat → Bool) (R : Nat → Nat → Bool) (g c : Nat) : Option Nat := (List.range 258).find? (fun k => dkG C R g k c)
theorem ds_s {g c k : Nat} : dsG C R g c = some k → k < 258 ∧ exG C R g k c := fun h => ⟨(fn_s h).1, (fn_s h).2.1, (fn_s h).2.2⟩
theorem ds_i {g c k : Nat} (hc : c < 258) (h : exG C R g k c) : dsG C R g c = some k := fn_i (ex_lt h hc) h.1 h.2
theorem ds_n {g c : Nat} (hc : c < 258) (h : dsG C R g c = none) (k : Nat) : dkG C R g k c = false := by
  cases e : dkG C R g k c with
  | false => rfl
  | true =>
    obtain ⟨m, -, h2⟩ := ex_of e
    rw [ds_i hc h2] at h
    cases h
/-- is a cell in a ring -/
def irG (C : Nat → Bool) (R : Nat → Nat → Bool) (c : Nat) : Bool := (List.range 258).any (fun d => R c d && (dsG C R c d).isSome)
theorem ir_iff {c : Nat} : irG C R c = true ↔ ∃ d k, d < 258 ∧ R c d = true ∧ dsG C R c d = some k := by
  unfold irG
  rw [List.any_eq_true]
  constructor
  · rintro ⟨d, h1, h2⟩
    rw [Bool.and_eq_true] at h2
    obtain ⟨k, hk⟩ := Option.isSome_iff_exists.mp h2.2
    exact ⟨d, k, List.mem_range.mp h1, h2.1, hk⟩
  · rintro ⟨d, k, h1, h2, h3⟩
    exact ⟨d, List.mem_range.mpr h1, by rw [h2, h3]; rfl⟩
/-- what leads to a cell that is left is left -/
theorem dk_lf (g : GdG C R D) {s k c : Nat} (hs : s ∉ D) (h : dkG C R s k c = true) : c ∉ D := by
  induction k generalizing c with
  | zero => rw [dk_0.mp h]; exact hs
  | succ k ih =>
    rcases dk_s.mp h with q | ⟨d, -, h2, h3⟩
    · exact ih q
    · intro hc
      exact ih h3 (g.2.2.1 c hc d h2)
/-- a cell that came is in no ring -/
theorem dk_rk (g : GdG C R D) {rk : Nat → Nat} (hrk : ∀ c, c ∈ D → ∀ d, R c d = true → rk d < rk c) {s k c : Nat} (hc : c ∈ D) (h : dkG C R s k c = true) : rk s ≤ rk c := by
  induction k generalizing c with
  | zero => rw [dk_0.mp h]; exact Nat.le_refl _
  | succ k ih =>
    rcases dk_s.mp h with q | ⟨d, -, h2, h3⟩
    · exact ih hc q
    · have := ih (g.2.2.1 c hc d h2) h3
      have := hrk c hc d h2
      omega
theorem ir_lf (g : GdG C R D) {c : Nat} (h : irG C R c = true) : c ∉ D := by
  intro hc
  obtain ⟨d, k, -, h2, h3⟩ := ir_iff.mp h
  obtain ⟨rk, -, h5⟩ := g.2.2.2
  have := dk_rk g h5 (g.2.2.1 c hc d h2) (ds_s h3).2.1
  have := h5 c hc d h2
  omega
/-- where cells are left there is a ring -/
theorem dk_tr {x y z k m : Nat} (h1 : dkG C R y k x = true) (h2 : dkG C R z m y = true) : ∃ n, dkG C R z n x = true := by
  induction k generalizing x with
  | zero => rw [dk_0.mp h1]; exact ⟨m, h2⟩
  | succ k ih =>
    rcases dk_s.mp h1 with q | ⟨d, hd, hr, q⟩
    · exact ih q
    · obtain ⟨n, hn⟩ := ih q
      exact ⟨n + 1, dk_s.mpr (Or.inr ⟨d, hd, hr, hn⟩)⟩
theorem ring_ex {L : Nat → Prop} (hL : ∀ c, L c → c < 258 ∧ ∃ d, L d ∧ R c d = true) {c : Nat} (hc : L c) : ∃ s, L s ∧ irG C R s = true := by
  have hd : ∃ f : Nat → Nat, ∀ x, L x → L (f x) ∧ R x (f x) = true := by
    have h2 : ∀ x, ∃ y, L x → L y ∧ R x y = true := fun x => by
      by_cases h : L x
      · obtain ⟨d, h3⟩ := (hL x h).2
        exact ⟨d, fun _ => h3⟩
      · exact ⟨0, fun q => absurd q h⟩
    exact ⟨fun x => Classical.choose (h2 x), fun x hx => Classical.choose_spec (h2 x) hx⟩
  obtain ⟨f, hf⟩ := hd
  have hw : ∃ w : Nat → Nat, w 0 = c ∧ ∀ n, w (n + 1) = f (w n) := ⟨fun n => Nat.rec c (fun _ x => f x) n, rfl, fun _ => rfl⟩
  obtain ⟨w, w0, ws⟩ := hw
  have hl : ∀ n, L (w n) := by
    intro n
    induction n with
    | zero => rw [w0]; exact hc
    | succ n ih => rw [ws]; exact (hf _ ih).1
  have hp : ∀ m i, dkG C R (w (i + m)) m (w i) = true := by
    intro m
    induction m with
    | zero => intro i; exact dk_0.mpr rfl
    | succ m ih =>
      intro i
      have h3 := ih (i + 1)
      rw [show i + 1 + m = i + (m + 1) by omega] at h3
      refine dk_s.mpr (Or.inr ⟨w (i + 1), (hL _ (hl _)).1, ?_, h3⟩)
      rw [ws]
      exact (hf _ (hl i)).2
  have hq : ∃ i j, i < j ∧ w i = w j := by
    apply Classical.byContradiction
    intro hn
    have := inj_le (n := 258) (s := 259) (f := w) (fun k _ => (hL _ (hl k)).1) (fun i j _ _ e => by
      rcases Nat.lt_trichotomy i j with q | q | q
      · exact absurd ⟨i, j, q, e⟩ hn
      · exact q
      · exact absurd ⟨j, i, q, e.symm⟩ hn)
    omega
  obtain ⟨i, j, hij, e⟩ := hq
  refine ⟨w i, hl i, ir_iff.mpr ?_⟩
  have h1 := hp (j - (i + 1)) (i + 1)
  rw [show i + 1 + (j - (i + 1)) = j by omega, ← e] at h1
  obtain ⟨m, -, h2⟩ := ex_of h1
  refine ⟨w (i + 1), m, (hL _ (hl _)).1, ?_, ds_i (hL _ (hl _)).1 h2⟩
  rw [ws]
  exact (hf _ (hl i)).2
theorem left_ring (hR : ∀ c d, R c d = true → d < 258 ∧ C d = true) (h : ¬ alG C R) : ∃ s, s < 258 ∧ C s = true ∧ irG C R s = true := by
  have he := fn_n (or_end (C := C) (R := R) hR)
  have hL : ∀ c, (c < 258 ∧ C c = true ∧ c ∉ orA C R) → c < 258 ∧ ∃ d, (d < 258 ∧ C d = true ∧ d ∉ orA C R) ∧ R c d = true := by
    rintro c ⟨h1, h2, h3⟩
    refine ⟨h1, ?_⟩
    apply Classical.byContradiction
    intro hn
    have h4 := he c h1
    rw [rd_iff.mpr ⟨h2, h3, fun d hd hr => ?_⟩] at h4
    · cases h4
    · apply Classical.byContradiction
      intro hd2
      exact hn ⟨d, ⟨hd, (hR c d hr).2, hd2⟩, hr⟩
  have : ∃ c, c < 258 ∧ C c = true ∧ c ∉ orA C R := by
    apply Classical.byContradiction
    intro hn
    apply h
    intro c h1 h2
    apply Classical.byContradiction
    intro h3
    exact hn ⟨c, h1, h2, h3⟩
  obtain ⟨c, hc⟩ := this
  obtain ⟨s, h1, h2⟩ := ring_ex (C := C) (R := R) hL hc
  exact ⟨s, h1.1, h1.2.1, h2⟩
/-- where the ring begins -/
def rbG (C : Nat → Bool) (R : Nat → Nat → Bool) : Option Nat := (List.range 258).find? (fun c => C c && irG C R c)
/-- the nearest of a list, the first of them -/
def nbG (f : Nat → Option Nat) (b : Option Nat) (d : Nat) : Option Nat := match f d with
  | none => b
  | some k => match b with
    | none => some d
    | some x => match f x with
      | none => some d
      | some m => if k < m then some d else b
def nrG (f : Nat → Option Nat) (l : List Nat) : Option Nat := l.foldl (nbG f) none
/-- ring cells from c on -/
def rgG (nx : Nat → Option Nat) (s : Nat) : Nat → Nat → List Nat
  | 0, _ => []
  | n + 1, c => c :: (match nx c with
    | none => []
    | some d => if d = s then [] else rgG nx s n d)
/-- the nearest: it is in the list, and none is nearer -/
theorem nr_go {f : Nat → Option Nat} : ∀ (l : List Nat) (b : Option Nat), (∀ x, b = some x → ∃ m, f x = some m) →
    (∀ x, l.foldl (nbG f) b = some x → (b = some x ∨ x ∈ l) ∧ ∃ m, f x = some m ∧ (∀ y k, y ∈ l → f y = some k → m ≤ k) ∧ ∀ y k, b = some y → f y = some k → m ≤ k) ∧ (l.foldl (nbG f) b = none → b = none ∧ ∀ y, y ∈ l → f y = none) := by
  intro l
  induction l with
  | nil =>
    intro b hb
    refine ⟨fun x e => ⟨Or.inl e, ?_⟩, fun e => ⟨e, fun y hy => by simp at hy⟩⟩
    obtain ⟨m, hm⟩ := hb x e
    refine ⟨m, hm, fun y k hy => by simp at hy, fun y k e2 hk => ?_⟩
    have e3 : b = some x := e
    rw [e3] at e2
    cases e2
    rw [hm] at hk
    cases hk
    exact Nat.le_refl _
  | cons d l ih =>
    intro b hb
    rw [List.foldl_cons]
    cases hd : f d with
    | none =>
      have e1 : nbG f b d = b := by unfold nbG; rw [hd]
      rw [e1]
      obtain ⟨i1, i2⟩ := ih b hb
      refine ⟨fun x e => ?_, fun e => ?_⟩
      · obtain ⟨a1, m, a2, a3, a4⟩ := i1 x e
        refine ⟨a1.imp id (fun q => List.mem_cons_of_mem _ q), m, a2, fun y k hy hk => ?_, a4⟩
        rcases List.mem_cons.mp hy with q | q
        · rw [q, hd] at hk; cases hk
        · exact a3 y k q hk
      · refine ⟨(i2 e).1, fun y hy => ?_⟩
        rcases List.mem_cons.mp hy with q | q
        · rw [q]; exact hd
        · exact (i2 e).2 y q
    | some k =>
      have key : nbG f b d = some d ∧ (∀ y m, b = some y → f y = some m → k ≤ m) ∨ (∃ x m, b = some x ∧ f x = some m ∧ m ≤ k ∧ nbG f b d = b) := by
        unfold nbG
        rw [hd]
        cases b with
        | none => exact Or.inl ⟨rfl, fun y m e => by cases e⟩
        | some x =>
          obtain ⟨m, hm⟩ := hb x rfl
          by_cases q : k < m
          · refine Or.inl ⟨by simp only [hm, if_pos q], fun y m2 e e2 => ?_⟩
            cases e
            rw [hm] at e2
            cases e2
            omega
          · exact Or.inr ⟨x, m, rfl, hm, by omega, by simp only [hm, if_neg q]⟩
      rcases key with ⟨e1, e2⟩ | ⟨x0, m0, e0, e2, e3, e1⟩
      · rw [e1]
        obtain ⟨i1, i2⟩ := ih (some d) (fun x e => by cases e; exact ⟨k, hd⟩)
        refine ⟨fun x e => ?_, fun e => absurd (i2 e).1 (by simp)⟩
        obtain ⟨a1, m, a2, a3, a4⟩ := i1 x e
        refine ⟨?_, m, a2, fun y k2 hy hk => ?_, fun y k2 hy hk => ?_⟩
        · rcases a1 with q | q
          · cases q; exact Or.inr List.mem_cons_self
          · exact Or.inr (List.mem_cons_of_mem _ q)
        · rcases List.mem_cons.mp hy with q | q
          · rw [q] at hk; exact a4 d k2 rfl hk
          · exact a3 y k2 q hk
        · have := e2 y k2 hy hk
          have := a4 d k rfl hd
          omega
      · rw [e1]
        obtain ⟨i1, i2⟩ := ih b hb
        refine ⟨fun x e => ?_, fun e => ?_⟩
        · obtain ⟨a1, m, a2, a3, a4⟩ := i1 x e
          refine ⟨a1.imp id (fun q => List.mem_cons_of_mem _ q), m, a2, fun y k2 hy hk => ?_, a4⟩
          rcases List.mem_cons.mp hy with q | q
          · rw [q, hd] at hk
            cases hk
            have := a4 x0 m0 e0 e2
            omega
          · exact a3 y k2 q hk
        · rw [e0] at i2; exact absurd (i2 (by rw [e0] at e; exact e)).1 (by simp)
end Graph
