/-! Reads: does a cell lead back to itself -/
def ctB (x : Int64) : Nat := (List.range 64).countP (gb x)
theorem ctB_0 {x : Int64} (h : ctB x = 0) : x = 0 := gb_z.mpr (fun j hj => by
  have := List.countP_eq_zero.mp h j (List.mem_range.mpr hj)
  simpa using this)
theorem ct_sub {p q : Nat → Bool} {k : Nat} (h1 : p k = true) (hq : ∀ j, q j = (p j && decide (j ≠ k))) : ∀ n, (List.range n).countP p = (List.range n).countP q + (if k < n then 1 else 0) := by
  intro n
  induction n with
  | zero => simp
  | succ n ih =>
    rw [List.range_succ, List.countP_append, List.countP_append, ih, List.countP_singleton, List.countP_singleton]
    by_cases e : n = k
    · subst e
      rw [hq n, h1]
      simp
    · rw [hq n]
      by_cases e3 : k < n
      · have q1 : k < n + 1 := by omega
        simp only [e3, q1, if_true, ne_eq, e, not_false_eq_true, decide_true, Bool.and_true]
        omega
      · have q1 : ¬ k < n + 1 := by omega
        simp only [e3, q1, if_false, ne_eq, e, not_false_eq_true, decide_true, Bool.and_true]
        omega
section Spread
variable {h : AH}
/-- the bits of a word, added to a row -/
theorem spr53 (l1 : Int32) {w : Nat} (hw : w < 5) : ∀ (m n : Nat) (h : AH) (x : Int64) (i : Nat) (F : List Nat), i + m = 64 → m < n → ctB x ≤ m → Sh h → Rw h 47 F → F.Nodup → (∀ j, j < 64 → gb x j = true → 64 * w + j < 258 ∧ 64 * w + j ∉ F) →
    ∃ h' E, f_X5_spread_53 34 l1 (nI w) n h x (nI i) = some h' ∧ Fq h h' (fun a => a = 47 ∨ a = 48) ∧ Rw h' 47 (F ++ E) ∧ (F ++ E).Nodup ∧ ∀ d, d ∈ E ↔ ∃ j, j < 64 ∧ d = 64 * w + j ∧ gb x j = true := by
  intro m
  induction m with
  | zero =>
    intro n h x i F hi hn hct S w0 hd hb
    obtain ⟨n, rfl⟩ : ∃ j, n = j + 1 := ⟨n - 1, by omega⟩
    have hx : x = 0 := ctB_0 (by omega)
    refine ⟨h, [], ?_, Fq.rf _ _, by rw [List.append_nil]; exact w0, by rw [List.append_nil]; exact hd, fun d => ?_⟩
    · unfold f_X5_spread_53
      rw [if_pos (show (64 : Int32) ≤ nI i from nI_le (a := 64) (by omega) (by omega))]
    · subst hx
      simp [gb_0]
  | succ m ih =>
    intro n h x i F hi hn hct S w0 hd hb
    obtain ⟨n, rfl⟩ : ∃ j, n = j + 1 := ⟨n - 1, by omega⟩
    by_cases q : x = 0
    · refine ⟨h, [], ?_, Fq.rf _ _, by rw [List.append_nil]; exact w0, by rw [List.append_nil]; exact hd, fun d => ?_⟩
      · unfold f_X5_spread_53
        rw [if_neg (show ¬ (64 : Int32) ≤ nI i from nI_ge (b := 64) (by omega) (by decide)), if_pos ((cmp_z _).mpr q)]
      · subst q
        simp [gb_0]
    · obtain ⟨k, hk, e1, e2, e3, e4⟩ := low_bit h q
      obtain ⟨hk8, hkF⟩ := hb k hk e1
      have hd1 : (F ++ [64 * w + k]).Nodup := by
        rw [List.nodup_append]
        exact ⟨hd, List.pairwise_singleton _ _, fun a ha b hb2 e => hkF (by rw [List.mem_singleton.mp hb2] at e; rw [← e]; exact ha)⟩
      have hl : (F ++ [64 * w + k]).length ≤ 258 := nodup_le hd1 (fun t ht => by
        rcases List.mem_append.mp ht with q2 | q2
        · exact w0.2.2.1 t q2
        · rw [List.mem_singleton.mp q2]; exact hk8)
      rw [List.length_append] at hl
      obtain ⟨h1, a1, f1, w1⟩ := q_add (S.r (r := 47) (by decide)) w0 hk8 (by simp at hl; omega)
      have hct2 : ctB x = ctB (x &&& (x - 1)) + 1 := by
        have := ct_sub (p := gb x) (q := fun j => gb x j && decide (j ≠ k)) e1 (fun j => rfl) 64
        rw [if_pos hk] at this
        unfold ctB
        rw [this]
        congr 1
        apply List.countP_congr
        intro j hj
        rw [e4 j (List.mem_range.mp hj)]
      obtain ⟨h2, E, a2, f2, w2, d2, m2⟩ := ih n h1 (x &&& (x - 1)) (i + 1) (F ++ [64 * w + k]) (by omega) (by omega) (by omega) (f1.S S) w1 hd1 (fun j hj hg => by
        rw [e4 j hj, Bool.and_eq_true] at hg
        have hne : j ≠ k := by simpa using hg.2
        obtain ⟨p1, p2⟩ := hb j hj hg.1
        refine ⟨p1, fun q2 => ?_⟩
        rcases List.mem_append.mp q2 with q3 | q3
        · exact p2 q3
        · have := List.mem_singleton.mp q3
          omega)
      refine ⟨h2, (64 * w + k) :: E, ?_, f1.tr f2, by rw [List.append_cons]; exact w2, by rw [List.append_cons]; exact d2, fun d => ?_⟩
      · unfold f_X5_spread_53
        rw [if_neg (show ¬ (64 : Int32) ≤ nI i from nI_ge (b := 64) (by omega) (by decide)), if_neg (fun e => q ((cmp_z _).mp e)), g_34_11 S, bs, e3, bs, w64, a1, bs, nI_1, a2]
      · rw [List.mem_cons, m2 d]
        constructor
        · rintro (q2 | ⟨j, p1, p2, p3⟩)
          · exact ⟨k, hk, q2, e1⟩
          · rw [e4 j p1, Bool.and_eq_true] at p3
            exact ⟨j, p1, p2, p3.1⟩
        · rintro ⟨j, p1, p2, p3⟩
          by_cases q2 : j = k
          · subst q2; exact Or.inl p2
          · refine Or.inr ⟨j, p1, p2, ?_⟩
            rw [e4 j p1, p3]
            simp [q2]
/-- what a cell leads to -/
def nwB (X : Nat → Bool) (D F : List Nat) (d : Nat) : Bool := X d && !(D.contains d) && !(F.contains d)
theorem spr2 {c : Nat} (hc : c < 258) {X : Nat → Bool} (hX : ∀ d, X d = true → d < 258) {D F : List Nat} : ∀ (m n : Nat) (h : AH) (w : Nat) (E : List Nat), w + m = 5 → m < n → Sh h → (∀ d, d < 320 → hb (aJ h 35) (5 * c) d = X d) → (∀ d, d < 320 → hb (aJ h 36) 0 d = D.contains d) → Rw h 47 (F ++ E) → (F ++ E).Nodup → (∀ d, d ∈ E ↔ d < 64 * w ∧ nwB X D F d = true) → (∀ d, d < 320 → hb (aJ h 37) 0 d = (F.contains d || (decide (d < 64 * w) && nwB X D F d))) →
    ∃ h' E', f_X5_spread_2 34 (nI c) n h (nI w) = some h' ∧ Fq h h' (fun a => a = 37 ∨ a = 47 ∨ a = 48) ∧ Rw h' 47 (F ++ E') ∧ (F ++ E').Nodup ∧ (∀ d, d ∈ E' ↔ nwB X D F d = true) ∧ ∀ d, d < 320 → hb (aJ h' 37) 0 d = (F ++ E').contains d := by
  have nw8 : ∀ d, nwB X D F d = true → d < 258 := fun d q => by
    unfold nwB at q
    rw [Bool.and_eq_true, Bool.and_eq_true] at q
    exact hX d q.1.1
  intro m
  induction m with
  | zero =>
    intro n h w E hw hn S b1 b2 w0 hd hE b3
    obtain ⟨n, rfl⟩ : ∃ j, n = j + 1 := ⟨n - 1, by omega⟩
    have hE' : ∀ d, d ∈ E ↔ nwB X D F d = true := fun d => by
      rw [hE d]
      constructor
      · intro q; exact q.2
      · intro q; have := nw8 d q; exact ⟨by omega, q⟩
    refine ⟨h, E, ?_, Fq.rf _ _, w0, hd, hE', fun d hd => ?_⟩
    · unfold f_X5_spread_2
      rw [if_pos (show (5 : Int32) ≤ nI w from nI_le (a := 5) (by omega) (by omega))]
    · rw [b3 d hd, Bool.eq_iff_iff]
      have hw5 : w = 5 := by omega
      subst hw5
      have q5 : d < 64 * 5 := by omega
      simp [hE' d, q5]
      try omega
  | succ m ih =>
    intro n h w E hw hn S b1' b2 w0 hd hE b3
    obtain ⟨n, rfl⟩ : ∃ j, n = j + 1 := ⟨n - 1, by omega⟩
    obtain ⟨x, ex⟩ : ∃ y, y = (aJ h 35 (5 * c + w) &&& (aJ h 36 w ^^^ (-1))) &&& (aJ h 37 w ^^^ (-1)) := ⟨_, rfl⟩
    have hx : ∀ j, j < 64 → gb x j = nwB X D F (64 * w + j) := by
      intro j hj
      rw [ex, gb_and, gb_and, gb_not _ hj, gb_not _ hj]
      have q1 := b1' (64 * w + j) (by omega)
      have q2 := b2 (64 * w + j) (by omega)
      have q3 := b3 (64 * w + j) (by omega)
      unfold hb at q1 q2 q3
      rw [show (64 * w + j) / 64 = w by omega, show (64 * w + j) % 64 = j by omega] at q1 q2 q3
      rw [Nat.zero_add] at q2 q3
      rw [q1, q2, q3]
      unfold nwB
      have q4 : ¬ 64 * w + j < 64 * w := by omega
      simp [q4]
    obtain ⟨h1, eh1⟩ : ∃ y, y = sJ h 37 w (aJ h 37 w ||| x) := ⟨_, rfl⟩
    have f1 : Fq h h1 (fun a => a = 37) := by rw [eh1]; exact Fq.sj rfl
    have S1 := f1.S S
    obtain ⟨h2, E2, e2, f2, w2, d2, m2⟩ := spr53 (nI c) (w := w) (by omega) 64 FU h1 x 0 (F ++ E) rfl (by unfold FU; omega) (by
      unfold ctB
      have := List.countP_le_length (p := gb x) (l := List.range 64)
      simpa using this) S1 (f1.w w0 (by omega) (by omega)) hd (fun j hj hg => by
        rw [hx j hj] at hg
        refine ⟨nw8 _ hg, fun q => ?_⟩
        rcases List.mem_append.mp q with q2 | q2
        · unfold nwB at hg
          rw [Bool.and_eq_true] at hg
          simp [q2] at hg
        · have := (hE _).mp q2
          omega)
    rw [List.append_assoc] at w2 d2
    have hE2 : ∀ d, d ∈ E ++ E2 ↔ d < 64 * (w + 1) ∧ nwB X D F d = true := by
      intro d
      rw [List.mem_append, hE d, m2 d]
      constructor
      · rintro (q | ⟨j, p1, p2, p3⟩)
        · exact ⟨by omega, q.2⟩
        · rw [hx j p1, ← p2] at p3
          exact ⟨by omega, p3⟩
      · rintro ⟨q1, q2⟩
        rcases Nat.lt_or_ge d (64 * w) with q | q
        · exact Or.inl ⟨q, q2⟩
        · refine Or.inr ⟨d - 64 * w, by omega, by omega, ?_⟩
          rw [hx _ (by omega), show 64 * w + (d - 64 * w) = d by omega]
          exact q2
    obtain ⟨h3, E3, e3, f3, w3, d3, m3, r3⟩ := ih n h2 (w + 1) (E ++ E2) (by omega) (by omega) (f2.S S1) (fun d hd => by rw [f2.j (by omega), f1.j (by omega)]; exact b1' d hd) (fun d hd => by rw [f2.j (by omega), f1.j (by omega)]; exact b2 d hd) w2 d2 hE2 (fun d hd => by
      rw [f2.j (by omega)]
      have q3 := b3 d hd
      unfold hb at q3 ⊢
      rw [Nat.zero_add] at q3 ⊢
      rw [eh1, sJ_J]
      by_cases q : d / 64 = w
      · rw [if_pos ⟨rfl, q⟩]
        rw [q] at q3
        rw [gb_or, q3, hx (d % 64) (by omega), show 64 * w + d % 64 = d by omega]
        have q4 : ¬ d < 64 * w := by omega
        have q5 : d < 64 * (w + 1) := by omega
        simp [q4, q5]
      · rw [if_neg (fun y => q y.2), q3]
        congr 2
        apply decide_eq_decide.mpr
        omega)
    refine ⟨h3, E3, ?_, ((f1.mono (fun a q => by omega)).tr (f2.mono (fun a q => by omega))).tr f3, w3, d3, m3, r3⟩
    unfold f_X5_spread_2
    rw [if_neg (show ¬ (5 : Int32) ≤ nI w from nI_ge (b := 5) (by omega) (by decide)), g_34_1 S, bs, c5, ld_35 S (by omega), bs, g_34_2 S, bs, ld_36 S (by omega), bs, g_34_3 S, bs, ld_37 S (by omega), bs, ← ex, bs, bs, ld_37 S (by omega), bs, st_37 S (by omega), bs, ← eh1, show (0 : Int32) = nI 0 from rfl, e2, bs, nI_1, e3]
theorem q_spread (S : Sh h) {c : Nat} (hc : c < 258) {R : Nat → Nat → Bool} (hR : ∀ c d, R c d = true → d < 258) {D F : List Nat} (b : Bt h R) (b2 : ∀ d, d < 320 → hb (aJ h 36) 0 d = D.contains d) (w0 : Rw h 47 F) (hd : F.Nodup) (b3 : ∀ d, d < 320 → hb (aJ h 37) 0 d = F.contains d) :
    ∃ h' E, f_X5_spread h 34 (nI c) = some h' ∧ Fq h h' (fun a => a = 37 ∨ a = 47 ∨ a = 48) ∧ Rw h' 47 (F ++ E) ∧ (F ++ E).Nodup ∧ (∀ d, d ∈ E ↔ R c d = true ∧ d ∉ D ∧ d ∉ F) ∧ ∀ d, d < 320 → hb (aJ h' 37) 0 d = (F ++ E).contains d := by
  obtain ⟨h1, E, e1, f1, w1, d1, m1, r1⟩ := spr2 hc (X := R c) (hR c) (D := D) (F := F) 5 FU h 0 [] rfl (by unfold FU; omega) S (fun d hd => b c d hc hd) b2 (by rw [List.append_nil]; exact w0) (by rw [List.append_nil]; exact hd) (fun d => by simp) (fun d hd => by rw [b3 d hd]; simp)
  refine ⟨h1, E, ?_, f1, w1, d1, fun d => ?_, r1⟩
  · unfold f_X5_spread
    rw [if_pos (k_34 S), show (0 : Int32) = nI 0 from rfl, e1, bs]
  · rw [m1 d]
    unfold nwB
    simp [and_assoc]
end Spread
