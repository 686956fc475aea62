/-! Reads: how far each cell is from the ring's first -/
section Measure
variable {B : BK} {A : AP} {p T Ls : Nat}
theorem edge_go {h : AH} (S : Sh h) {c : Nat} (hc : c < 258) : ∀ (m n w : Nat), w + m = 5 → m < n → (∀ d, d < 64 * w → (hb (aJ h 35) (5 * c) d && hb (aJ h 38) 0 d) = false) →
    (f_X5_readsEdge_2 34 (nI c) n h (nI w) = some (.inr ()) ∧ ∀ d, d < 320 → (hb (aJ h 35) (5 * c) d && hb (aJ h 38) 0 d) = false) ∨ (f_X5_readsEdge_2 34 (nI c) n h (nI w) = some (.inl 1) ∧ ∃ d, d < 320 ∧ (hb (aJ h 35) (5 * c) d && hb (aJ h 38) 0 d) = true) := by
  intro m
  induction m with
  | zero =>
    intro n w hw hn hd
    obtain ⟨n, rfl⟩ : ∃ j, n = j + 1 := ⟨n - 1, by omega⟩
    refine Or.inl ⟨?_, fun d h1 => hd d (by omega)⟩
    unfold f_X5_readsEdge_2
    rw [if_pos (show (5 : Int32) ≤ nI w from nI_le (a := 5) (by omega) (by omega))]
  | succ m ih =>
    intro n w hw hn hd
    obtain ⟨n, rfl⟩ : ∃ j, n = j + 1 := ⟨n - 1, by omega⟩
    have hu : f_X5_readsEdge_2 34 (nI c) (n + 1) h (nI w) = if lg_cmp (aJ h 35 (5 * c + w) &&& aJ h 38 w) 0 = 0 then f_X5_readsEdge_2 34 (nI c) n h (nI (w + 1)) else some (.inl 1) := by
      conv => lhs; unfold f_X5_readsEdge_2
      rw [if_neg (show ¬ (5 : Int32) ≤ nI w from nI_ge (b := 5) (by omega) (by decide)), g_34_1 S, bs, c5, ld_35 S (by omega), bs, g_34_4 S, bs, ld_38 S (by omega), bs, nI_1]
    have hbw : ∀ j, j < 64 → gb (aJ h 35 (5 * c + w) &&& aJ h 38 w) j = (hb (aJ h 35) (5 * c) (64 * w + j) && hb (aJ h 38) 0 (64 * w + j)) := by
      intro j hj
      rw [gb_and]
      unfold hb
      rw [show (64 * w + j) / 64 = w by omega, show (64 * w + j) % 64 = j by omega, Nat.zero_add]
    rw [hu]
    by_cases q : aJ h 35 (5 * c + w) &&& aJ h 38 w = 0
    · rw [if_pos ((cmp_z _).mpr q)]
      refine ih n (w + 1) (by omega) (by omega) (fun d h1 => ?_)
      rcases Nat.lt_or_ge d (64 * w) with q2 | q2
      · exact hd d q2
      · have := gb_z.mp q (d - 64 * w) (by omega)
        rw [hbw _ (by omega), show 64 * w + (d - 64 * w) = d by omega] at this
        exact this
    · obtain ⟨k, hk, e1, -, -, -⟩ := low_bit h q
      rw [if_neg (fun e => q ((cmp_z _).mp e))]
      refine Or.inr ⟨rfl, 64 * w + k, by omega, ?_⟩
      rw [hbw k hk] at e1
      exact e1
theorem q_readsEdge {h : AH} (S : Sh h) {c : Nat} (hc : c < 258) : (f_X5_readsEdge h 34 (nI c) = some 0 ∧ ∀ d, d < 320 → (hb (aJ h 35) (5 * c) d && hb (aJ h 38) 0 d) = false) ∨ (f_X5_readsEdge h 34 (nI c) = some 1 ∧ ∃ d, d < 320 ∧ (hb (aJ h 35) (5 * c) d && hb (aJ h 38) 0 d) = true) := by
  rcases edge_go S hc 5 FU 0 rfl (by unfold FU; omega) (fun d h1 => by omega) with ⟨e, g⟩ | ⟨e, g⟩
  · refine Or.inl ⟨?_, g⟩
    unfold f_X5_readsEdge
    rw [if_pos (k_34 S), show (0 : Int32) = nI 0 from rfl, e, bs]
  · refine Or.inr ⟨?_, g⟩
    unfold f_X5_readsEdge
    rw [if_pos (k_34 S), show (0 : Int32) = nI 0 from rfl, e, bs]
/-- what is known of the ways when those below r are measured -/
def lwO (o : Option Nat) (r : Nat) : Option Nat := match o with
  | none => none
  | some k => if k < r then some k else none
theorem lw_n {o : Option Nat} {r : Nat} : lwO o r = none ↔ ∀ k, o = some k → r ≤ k := by
  unfold lwO
  cases o with
  | none => simp
  | some k =>
    by_cases q : k < r
    · simp [q]
    · simp [q]; omega
theorem lw_s {o : Option Nat} {r : Nat} (h : o ≠ some r) : lwO o (r + 1) = lwO o r := by
  unfold lwO
  cases o with
  | none => rfl
  | some k =>
    have : k ≠ r := fun e => h (by rw [e])
    by_cases q : k < r
    · have q2 : k < r + 1 := by omega
      simp [q, q2]
    · have q2 : ¬ k < r + 1 := by omega
      simp [q, q2]
theorem lw_e {o : Option Nat} {r : Nat} (h : o = some r) : lwO o (r + 1) = some r ∧ lwO o r = none := by
  subst h
  unfold lwO
  simp
theorem ov_m {o : Option Nat} (h : ∀ k, o = some k → k < 258) : ov o = -1 ↔ o = none := by
  cases o with
  | none => simp [ov_n]
  | some k => rw [ov_s]; simp; exact nI_nm (by have := h k rfl; omega)
theorem rd_C {c d : Nat} (h : rdB B A c d = true) : isC B A c = true := by
  unfold rdB at h
  simp only [Bool.and_eq_true, decide_eq_true_eq] at h
  exact h.1.1.1.1
/-- a cell at way r: not nearer, left, reads one at way r - 1 -/
theorem lvl {D : List Nat} (g : GdG (isC B A) (rdB B A) D) {s c r : Nat} (hs : s ∉ D) (hc : c < 258) : dsG (isC B A) (rdB B A) s c = some (r + 1) ↔ (lwO (dsG (isC B A) (rdB B A) s c) (r + 1) = none ∧ (isC B A c = true ∧ c ∉ D) ∧ ∃ d, d < 258 ∧ rdB B A c d = true ∧ dsG (isC B A) (rdB B A) s d = some r) := by
  constructor
  · intro e
    obtain ⟨h1, h2⟩ := ds_s e
    obtain ⟨d, p1, p2, p3⟩ := ex_s h2
    exact ⟨(lw_e e).2, ⟨rd_C p2, dk_lf g hs h2.1⟩, d, p1, p2, ds_i p1 p3⟩
  · rintro ⟨h1, -, d, p1, p2, p3⟩
    have hk : dkG (isC B A) (rdB B A) s (r + 1) c = true := dk_s.mpr (Or.inr ⟨d, p1, p2, (ds_s p3).2.1⟩)
    obtain ⟨m, hm, he⟩ := ex_of hk
    have := lw_n.mp h1 m (ds_i hc he)
    have e2 : m = r + 1 := by omega
    subst e2
    exact ds_i hc he
theorem mea67 (W : WfB B) (hp : p ≤ 16) {D : List Nat} (g : GdG (isC B A) (rdB B A) D) {s r : Nat} (hs : s ∉ D) (hr : r < 258) : ∀ (m n : Nat) (h : AH) (i : Nat) (y : Int32), i + m = 258 → m < n → (y = 0 → ∀ c, c < i → dsG (isC B A) (rdB B A) s c ≠ some (r + 1)) → Cx h B A p → Bt h (rdB B A) → (∀ d, d < 320 → hb (aJ h 36) 0 d = D.contains d) → (∀ d, d < 320 → hb (aJ h 38) 0 d = (decide (d < 258) && decide (dsG (isC B A) (rdB B A) s d = some r))) → (∀ c, c < 258 → aI h 42 c = ov (lwO (dsG (isC B A) (rdB B A) s c) (if c < i then r + 2 else r + 1))) → (∀ d, d < 320 → hb (aJ h 37) 0 d = (decide (d < i) && decide (dsG (isC B A) (rdB B A) s d = some (r + 1)))) →
    ∃ h' b, f_X5_measure_67 34 (nI (r + 1)) n h y (nI i) = some (b, h') ∧ Fq h h' (fun a => a = 37 ∨ a = 42) ∧ (∀ c, c < 258 → aI h' 42 c = ov (lwO (dsG (isC B A) (rdB B A) s c) (r + 2))) ∧ (∀ d, d < 320 → hb (aJ h' 37) 0 d = (decide (d < 258) && decide (dsG (isC B A) (rdB B A) s d = some (r + 1)))) ∧ (b = 0 → ∀ c, c < 258 → dsG (isC B A) (rdB B A) s c ≠ some (r + 1)) := by
  intro m
  induction m with
  | zero =>
    intro n h i y hi hn hy x b b2 b3 b4 b5
    obtain ⟨n, rfl⟩ : ∃ j, n = j + 1 := ⟨n - 1, by omega⟩
    have hi8 : i = 258 := by omega
    subst hi8
    refine ⟨h, y, ?_, Fq.rf _ _, fun c hc => by rw [b4 c hc, if_pos hc], b5, hy⟩
    unfold f_X5_measure_67
    rw [if_pos (show (258 : Int32) ≤ nI 258 from nI_le (a := 258) (by omega) (by omega))]
  | succ m ih =>
    intro n h i y hi hn hy x b b2 b3 b4 b5
    obtain ⟨n, rfl⟩ : ∃ j, n = j + 1 := ⟨n - 1, by omega⟩
    have S := x.1
    have hi8 : i < 258 := by omega
    have hlt : ∀ r' k, lwO (dsG (isC B A) (rdB B A) s i) r' = some k → k < 258 := fun r' k e => by
      unfold lwO at e
      split at e
      · cases e
      · rename_i k2 e2
        split at e
        · cases e; exact (ds_s e2).1
        · cases e
    have hfi := b4 i hi8
    rw [if_neg (by omega)] at hfi
    have hu : f_X5_measure_67 34 (nI (r + 1)) (n + 1) h y (nI i) = Option.bind (if ov (lwO (dsG (isC B A) (rdB B A) s i) (r + 1)) = (-1) then Option.bind (f_X5_isLeft h 34 (nI i)) fun x21 => if x21 = 0 then some (y, h) else Option.bind (f_X5_readsEdge h 34 (nI i)) fun x23 => if x23 = 0 then some (y, h) else some ((1 : Int32), sJ (sI h 42 i (nI (r + 1))) 37 (i / 64) (aJ h 37 (i / 64) ||| b1 (i % 64))) else some (y, h)) fun w => match w with
        | (x19, h20) => f_X5_measure_67 34 (nI (r + 1)) n h20 x19 (nI (i + 1)) := by
      have S1 : Sh (sI h 42 i (nI (r + 1))) := S.sI
      conv => lhs; unfold f_X5_measure_67
      rw [if_neg (show ¬ (258 : Int32) ≤ nI i from nI_ge (b := 258) hi8 (by decide)), g_34_8 S, bs, ld_42 S hi8, bs, hfi, bs, st_42 S hi8, bs, g_34_3 S1, bs, d64 (by omega), ld_37 S1 (by omega), bs, q_bitOf _ (by omega), bs, st_37 S1 (by omega), bs, nI_1 i]
      rfl
    by_cases q : dsG (isC B A) (rdB B A) s i = some (r + 1)
    · obtain ⟨q1, q2, d, q3, q4, q5⟩ := (lvl g hs hi8).mp q
      have hed : f_X5_readsEdge h 34 (nI i) = some 1 := by
        rcases q_readsEdge S hi8 with ⟨e, e2⟩ | ⟨e, -⟩
        · have := e2 d (by omega)
          rw [b i d hi8 (by omega), q4, b3 d (by omega)] at this
          simp [q3, q5] at this
        · exact e
      rw [q1, ov_n, if_pos rfl, q_isLeft W x b2 hi8, if_pos q2, bs, if_neg (by decide), hed, bs, if_neg (by decide), bs] at hu
      obtain ⟨h1, eh1⟩ : ∃ y, y = sJ (sI h 42 i (nI (r + 1))) 37 (i / 64) (aJ h 37 (i / 64) ||| b1 (i % 64)) := ⟨_, rfl⟩
      have f1 : Fq h h1 (fun a => a = 37 ∨ a = 42) := by rw [eh1]; exact (Fq.si (Or.inr rfl)).tr (Fq.sj (Or.inl rfl))
      rw [← eh1] at hu
      obtain ⟨h2, b', e2, f2, g1, g2, g3⟩ := ih n h1 (i + 1) 1 (by omega) (by omega) (fun q => absurd q (by decide)) (x.fq hp f1 (fun a q => by omega)) (fun c d p1 p2 => by rw [f1.j (by omega)]; exact b c d p1 p2) (fun d hd => by rw [f1.j (by omega)]; exact b2 d hd) (fun d hd => by rw [f1.j (by omega)]; exact b3 d hd) (fun c hc => by
        rw [eh1, sJ_I, sI_I]
        by_cases p : c = i
        · subst p
          rw [if_pos ⟨rfl, rfl⟩, if_pos (by omega), (lw_e (r := r + 1) q).1, ov_s]
        · rw [if_neg (fun y => p y.2), b4 c hc]
          by_cases p2 : c < i
          · rw [if_pos p2, if_pos (by omega)]
          · rw [if_neg p2, if_neg (by omega)]) (fun d hd => by
        have hg : ∀ j, aJ h1 37 j = if j = 0 + i / 64 then aJ h 37 j ||| b1 (i % 64) else aJ h 37 j := by
          intro j
          rw [eh1, sJ_J, Nat.zero_add, sI_J]
          by_cases q : j = i / 64
          · subst q; rw [if_pos ⟨rfl, rfl⟩, if_pos rfl]
          · rw [if_neg (fun y => q y.2), if_neg q]
        rw [hb_set hg, b5 d hd]
        by_cases p : d = i
        · subst p; simp [q]
        · rw [show decide (d < i + 1) = decide (d < i) from decide_eq_decide.mpr ⟨fun _ => by omega, fun _ => by omega⟩]
          simp [p])
      exact ⟨h2, b', by rw [hu]; exact e2, f1.tr f2, g1, g2, g3⟩
    · have hu2 : f_X5_measure_67 34 (nI (r + 1)) (n + 1) h y (nI i) = f_X5_measure_67 34 (nI (r + 1)) n h y (nI (i + 1)) := by
        rw [hu]
        by_cases p1 : lwO (dsG (isC B A) (rdB B A) s i) (r + 1) = none
        · rw [p1, ov_n, if_pos rfl, q_isLeft W x b2 hi8]
          by_cases p2 : isC B A i = true ∧ i ∉ D
          · rw [if_pos p2, bs, if_neg (by decide)]
            rcases q_readsEdge S hi8 with ⟨e, -⟩ | ⟨-, d, e1, e2⟩
            · rw [e, bs, if_pos rfl, bs]
            · rw [b i d hi8 e1, b3 d e1] at e2
              simp only [Bool.and_eq_true, decide_eq_true_eq] at e2
              exact absurd ((lvl g hs hi8).mpr ⟨p1, p2, d, e2.2.1, e2.1, e2.2.2⟩) q
          · rw [if_neg p2, bs, if_pos rfl, bs]
        · rw [if_neg (fun e => p1 ((ov_m (hlt _)).mp e)), bs]
      obtain ⟨h2, b', e2, f2, g1, g2, g3⟩ := ih n h (i + 1) y (by omega) (by omega) (fun q0 c hc => by
        by_cases p : c = i
        · rw [p]; exact q
        · exact hy q0 c (by omega)) x b b2 b3 (fun c hc => by
        rw [b4 c hc]
        by_cases p : c = i
        · subst p
          rw [if_neg (by omega), if_pos (by omega), lw_s q]
        · by_cases p2 : c < i
          · rw [if_pos p2, if_pos (by omega)]
          · rw [if_neg p2, if_neg (by omega)]) (fun d hd => by
        rw [b5 d hd]
        by_cases p : d = i
        · subst p; simp [q]
        · rw [show decide (d < i + 1) = decide (d < i) from decide_eq_decide.mpr ⟨fun _ => by omega, fun _ => by omega⟩])
      exact ⟨h2, b', by rw [hu2]; exact e2, f2, g1, g2, g3⟩
end Measure
