/-! THE OTHER ONE: measure -/
def FaR (h : AH) (F : Nat → Nat) : Prop := ∀ c, c < 258 → aI h 74 c = nI (F c) ∧ F c ≤ 258
def SoF (C : Nat → Bool) (R : Nat → Nat → Bool) (s : Nat) (F : Nat → Nat) : Prop := F s = 0 ∧ ∀ c, c < 258 → F c < 258 → dkG C R s (F c) c = true
def toF (F : Nat → Nat) (n : Nat) : Nat := ((List.range n).map F).sum
theorem to_s (F : Nat → Nat) (n : Nat) : toF F (n + 1) = toF F n + F n := by
  unfold toF
  rw [List.range_succ, List.map_append, List.sum_append]
  simp
def upN (F : Nat → Nat) (c v : Nat) : Nat → Nat := fun d => if d = c then v else F d
theorem to_up {F : Nat → Nat} {c v : Nat} (hv : v < F c) : ∀ n, (c < n → toF (upN F c v) n < toF F n) ∧ (¬ c < n → toF (upN F c v) n = toF F n) := by
  intro n
  induction n with
  | zero => exact ⟨fun q => by omega, fun _ => rfl⟩
  | succ n ih =>
    rw [to_s, to_s]
    have e : upN F c v n = if n = c then v else F n := rfl
    rw [e]
    constructor
    · intro q
      by_cases q2 : n = c
      · subst q2
        rw [if_pos rfl, ih.2 (by omega)]
        omega
      · rw [if_neg q2]
        have := ih.1 (by omega)
        omega
    · intro q
      rw [if_neg (by omega), ih.2 (by omega)]
theorem to_le {F : Nat → Nat} (h : ∀ c, c < 258 → F c ≤ 258) : ∀ n, n ≤ 258 → toF F n ≤ 258 * n := by
  intro n
  induction n with
  | zero => intro _; simp [toF]
  | succ n ih =>
    intro hn
    rw [to_s]
    have := ih (by omega)
    have := h n (by omega)
    omega
section RMea
variable {B : BK} {A : AP} {b : Nat}
def QM (a i : Nat) : Prop := a = 74 ∧ i < 258
theorem Cr.qm {h h' : AH} (x : Cr h B A b) (hb : Bx b) (f : Fg h h' QM) : Cr h' B A b := x.fg f (fun q => by unfold QM at q; omega) (fun q => by unfold QM at q; omega) (fun i q => by unfold QM at q; omega) (fun i q => by unfold QM at q; omega) (fun i q => by unfold QM at q; omega) (fun i q => by unfold QM at q; unfold Bx at hb; omega)
theorem RdR.qm {h h' : AH} {n : Nat} (r : RdR h B A n) (f : Fg h h' QM) : RdR h' B A n := fun c q1 q2 d hd => by rw [f.i (by unfold QM; omega)]; exact r c q1 q2 d hd
theorem me2 (l1 : Nat) {s : Nat} (hs : s < 258) : ∀ (m n : Nat) (h : AH) (c : Nat), c + m = 258 → m < n → Sh h → (∀ d, d < c → aI h 74 d = nI (if d = s then 0 else 258)) → ∃ h', f_X9_measure_2 53 l1 (nI s) n h (nI c) = some h' ∧ Fg h h' QM ∧ FaR h' (fun d => if d = s then 0 else 258) := by
  intro m
  induction m with
  | zero =>
    intro n h c hc hn S z
    obtain ⟨n, rfl⟩ : ∃ j, n = j + 1 := ⟨n - 1, by omega⟩
    refine ⟨h, ?_, Fg.rf _ _, fun d hd => ⟨z d (by omega), ?_⟩⟩
    · unfold f_X9_measure_2
      rw [if_pos (show (258 : Int32) ≤ nI c from nI_le (a := 258) (by omega) (by omega))]
    · show (if d = s then 0 else 258) ≤ 258
      split <;> omega
  | succ m ih =>
    intro n h c hc hn S z
    obtain ⟨n, rfl⟩ : ∃ j, n = j + 1 := ⟨n - 1, by omega⟩
    have hc8 : c < 258 := by omega
    have hv : (if nI c = nI s then some (0 : Int32) else some 258) = some (nI (if c = s then 0 else 258)) := by
      by_cases q : c = s
      · rw [if_pos (by rw [q]), if_pos q]; rfl
      · rw [if_neg (fun e => q ((nI_eq (by omega) (by omega)).mp e)), if_neg q]; rfl
    obtain ⟨h2, e2, f2, x2⟩ := ih n (sI h 74 c (nI (if c = s then 0 else 258))) (c + 1) (by omega) (by omega) S.sI (fun d hd => by
      rw [sI_I]
      by_cases q : d = c
      · rw [if_pos ⟨rfl, q⟩, q]
      · rw [if_neg (fun y => q y.2)]; exact z d (by omega))
    refine ⟨h2, ?_, Fg.tr (Q := QM) (Fg.si ⟨rfl, hc8⟩) f2, x2⟩
    unfold f_X9_measure_2
    rw [if_neg (show ¬ (258 : Int32) ≤ nI c from nI_ge (b := 258) hc8 (by decide)), g_53_40 S, bs, hv, bs, st_74 S hc8, bs, nI_1, e2]
theorem me74 (hb : Bx b) {s c : Nat} (hs : s < 258) (hc : c < 258) (hC : isC B A c = true) (hcs : c ≠ s) : ∀ (m n : Nat) (h : AH) (k : Nat) (y : Int32) (F : Nat → Nat), k + m = 258 → m < n → Sh h → RdR h B A 258 → FaR h F → SoF (isC B A) (rdB B A) s F → (y = 0 ∨ y = 1) → (y = 0 → ∀ j, j < k → rdB B A c j = true → F c ≤ F j + 1) →
    ∃ h' y' F', f_X9_measure_74 53 b (nI s) (nI c) n h y (nI k) = some (y', h') ∧ Fg h h' QM ∧ FaR h' F' ∧ SoF (isC B A) (rdB B A) s F' ∧ (y' = 0 ∨ y' = 1) ∧ toF F' 258 ≤ toF F 258 ∧ (y' = 1 → y = 1 ∨ toF F' 258 < toF F 258) ∧ (y' = 0 → y = 0 ∧ F' = F ∧ ∀ j, j < 258 → rdB B A c j = true → F c ≤ F j + 1) := by
  intro m
  induction m with
  | zero =>
    intro n h k y F hk hn S r fa so hy hcl
    obtain ⟨n, rfl⟩ : ∃ j, n = j + 1 := ⟨n - 1, by omega⟩
    refine ⟨h, y, F, ?_, Fg.rf _ _, fa, so, hy, Nat.le_refl _, fun q => Or.inl q, fun q => ⟨q, rfl, fun j hj hr => hcl q j (by omega) hr⟩⟩
    unfold f_X9_measure_74
    rw [if_pos (show (258 : Int32) ≤ nI k from nI_le (a := 258) (by omega) (by omega))]
  | succ m ih =>
    intro n h k y F hk hn S r fa so hy hcl
    obtain ⟨n, rfl⟩ : ∃ j, n = j + 1 := ⟨n - 1, by omega⟩
    have hk8 : k < 258 := by omega
    have fk := fa k hk8
    have fc := fa c hc
    have hu : f_X9_measure_74 53 b (nI s) (nI c) (n + 1) h y (nI k) = Option.bind (if bI (rdB B A c k) = 0 then some (y, h) else if nI (F c) ≤ nI (F k + 1) then some (y, h) else some ((1 : Int32), sI h 74 c (nI (F k + 1)))) fun w => match w with
        | (x11, h12) => f_X9_measure_74 53 b (nI s) (nI c) n h12 x11 (nI (k + 1)) := by
      conv => lhs; unfold f_X9_measure_74
      rw [if_neg (show ¬ (258 : Int32) ≤ nI k from nI_ge (b := 258) hk8 (by decide)), g_53_39 S, bs, m258, ldz_73 S (by omega), bs, r c hc hC k hk8, g_53_40 S, bs, ld_74 S hk8, bs, fk.1, bs, ld_74 S hc, bs, fc.1, nI_1, bs, bs, ld_74 S hk8, bs, fk.1, nI_1, st_74 S hc, bs, nI_1]
    cases er : rdB B A c k with
    | false =>
      rw [er, if_pos (by decide), bs] at hu
      obtain ⟨h', y', F', e, g⟩ := ih n h (k + 1) y F (by omega) (by omega) S r fa so hy (fun q j hj hr => by
        by_cases q2 : j = k
        · rw [q2, er] at hr; cases hr
        · exact hcl q j (by omega) hr)
      exact ⟨h', y', F', by rw [hu]; exact e, g⟩
    | true =>
      rw [er, if_neg (by decide)] at hu
      by_cases ql : F c ≤ F k + 1
      · rw [if_pos (nI_le ql (by omega)), bs] at hu
        obtain ⟨h', y', F', e, g⟩ := ih n h (k + 1) y F (by omega) (by omega) S r fa so hy (fun q j hj hr => by
          by_cases q2 : j = k
          · rw [q2]; exact ql
          · exact hcl q j (by omega) hr)
        exact ⟨h', y', F', by rw [hu]; exact e, g⟩
      · rw [if_neg (nI_ge (by omega) (by omega)), bs] at hu
        have f1 : Fg h (sI h 74 c (nI (F k + 1))) QM := Fg.si ⟨rfl, hc⟩
        have hto := (to_up (F := F) (c := c) (v := F k + 1) (by omega) 258).1 hc
        obtain ⟨h', y', F', e, g1, g2, g3, g4, g5, g6, g7⟩ := ih n (sI h 74 c (nI (F k + 1))) (k + 1) 1 (upN F c (F k + 1)) (by omega) (by omega) S.sI (r.qm f1) (fun d hd => by
          rw [sI_I]
          unfold upN
          by_cases q : d = c
          · rw [if_pos ⟨rfl, q⟩, if_pos q]; exact ⟨rfl, by omega⟩
          · rw [if_neg (fun y => q y.2), if_neg q]; exact fa d hd) ⟨by unfold upN; rw [if_neg (fun e => hcs e.symm)]; exact so.1, fun d hd hlt => by
          unfold upN at hlt ⊢
          by_cases q : d = c
          · rw [if_pos q] at hlt ⊢
            rw [q]
            exact dk_s.mpr (Or.inr ⟨k, hk8, er, so.2 k hk8 (by omega)⟩)
          · rw [if_neg q] at hlt ⊢
            exact so.2 d hd hlt⟩ (Or.inr rfl) (fun q => absurd q (by decide))
        refine ⟨h', y', F', by rw [hu]; exact e, f1.tr g1, g2, g3, g4, by omega, fun _ => Or.inr (by omega), fun q => ?_⟩
        have := (g7 q).1
        exact absurd this (by decide)
theorem me44 (W : WfB B) (hb : Bx b) (f : WfA A (bT B) (bL B)) {s : Nat} (hs : s < 258) : ∀ (m n : Nat) (h : AH) (c : Nat) (y : Int32) (F : Nat → Nat), c + m = 258 → m < n → Cr h B A b → RdR h B A 258 → FaR h F → SoF (isC B A) (rdB B A) s F → (y = 0 ∨ y = 1) → (y = 0 → ∀ d, d < c → isC B A d = true → d ≠ s → ∀ j, j < 258 → rdB B A d j = true → F d ≤ F j + 1) →
    ∃ h' y' F', f_X9_measure_44 53 b (nI s) n h y (nI c) = some (y', h') ∧ Fg h h' QM ∧ FaR h' F' ∧ SoF (isC B A) (rdB B A) s F' ∧ (y' = 0 ∨ y' = 1) ∧ toF F' 258 ≤ toF F 258 ∧ (y' = 1 → y = 1 ∨ toF F' 258 < toF F 258) ∧ (y' = 0 → y = 0 ∧ F' = F ∧ ∀ d, d < 258 → isC B A d = true → d ≠ s → ∀ j, j < 258 → rdB B A d j = true → F d ≤ F j + 1) := by
  intro m
  induction m with
  | zero =>
    intro n h c y F hc hn x r fa so hy hcl
    obtain ⟨n, rfl⟩ : ∃ j, n = j + 1 := ⟨n - 1, by omega⟩
    refine ⟨h, y, F, ?_, Fg.rf _ _, fa, so, hy, Nat.le_refl _, fun q => Or.inl q, fun q => ⟨q, rfl, fun d hd => hcl q d (by omega)⟩⟩
    unfold f_X9_measure_44
    rw [if_pos (show (258 : Int32) ≤ nI c from nI_le (a := 258) (by omega) (by omega))]
  | succ m ih =>
    intro n h c y F hc hn x r fa so hy hcl
    obtain ⟨n, rfl⟩ : ∃ j, n = j + 1 := ⟨n - 1, by omega⟩
    have hc8 : c < 258 := by omega
    have S := x.1
    have hu : f_X9_measure_44 53 b (nI s) (n + 1) h y (nI c) = Option.bind (if bI (isC B A c) = 0 then some (y, h) else if nI c = nI s then some (y, h) else Option.bind (f_X9_measure_74 53 b (nI s) (nI c) FU h y 0) fun w => match w with
        | (x21, h22) => some (x21, h22)) fun w => match w with
        | (x7, h8) => f_X9_measure_44 53 b (nI s) n h8 x7 (nI (c + 1)) := by
      conv => lhs; unfold f_X9_measure_44
      rw [if_neg (show ¬ (258 : Int32) ≤ nI c from nI_ge (b := 258) hc8 (by decide)), r_isCell S W x.2.1 x.2.2.1 x.2.2.2 f hc8, bs, nI_1]
    by_cases q : isC B A c = true ∧ c ≠ s
    · rw [q.1, if_neg (by decide), if_neg (fun e => q.2 ((nI_eq (by omega) (by omega)).mp e))] at hu
      obtain ⟨h1, y1, F1, e1, f1, fa1, so1, hy1, t1, t2, t3⟩ := me74 hb hs hc8 q.1 q.2 258 FU h 0 y F rfl (by unfold FU; omega) S r fa so hy (fun _ j hj => by omega)
      have e1' : f_X9_measure_74 53 b (nI s) (nI c) FU h y 0 = some (y1, h1) := e1
      rw [e1', bs, bs] at hu
      obtain ⟨h2, y2, F2, e2, f2, fa2, so2, hy2, u1, u2, u3⟩ := ih n h1 (c + 1) y1 F1 (by omega) (by omega) (x.qm hb f1) (r.qm f1) fa1 so1 hy1 (fun q1 d hd hd1 hd2 j hj hr => by
        obtain ⟨p1, p2, p3⟩ := t3 q1
        rw [p2]
        by_cases q2 : d = c
        · subst q2; exact p3 j hj hr
        · exact hcl p1 d (by omega) hd1 hd2 j hj hr)
      refine ⟨h2, y2, F2, by rw [hu]; exact e2, f1.tr f2, fa2, so2, hy2, by omega, fun q1 => ?_, fun q1 => ?_⟩
      · rcases u2 q1 with p | p
        · rcases t2 p with p2 | p2
          · exact Or.inl p2
          · exact Or.inr (by omega)
        · exact Or.inr (by omega)
      · obtain ⟨p1, p2, p3⟩ := u3 q1
        obtain ⟨p4, p5, -⟩ := t3 p1
        refine ⟨p4, by rw [p2, p5], ?_⟩
        rw [p5] at p3
        exact p3
    · have hu2 : f_X9_measure_44 53 b (nI s) (n + 1) h y (nI c) = f_X9_measure_44 53 b (nI s) n h y (nI (c + 1)) := by
        rw [hu]
        cases e : isC B A c with
        | false => rw [if_pos (by decide), bs]
        | true =>
          have : c = s := Classical.byContradiction (fun y => q ⟨e, y⟩)
          rw [if_neg (by decide), if_pos (by rw [this]), bs]
      obtain ⟨h2, y2, F2, e2, g⟩ := ih n h (c + 1) y F (by omega) (by omega) x r fa so hy (fun q1 d hd hd1 hd2 => by
        by_cases q2 : d = c
        · subst q2; exact absurd ⟨hd1, hd2⟩ q
        · exact hcl q1 d (by omega) hd1 hd2)
      exact ⟨h2, y2, F2, by rw [hu2]; exact e2, g⟩
theorem me35 (W : WfB B) (hb : Bx b) (f : WfA A (bT B) (bL B)) {s : Nat} (hs : s < 258) : ∀ (m n : Nat) (h : AH) (F : Nat → Nat), toF F 258 ≤ m → m < n → Cr h B A b → RdR h B A 258 → FaR h F → SoF (isC B A) (rdB B A) s F →
    ∃ h' F', f_X9_measure_35 53 b (nI s) (n + 1) h 1 = some h' ∧ Fg h h' QM ∧ FaR h' F' ∧ SoF (isC B A) (rdB B A) s F' ∧ ∀ d, d < 258 → isC B A d = true → d ≠ s → ∀ j, j < 258 → rdB B A d j = true → F' d ≤ F' j + 1 := by
  intro m
  induction m with
  | zero =>
    intro n h F hF hn x r fa so
    obtain ⟨n, rfl⟩ : ∃ j, n = j + 1 := ⟨n - 1, by omega⟩
    obtain ⟨h1, y1, F1, e1, f1, fa1, so1, hy1, t1, t2, t3⟩ := me44 W hb f hs 258 FU h 0 0 F rfl (by unfold FU; omega) x r fa so (Or.inl rfl) (fun _ d hd => by omega)
    rcases hy1 with q | q
    · have e1' : f_X9_measure_44 53 b (nI s) FU h 0 0 = some (0, h1) := by rw [q] at e1; exact e1
      obtain ⟨-, p2, p3⟩ := t3 q
      refine ⟨h1, F1, ?_, f1, fa1, so1, by rw [p2]; exact p3⟩
      unfold f_X9_measure_35
      rw [if_neg (by decide), e1', bs]
      simp only []
      unfold f_X9_measure_35
      rw [if_pos rfl]
    · rcases t2 q with p | p
      · exact absurd p (by decide)
      · omega
  | succ m ih =>
    intro n h F hF hn x r fa so
    obtain ⟨n, rfl⟩ : ∃ j, n = j + 1 := ⟨n - 1, by omega⟩
    obtain ⟨h1, y1, F1, e1, f1, fa1, so1, hy1, t1, t2, t3⟩ := me44 W hb f hs 258 FU h 0 0 F rfl (by unfold FU; omega) x r fa so (Or.inl rfl) (fun _ d hd => by omega)
    rcases hy1 with q | q
    · have e1' : f_X9_measure_44 53 b (nI s) FU h 0 0 = some (0, h1) := by rw [q] at e1; exact e1
      obtain ⟨-, p2, p3⟩ := t3 q
      refine ⟨h1, F1, ?_, f1, fa1, so1, by rw [p2]; exact p3⟩
      unfold f_X9_measure_35
      rw [if_neg (by decide), e1', bs]
      simp only []
      unfold f_X9_measure_35
      rw [if_pos rfl]
    · have e1' : f_X9_measure_44 53 b (nI s) FU h 0 0 = some (1, h1) := by rw [q] at e1; exact e1
      rcases t2 q with p | p
      · exact absurd p (by decide)
      · obtain ⟨h2, F2, e2, f2, g⟩ := ih n h1 F1 (by omega) (by omega) (x.qm hb f1) (r.qm f1) fa1 so1
        refine ⟨h2, F2, ?_, f1.tr f2, g⟩
        conv => lhs; unfold f_X9_measure_35
        rw [if_neg (by decide), e1', bs]
        exact e2
/-- what is measured is the way -/
theorem fa_ds {s : Nat} {F : Nat → Nat} (hs : s < 258) (hF : ∀ c, c < 258 → F c ≤ 258) (so : SoF (isC B A) (rdB B A) s F) (cl : ∀ d, d < 258 → isC B A d = true → d ≠ s → ∀ j, j < 258 → rdB B A d j = true → F d ≤ F j + 1) {c : Nat} (hc : c < 258) : F c = (dsG (isC B A) (rdB B A) s c).getD 258 := by
  have up : ∀ k c, c < 258 → dkG (isC B A) (rdB B A) s k c = true → F c ≤ k := by
    intro k
    induction k with
    | zero => intro c _ h; rw [dk_0.mp h, so.1]; exact Nat.le_refl _
    | succ k ih =>
      intro c hc h
      rcases dk_s.mp h with q | ⟨d, q1, q2, q3⟩
      · have := ih c hc q; omega
      · by_cases q4 : c = s
        · rw [q4, so.1]; omega
        · have := cl c hc (rd_C q2) q4 d q1 q2
          have := ih d q1 q3
          omega
  cases e : dsG (isC B A) (rdB B A) s c with
  | none =>
    show F c = 258
    have := hF c hc
    rcases Nat.lt_or_ge (F c) 258 with q | q
    · have h1 := so.2 c hc q
      rw [ds_n hc e] at h1
      cases h1
    · omega
  | some k =>
    show F c = k
    obtain ⟨h1, h2⟩ := ds_s e
    have h3 := up k c hc h2.1
    have h4 := so.2 c hc (by omega)
    rcases Nat.lt_or_ge (F c) k with q | q
    · rw [h2.2 (F c) q] at h4; cases h4
    · omega
def MeR (h : AH) (B : BK) (A : AP) (s : Nat) : Prop := ∀ c, c < 258 → aI h 74 c = nI ((dsG (isC B A) (rdB B A) s c).getD 258)
theorem r_measure {h : AH} (W : WfB B) (hb : Bx b) (f : WfA A (bT B) (bL B)) (x : Cr h B A b) (r : RdR h B A 258) {s : Nat} (hs : s < 258) : ∃ h', f_X9_measure h 53 b (nI s) = some h' ∧ Fg h h' QM ∧ MeR h' B A s := by
  obtain ⟨h1, e1, f1, fa1⟩ := me2 b hs 258 FU h 0 rfl (by unfold FU; omega) x.1 (fun d hd => by omega)
  have so1 : SoF (isC B A) (rdB B A) s (fun d => if d = s then 0 else 258) := ⟨if_pos rfl, fun c hc hlt => by
    have hlt' : (if c = s then 0 else 258) < 258 := hlt
    show dkG _ _ s (if c = s then 0 else 258) c = true
    by_cases q : c = s
    · rw [if_pos q]; exact dk_0.mpr q
    · rw [if_neg q] at hlt'; omega⟩
  have hto := to_le (F := fun d => if d = s then 0 else 258) (fun c hc => (fa1 c hc).2) 258 (Nat.le_refl _)
  obtain ⟨h2, F2, e2, f2, fa2, so2, cl2⟩ := me35 W hb f hs (258 * 258) (FU - 1) h1 _ hto (by unfold FU; omega) (x.qm hb f1) (r.qm f1) fa1 so1
  have e1' : f_X9_measure_2 53 b (nI s) FU h 0 = some h1 := e1
  have e2' : f_X9_measure_35 53 b (nI s) FU h1 1 = some h2 := e2
  refine ⟨h2, ?_, f1.tr f2, fun c hc => ?_⟩
  · unfold f_X9_measure
    rw [if_pos (k_53 x.1), e1', bs, e2', bs]
  · rw [(fa2 c hc).1, fa_ds hs (fun c hc => (fa2 c hc).2) so2 cl2 hc]
end RMea
