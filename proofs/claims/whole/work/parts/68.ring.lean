/-! Reads: the first cell in a ring -/
section Ring
variable {B : BK} {A : AP} {p T Ls : Nat}
theorem q_isLeft {h : AH} (W : WfB B) (x : Cx h B A p) {D : List Nat} (b2 : ∀ d, d < 320 → hb (aJ h 36) 0 d = D.contains d) {c : Nat} (hc : c < 258) : f_X5_isLeft h 34 (nI c) = some (if isC B A c = true ∧ c ∉ D then 1 else 0) := by
  have S := x.1
  unfold f_X5_isLeft
  rw [if_pos (k_34 S), g_34_0 S, bs, x.pl, bs, q_isCell S W x.2.1 x.2.2.1 x.2.2.2.1 hc, bs]
  cases e : isC B A c with
  | false =>
    rw [if_pos (by decide), bs, bz0, bs, if_neg (by simp)]
  | true =>
    rw [if_neg (by decide), g_34_2 S, bs, q_has (k_36 S) (e_36 S) (by omega), bs, b2 c (by omega)]
    by_cases q : c ∈ D
    · have : D.contains c = true := by simpa using q
      rw [this, if_neg (by decide), bs, bz0, bs, if_neg (fun y => y.2 q)]
    · have : D.contains c = false := by simpa using q
      rw [this, if_pos (by decide), bs, bz1, bs, if_pos ⟨rfl, q⟩]
/-- d can be reached from s by reads, one at least -/
def rcG (C : Nat → Bool) (R : Nat → Nat → Bool) (s d : Nat) : Prop := ∃ x n, x < 258 ∧ R s x = true ∧ dkG C R d n x = true
theorem rc_s {C : Nat → Bool} {R : Nat → Nat → Bool} {s d : Nat} (hd : d < 258) (h : R s d = true) : rcG C R s d := ⟨d, 0, hd, h, dk_0.mpr rfl⟩
theorem rc_t {C : Nat → Bool} {R : Nat → Nat → Bool} {s d e : Nat} (he : e < 258) (h1 : rcG C R s d) (h : R d e = true) : rcG C R s e := by
  obtain ⟨x, n, a, b, c⟩ := h1
  obtain ⟨m, hm⟩ := dk_tr (k := n) (m := 1) c (dk_s.mpr (Or.inr ⟨e, he, h, dk_0.mpr rfl⟩))
  exact ⟨x, m, a, b, hm⟩
theorem rc_ir {C : Nat → Bool} {R : Nat → Nat → Bool} {s : Nat} (h : rcG C R s s) : irG C R s = true := by
  obtain ⟨x, n, a, b, c⟩ := h
  obtain ⟨m, -, hm⟩ := ex_of c
  exact ir_iff.mpr ⟨x, m, a, b, ds_i a hm⟩
/-- a set that is closed under reads and has the reads of s has s, if s is in a ring -/
theorem cl_ir {C : Nat → Bool} {R : Nat → Nat → Bool} {D F : List Nat} (g : GdG C R D) {s : Nat} (hs : s ∉ D) (h1 : ∀ d, R s d = true → d ∉ D → d ∈ F) (h2 : ∀ c, c ∈ F → ∀ d, R c d = true → d ∉ D → d ∈ F) (hi : irG C R s = true) : s ∈ F := by
  obtain ⟨d, k, hd, hr, hk⟩ := ir_iff.mp hi
  have key : ∀ n c, c ∈ F → dkG C R s n c = true → s ∈ F := by
    intro n
    induction n with
    | zero => intro c hc h; rw [← dk_0.mp h]; exact hc
    | succ n ih =>
      intro c hc h
      rcases dk_s.mp h with q | ⟨e, -, q2, q3⟩
      · exact ih c hc q
      · exact ih e (h2 c hc e q2 (dk_lf g hs q3)) q3
  exact key k d (h1 d hr (dk_lf g hs (ds_s hk).2.1)) (ds_s hk).2.1
theorem lead22 {R : Nat → Nat → Bool} {C : Nat → Bool} (hR : ∀ c d, R c d = true → d < 258 ∧ C d = true) {D : List Nat} {s : Nat} (hs : s < 258) : ∀ (m n : Nat) (h : AH) (k : Nat) (F : List Nat), k + m = 258 → m < n → Sh h → Bt h R → (∀ d, d < 320 → hb (aJ h 36) 0 d = D.contains d) → Rw h 47 F → F.Nodup → (∀ d, d < 320 → hb (aJ h 37) 0 d = F.contains d) → k ≤ F.length → (∀ d, d ∈ F → rcG C R s d) → (∀ d, R s d = true → d ∉ D → d ∈ F) → (∀ i (hi : i < F.length), i < k → ∀ d, R F[i] d = true → d ∉ D → d ∈ F) →
    ∃ (h' : AH) (F' : List Nat), f_X5_leadsBack_22 34 (nI s) n h (nI k) = some h' ∧ Fq h h' (fun a => a = 37 ∨ a = 47 ∨ a = 48) ∧ (∀ d, d < 320 → hb (aJ h' 37) 0 d = F'.contains d) ∧ (∀ d, d ∈ F' → rcG C R s d) ∧ (s ∈ F' ∨ ((∀ d, R s d = true → d ∉ D → d ∈ F') ∧ ∀ c, c ∈ F' → ∀ d, R c d = true → d ∉ D → d ∈ F')) := by
  intro m
  induction m with
  | zero =>
    intro n h k F hk hn S b b2 w0 hd b3 hkF hrc hcl1 hcl2
    obtain ⟨n, rfl⟩ : ∃ j, n = j + 1 := ⟨n - 1, by omega⟩
    have hl := w0.2.1
    refine ⟨h, F, ?_, Fq.rf _ _, b3, hrc, Or.inr ⟨hcl1, fun c hc d h1 h2 => ?_⟩⟩
    · unfold f_X5_leadsBack_22
      rw [if_pos (show (258 : Int32) ≤ nI k from nI_le (a := 258) (by omega) (by omega))]
    · obtain ⟨i, hi, e⟩ := List.mem_iff_getElem.mp hc
      exact hcl2 i hi (by omega) d (by rw [e]; exact h1) h2
  | succ m ih =>
    intro n h k F hk hn S b b2 w0 hd b3 hkF hrc hcl1 hcl2
    obtain ⟨n, rfl⟩ : ∃ j, n = j + 1 := ⟨n - 1, by omega⟩
    have hl := w0.2.1
    by_cases q1 : F.length ≤ k
    · refine ⟨h, F, ?_, Fq.rf _ _, b3, hrc, Or.inr ⟨hcl1, fun c hc d h1 h2 => ?_⟩⟩
      · unfold f_X5_leadsBack_22
        rw [if_neg (show ¬ (258 : Int32) ≤ nI k from nI_ge (b := 258) (by omega) (by decide)), g_34_11 S, bs, gi_47 S, bs, w0.1, if_pos (nI_le q1 (by omega))]
      · obtain ⟨i, hi, e⟩ := List.mem_iff_getElem.mp hc
        exact hcl2 i hi (by omega) d (by rw [e]; exact h1) h2
    · by_cases q2 : s ∈ F
      · have q3 : F.contains s = true := by simpa using q2
        refine ⟨h, F, ?_, Fq.rf _ _, b3, hrc, Or.inl q2⟩
        unfold f_X5_leadsBack_22
        rw [if_neg (show ¬ (258 : Int32) ≤ nI k from nI_ge (b := 258) (by omega) (by decide)), g_34_11 S, bs, gi_47 S, bs, w0.1, if_neg (nI_ge (by omega) (by omega)), g_34_3 S, bs, q_has (k_37 S) (e_37 S) (by omega), bs, b3 s (by omega), q3, if_neg (by decide)]
      · have q3 : F.contains s = false := by simpa using q2
        have hk8 : k < F.length := by omega
        have hFk : F[k] < 258 := w0.2.2.1 _ (List.getElem_mem hk8)
        obtain ⟨h1, E, e1, f1, w1, d1, m1, r1⟩ := q_spread S hFk (fun c d q => (hR c d q).1) b b2 w0 hd b3
        obtain ⟨h2, F2, e2, f2, g1, g2, g3⟩ := ih n h1 (k + 1) (F ++ E) (by omega) (by omega) (f1.S S) (fun c d p1 p2 => by rw [f1.j (by omega)]; exact b c d p1 p2) (fun d hd => by rw [f1.j (by omega)]; exact b2 d hd) w1 d1 r1 (by rw [List.length_append]; omega) (fun d hd => by
          rcases List.mem_append.mp hd with p | p
          · exact hrc d p
          · have := (m1 d).mp p
            exact rc_t (hR _ _ this.1).1 (hrc _ (List.getElem_mem hk8)) this.1) (fun d p1 p2 => List.mem_append.mpr (Or.inl (hcl1 d p1 p2))) (fun i hi hik d p1 p2 => by
          by_cases p3 : d ∈ F
          · exact List.mem_append.mpr (Or.inl p3)
          · rcases Nat.lt_or_ge i k with p4 | p4
            · have hi2 : i < F.length := by omega
              rw [List.getElem_append_left hi2] at p1
              exact absurd (hcl2 i hi2 p4 d p1 p2) p3
            · have p5 : i = k := by omega
              subst p5
              rw [List.getElem_append_left hk8] at p1
              exact List.mem_append.mpr (Or.inr ((m1 d).mpr ⟨p1, p2, p3⟩)))
        refine ⟨h2, F2, ?_, f1.tr f2, g1, g2, g3⟩
        unfold f_X5_leadsBack_22
        rw [if_neg (show ¬ (258 : Int32) ≤ nI k from nI_ge (b := 258) (by omega) (by decide)), g_34_11 S, bs, gi_47 S, bs, w0.1, if_neg (nI_ge (by omega) (by omega)), g_34_3 S, bs, q_has (k_37 S) (e_37 S) (by omega), bs, b3 s (by omega), q3, if_pos (by decide), bs, q_get (S.r (r := 47) (by decide)) w0 hk8, bs, e1, bs, nI_1, e2]
theorem q_leadsBack {h : AH} {R : Nat → Nat → Bool} {C : Nat → Bool} (hR : ∀ c d, R c d = true → d < 258 ∧ C d = true) {D : List Nat} (g : GdG C R D) {s : Nat} (hs : s < 258) (hsD : s ∉ D) (S : Sh h) (b : Bt h R) (b2 : ∀ d, d < 320 → hb (aJ h 36) 0 d = D.contains d) :
    ∃ h', f_X5_leadsBack h 34 (nI s) = some ((if irG C R s = true then 1 else 0), h') ∧ Fq h h' (fun a => a = 37 ∨ a = 47 ∨ a = 48) := by
  obtain ⟨h1, e1, f1, g1, -⟩ := q_fillJ (x := 0) (k_37 S) (by rw [e_37 S]; decide)
  have S1 := f1.S S
  obtain ⟨h2, e2, f2, w2⟩ := q_clear (S1.r (r := 47) (by decide))
  have S2 := f2.S S1
  have b' : Bt h2 R := fun c d p1 p2 => by rw [f2.j (by omega), f1.j (by omega)]; exact b c d p1 p2
  have b2' : ∀ d, d < 320 → hb (aJ h2 36) 0 d = D.contains d := fun d hd => by rw [f2.j (by omega), f1.j (by omega)]; exact b2 d hd
  obtain ⟨h3, E, e3, f3, w3, d3, m3, r3⟩ := q_spread S2 hs (fun c d q => (hR c d q).1) b' b2' w2 List.nodup_nil (fun d hd => by
    rw [f2.j (by omega)]
    unfold hb
    rw [g1 _ (by rw [e_37 S]; omega), gb_0]
    simp)
  have S3 := f3.S S2
  rw [List.nil_append] at w3 d3 r3
  have hE : ∀ d, d ∈ E ↔ R s d = true ∧ d ∉ D := fun d => by rw [m3 d]; simp
  obtain ⟨h4, F, e4, f4, r4, g4, g5⟩ := lead22 hR (D := D) hs 258 FU h3 0 E rfl (by unfold FU; omega) S3 (fun c d p1 p2 => by rw [f3.j (by omega)]; exact b' c d p1 p2) (fun d hd => by rw [f3.j (by omega)]; exact b2' d hd) w3 d3 r3 (by omega) (fun d hd => by
    have := (hE d).mp hd
    exact rc_s (hR _ _ this.1).1 this.1) (fun d p1 p2 => (hE d).mpr ⟨p1, p2⟩) (fun i hi hik => by omega)
  have S4 := f4.S S3
  refine ⟨h4, ?_, (((f1.mono (fun a q => by omega)).tr (f2.mono (fun a q => by omega))).tr f3).tr f4⟩
  have hF : F.contains s = irG C R s := by
    rw [Bool.eq_iff_iff]
    constructor
    · intro q
      exact rc_ir (g4 s (by simpa using q))
    · intro q
      rcases g5 with q2 | ⟨q2, q3⟩
      · simpa using q2
      · simpa using cl_ir g hsD q2 q3 q
  unfold f_X5_leadsBack
  rw [if_pos (k_34 S), g_34_3 S, bs, e1, bs, g_34_11 S1, bs, e2, bs, e3, bs, show (0 : Int32) = nI 0 from rfl, e4, bs, g_34_3 S4, bs, q_has (k_37 S4) (e_37 S4) (by omega), bs, r4 s (by omega), hF]
  cases irG C R s <;> rfl
/-- the first cell in a ring -/
theorem fir2 (W : WfB B) (hp : p ≤ 16) {D : List Nat} (g : GdG (isC B A) (rdB B A) D) : ∀ (m n : Nat) (h : AH) (i : Nat), i + m = 258 → m < n → Cx h B A p → Bt h (rdB B A) → (∀ d, d < 320 → hb (aJ h 36) 0 d = D.contains d) →
    ∃ h', Fq h h' (fun a => a = 37 ∨ a = 47 ∨ a = 48) ∧ ((f_X5_firstInRing_2 34 n h (nI i) = some (.inr h') ∧ ∀ c, i ≤ c → c < 258 → (isC B A c && irG (isC B A) (rdB B A) c) = false) ∨ ∃ c, i ≤ c ∧ c < 258 ∧ f_X5_firstInRing_2 34 n h (nI i) = some (.inl (nI c, h')) ∧ (isC B A c && irG (isC B A) (rdB B A) c) = true ∧ ∀ j, i ≤ j → j < c → (isC B A j && irG (isC B A) (rdB B A) j) = false) := by
  intro m
  induction m with
  | zero =>
    intro n h i hi hn x b b2
    obtain ⟨n, rfl⟩ : ∃ j, n = j + 1 := ⟨n - 1, by omega⟩
    refine ⟨h, Fq.rf _ _, Or.inl ⟨?_, fun c h1 h2 => by omega⟩⟩
    unfold f_X5_firstInRing_2
    rw [if_pos (show (258 : Int32) ≤ nI i from nI_le (a := 258) (by omega) (by omega))]
  | succ m ih =>
    intro n h i hi hn x b b2
    obtain ⟨n, rfl⟩ : ∃ j, n = j + 1 := ⟨n - 1, by omega⟩
    have hi8 : i < 258 := by omega
    have go : ∀ h1, Fq h h1 (fun a => a = 37 ∨ a = 47 ∨ a = 48) → (isC B A i && irG (isC B A) (rdB B A) i) = false → f_X5_firstInRing_2 34 (n + 1) h (nI i) = f_X5_firstInRing_2 34 n h1 (nI (i + 1)) → ∃ h', Fq h h' (fun a => a = 37 ∨ a = 47 ∨ a = 48) ∧ ((f_X5_firstInRing_2 34 (n + 1) h (nI i) = some (.inr h') ∧ ∀ c, i ≤ c → c < 258 → (isC B A c && irG (isC B A) (rdB B A) c) = false) ∨ ∃ c, i ≤ c ∧ c < 258 ∧ f_X5_firstInRing_2 34 (n + 1) h (nI i) = some (.inl (nI c, h')) ∧ (isC B A c && irG (isC B A) (rdB B A) c) = true ∧ ∀ j, i ≤ j → j < c → (isC B A j && irG (isC B A) (rdB B A) j) = false) := by
      intro h1 f1 hno hu
      obtain ⟨h2, f2, r2⟩ := ih n h1 (i + 1) (by omega) (by omega) (x.fq hp f1 (fun a q => by omega)) (fun c d p1 p2 => by rw [f1.j (by omega)]; exact b c d p1 p2) (fun d hd => by rw [f1.j (by omega)]; exact b2 d hd)
      rw [hu]
      refine ⟨h2, f1.tr f2, ?_⟩
      rcases r2 with ⟨r3, r4⟩ | ⟨c, p1, p2, p3, p4, p5⟩
      · refine Or.inl ⟨r3, fun c h1 h2 => ?_⟩
        rcases Nat.lt_or_ge i c with q | q
        · exact r4 c q h2
        · rw [show c = i by omega]; exact hno
      · refine Or.inr ⟨c, by omega, p2, p3, p4, fun j h1 h2 => ?_⟩
        rcases Nat.lt_or_ge i j with q | q
        · exact p5 j q h2
        · rw [show j = i by omega]; exact hno
    have hl := q_isLeft W x b2 hi8
    by_cases q : isC B A i = true ∧ i ∉ D
    · rw [if_pos q] at hl
      obtain ⟨h1, e1, f1⟩ := q_leadsBack (fun c d q => rdB_c c d q) g hi8 q.2 x.1 b b2
      cases e : irG (isC B A) (rdB B A) i with
      | false =>
        rw [e, if_neg (by decide)] at e1
        refine go h1 f1 (by rw [e]; simp) ?_
        conv => lhs; unfold f_X5_firstInRing_2
        rw [if_neg (show ¬ (258 : Int32) ≤ nI i from nI_ge (b := 258) hi8 (by decide)), hl, bs, if_neg (by decide), e1, bs, nI_1]
        rfl
      | true =>
        rw [e, if_pos rfl] at e1
        refine ⟨h1, f1, Or.inr ⟨i, Nat.le_refl _, hi8, ?_, by rw [q.1, e]; rfl, fun j h1 h2 => by omega⟩⟩
        unfold f_X5_firstInRing_2
        rw [if_neg (show ¬ (258 : Int32) ≤ nI i from nI_ge (b := 258) hi8 (by decide)), hl, bs, if_neg (by decide), e1, bs]
        rfl
    · rw [if_neg q] at hl
      refine go h (Fq.rf _ _) ?_ ?_
      · cases e1 : isC B A i with
        | false => rfl
        | true =>
          cases e2 : irG (isC B A) (rdB B A) i with
          | false => rfl
          | true => exact absurd ⟨e1, ir_lf g e2⟩ q
      · conv => lhs; unfold f_X5_firstInRing_2
        rw [if_neg (show ¬ (258 : Int32) ≤ nI i from nI_ge (b := 258) hi8 (by decide)), hl, bs, if_pos rfl, nI_1]
theorem q_firstInRing {h : AH} (W : WfB B) (hp : p ≤ 16) {D : List Nat} (g : GdG (isC B A) (rdB B A) D) (x : Cx h B A p) (b : Bt h (rdB B A)) (b2 : ∀ d, d < 320 → hb (aJ h 36) 0 d = D.contains d) : ∃ h', f_X5_firstInRing h 34 = some (ov (rbG (isC B A) (rdB B A)), h') ∧ Fq h h' (fun a => a = 37 ∨ a = 47 ∨ a = 48) := by
  obtain ⟨h1, f1, r1⟩ := fir2 W hp g 258 FU h 0 rfl (by unfold FU; omega) x b b2
  refine ⟨h1, ?_, f1⟩
  unfold f_X5_firstInRing rbG
  rcases r1 with ⟨r2, r3⟩ | ⟨c, -, p2, p3, p4, p5⟩
  · rw [if_pos (k_34 x.1), show (0 : Int32) = nI 0 from rfl, r2, bs, fn_0 (fun j hj => r3 j (by omega) hj)]
    rfl
  · rw [if_pos (k_34 x.1), show (0 : Int32) = nI 0 from rfl, p3, bs, fn_i p2 p4 (fun j hj => p5 j (by omega) hj)]
    rfl
end Ring
