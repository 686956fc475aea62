/-! Reads: arrange -/
theorem AwI.fq {h h' : AH} {R : Nat → Nat → Bool} {D : List Nat} {G : Nat → Prop} {wl : Nat → List Nat} {rd : Nat → Bool} {lr : Nat} {P : Nat → Prop} (a : AwI h R D G wl rd lr) (f : Fq h h' P) (n1 : ¬ P 34) (n2 : ¬ P 36) (n3 : ¬ P 39) (n4 : ¬ P 40) (n5 : ¬ P 41) : AwI h' R D G wl rd lr := by
  unfold AwI
  rw [f.i n1, f.j n2, f.i n3, f.i n4, f.i n5]
  exact a
theorem mn_s (C : Nat → Bool) (k : Nat) : mnG C (k + 1) = mnG C k + (if C k = true then 1 else 0) := by
  unfold mnG
  rw [List.range_succ, List.countP_append, List.countP_singleton]
theorem mn_le (C : Nat → Bool) (k : Nat) : mnG C k ≤ k := by
  unfold mnG
  have := List.countP_le_length (p := C) (l := List.range k)
  simpa using this
section Arrange2
variable {B : BK} {A : AP} {p T Ls : Nat}
theorem arr55 (W : WfB B) (f : WfA A T Ls) (hp : p ≤ 16) : ∀ (m n : Nat) (h : AH) (k : Nat) (wl : Nat → List Nat) (rd : Nat → Bool) (lr : Nat), k + m = 258 → m < n → Cx h B A p → Bt h (fun c e => decide (c < k) && rdB B A c e) → AwI h (rdB B A) [] (fun c => c < k ∧ isC B A c = true) wl rd lr →
    ∃ h' wl' rd' lr', f_X5_arrange_55 34 n h (nI (mnG (isC B A) k)) (nI k) = some (nI (mnG (isC B A) 258), h') ∧ Fq h h' (fun a => a = 34 ∨ a = 35 ∨ a = 39 ∨ a = 40 ∨ a = 41) ∧ Bt h' (rdB B A) ∧ AwI h' (rdB B A) [] (fun c => isC B A c = true) wl' rd' lr' := by
  intro m
  induction m with
  | zero =>
    intro n h k wl rd lr hk hn x b a
    obtain ⟨n, rfl⟩ : ∃ j, n = j + 1 := ⟨n - 1, by omega⟩
    have hk8 : k = 258 := by omega
    subst hk8
    refine ⟨h, wl, rd, lr, ?_, Fq.rf _ _, fun c d h1 h2 => ?_, ?_⟩
    · unfold f_X5_arrange_55
      rw [if_pos (show (258 : Int32) ≤ nI 258 from nI_le (a := 258) (by omega) (by omega))]
    · rw [b c d h1 h2]
      simp [h1]
    · obtain ⟨a1, a2, a3, a4, a5, a6, a7, a8⟩ := a
      refine ⟨a1, a2, a3, a4, fun m p1 p2 => ⟨(a5 m p1 p2).1, fun c hc => ?_⟩, a6, fun c hc => ?_, fun c p1 p2 p3 => a8 c p1 ⟨p1, p2⟩ p3⟩
      · obtain ⟨b1, b2, b3⟩ := (a5 m p1 p2).2 c hc
        exact ⟨b1, b2.2, b3⟩
      · obtain ⟨b1, b2, b3⟩ := a7 c hc
        exact ⟨b1, b2.2, b3⟩
  | succ m ih =>
    intro n h k wl rd lr hk hn x b a
    obtain ⟨n, rfl⟩ : ∃ j, n = j + 1 := ⟨n - 1, by omega⟩
    have S := x.1
    have hk8 : k < 258 := by omega
    have hu : f_X5_arrange_55 34 (n + 1) h (nI (mnG (isC B A) k)) (nI k) = Option.bind (if (if isC B A k = true then (1 : Int32) else 0) = 0 then some (nI (mnG (isC B A) k), h) else Option.bind (f_X5_gather h 34 (nI k)) fun h25 => Option.bind (f_X5_await h25 34 (nI k)) fun h27 => some (nI (mnG (isC B A) k) + 1, h27)) fun w => match w with
        | (x22, h23) => f_X5_arrange_55 34 n h23 x22 (nI (k + 1)) := by
      conv => lhs; unfold f_X5_arrange_55
      rw [if_neg (show ¬ (258 : Int32) ≤ nI k from nI_ge (b := 258) hk8 (by decide)), g_34_0 S, bs, x.pl, bs, q_isCell S W x.2.1 x.2.2.1 x.2.2.2.1 hk8, bs, nI_1 k]
    cases e : isC B A k with
    | false =>
      rw [e, if_pos (by decide), bs] at hu
      have hm : mnG (isC B A) (k + 1) = mnG (isC B A) k := by rw [mn_s, e]; rfl
      have hr : ∀ d, rdB B A k d = false := fun d => by unfold rdB; rw [e]; rfl
      obtain ⟨h1, wl1, rd1, lr1, e1, f1, g1, g2⟩ := ih n h (k + 1) wl rd lr (by omega) (by omega) x (fun c d p1 p2 => by
        rw [b c d p1 p2]
        show (decide (c < k) && rdB B A c d) = (decide (c < k + 1) && rdB B A c d)
        by_cases q : c = k
        · subst q; rw [hr]; simp
        · rw [show decide (c < k + 1) = decide (c < k) from decide_eq_decide.mpr ⟨fun _ => by omega, fun _ => by omega⟩]) (a.cG (fun c _ => by
          constructor
          · intro q; exact ⟨by omega, q.2⟩
          · rintro ⟨q1, q2⟩
            refine ⟨?_, q2⟩
            by_cases q : c = k
            · subst q; rw [e] at q2; cases q2
            · omega))
      rw [hm] at e1
      exact ⟨h1, wl1, rd1, lr1, by rw [hu]; exact e1, f1, g1, g2⟩
    | true =>
      rw [e, if_neg (by decide)] at hu
      have hm : mnG (isC B A) (k + 1) = mnG (isC B A) k + 1 := by rw [mn_s, e]; rfl
      obtain ⟨h1, e1, f1, b1⟩ := q_gather W f hp hk8 e x b
      have x1 := x.fq hp f1 (fun a q => by omega)
      have a1 := a.fq f1 (by omega) (by omega) (by omega) (by omega) (by omega)
      have b2 : Bt h1 (fun c e => decide (c < k + 1) && rdB B A c e) := fun c d p1 p2 => by
        rw [b1 c d p1 p2]
        show ((decide (c < k) && rdB B A c d) || (decide (c = k) && rdB B A k d)) = (decide (c < k + 1) && rdB B A c d)
        by_cases q : c = k
        · subst q
          simp
        · rw [show decide (c < k + 1) = decide (c < k) from decide_eq_decide.mpr ⟨fun _ => by omega, fun _ => by omega⟩]
          simp [q]
      obtain ⟨h2, wl2, rd2, lr2, e2, f2, a2, -, -⟩ := q_await x1.1 (fun c d q => (rdB_c c d q).1) a1 hk8 (fun q => by omega) (by simp) (fun d hd => by rw [b2 k d hk8 hd]; simp)
      have x2 := x1.fq hp f2 (fun a q => by omega)
      obtain ⟨h3, wl3, rd3, lr3, e3, f3, g1, g2⟩ := ih n h2 (k + 1) wl2 rd2 lr2 (by omega) (by omega) x2 (fun c d p1 p2 => by rw [f2.j (by omega)]; exact b2 c d p1 p2) (a2.cG (fun c _ => by
        constructor
        · rintro (q | q)
          · exact ⟨by omega, q.2⟩
          · subst q; exact ⟨by omega, e⟩
        · rintro ⟨q1, q2⟩
          by_cases q : c = k
          · exact Or.inr q
          · exact Or.inl ⟨by omega, q2⟩))
      rw [hm] at e3
      refine ⟨h3, wl3, rd3, lr3, ?_, ((f1.mono (fun a q => by omega)).tr (f2.mono (fun a q => by omega))).tr f3, g1, g2⟩
      rw [hu, e1, bs, e2, bs, bs, nI_1]
      exact e3
theorem arr98 (hp : p ≤ 16) : ∀ (m n : Nat) (h : AH) (D : List Nat) (wl : Nat → List Nat) (rd : Nat → Bool) (lr : Nat), D.length + m = mnG (isC B A) 258 → m < n → Cx h B A p → Bt h (rdB B A) → AwI h (rdB B A) D (fun c => isC B A c = true) wl rd lr → Rw h 43 D → GdG (isC B A) (rdB B A) D → orA (isC B A) (rdB B A) = ordG (isC B A) (rdB B A) (259 - D.length) D →
    ∃ h', Fq h h' (fun a => a = 34 ∨ a = 36 ∨ a = 39 ∨ a = 40 ∨ a = 41 ∨ a = 43 ∨ a = 44) ∧ Rw h' 43 (orA (isC B A) (rdB B A)) ∧ (∀ d, d < 320 → hb (aJ h' 36) 0 d = (orA (isC B A) (rdB B A)).contains d) ∧
      ((f_X5_arrange_98 34 (nI (mnG (isC B A) 258)) n h (nI D.length) = some (.inr h') ∧ alG (isC B A) (rdB B A)) ∨ (f_X5_arrange_98 34 (nI (mnG (isC B A) 258)) n h (nI D.length) = some (.inl (0, h')) ∧ ¬ alG (isC B A) (rdB B A))) := by
  have hm8 := mn_le (isC B A) 258
  have hR : ∀ c d, rdB B A c d = true → d < 258 ∧ isC B A d = true := fun c d q => rdB_c c d q
  intro m
  induction m with
  | zero =>
    intro n h D wl rd lr hk hn x b a w g ho
    obtain ⟨n, rfl⟩ : ∃ j, n = j + 1 := ⟨n - 1, by omega⟩
    have h1 := lf_sum hR (259 - D.length) D g
    have h2 := lf_sum hR 259 [] gd_nil
    rw [lf_nil] at h2
    rw [← ho] at h1
    have h2' : (orA (isC B A) (rdB B A)).length + lfG (isC B A) (orA (isC B A) (rdB B A)) 258 = 0 + mnG (isC B A) 258 := h2
    have h3 : lfG (isC B A) D 258 = 0 := by omega
    have h4 : ∀ j, j < 258 → rdG (isC B A) (rdB B A) D j = false := fun j hj => by
      cases e : rdG (isC B A) (rdB B A) D j with
      | false => rfl
      | true =>
        obtain ⟨q1, q2, -⟩ := rd_iff.mp e
        exact absurd (lf_0.mp h3 j hj q1) q2
    have h5 : orA (isC B A) (rdB B A) = D := by rw [ho, ord_st (fn_0 h4)]
    refine ⟨h, Fq.rf _ _, by rw [h5]; exact w, by rw [h5]; exact a.1, Or.inl ⟨?_, ?_⟩⟩
    · unfold f_X5_arrange_98
      rw [if_pos (nI_le (by omega) (by omega))]
    · exact (or_len hR).2.mp (by rw [h5]; omega)
  | succ m ih =>
    intro n h D wl rd lr hk hn x b a w g ho
    obtain ⟨n, rfl⟩ : ∃ j, n = j + 1 := ⟨n - 1, by omega⟩
    have S := x.1
    have hrd : ∀ c, c < 258 → (rd c = true ↔ rdG (isC B A) (rdB B A) D c = true) := by
      obtain ⟨a1, a2, a3, a4, a5, a6, a7, a8⟩ := a
      intro c hc
      rw [rd_iff]
      constructor
      · intro q
        obtain ⟨b1, b2, b3, b4⟩ := a7 c q
        exact ⟨b2, b3, b4⟩
      · rintro ⟨q1, q2, q3⟩
        rcases a8 c hc q1 q2 with q | ⟨m, p1, p2, p3⟩
        · exact q
        · exact absurd (q3 m p1 ((a5 m p1 p2).2 c p3).2.2.2.1) p2
    rcases q_takeReady S a with ⟨e, hno⟩ | ⟨c, hc, hcr, hlow, h1, e, f1, a1, n1⟩
    · have h4 : ∀ j, j < 258 → rdG (isC B A) (rdB B A) D j = false := fun j hj => by
        cases e : rdG (isC B A) (rdB B A) D j with
        | false => rfl
        | true => have := (hrd j hj).mpr e; rw [hno j hj] at this; cases this
      have h5 : orA (isC B A) (rdB B A) = D := by rw [ho, ord_st (fn_0 h4)]
      refine ⟨h, Fq.rf _ _, by rw [h5]; exact w, by rw [h5]; exact a.1, Or.inr ⟨?_, fun q => ?_⟩⟩
      · unfold f_X5_arrange_98
        rw [if_neg (nI_ge (by omega) (by omega)), e, bs]
        rfl
      · have := (or_len hR).2.mpr q
        rw [h5] at this
        omega
    · have hcD : c ∉ D := (a.2.2.2.2.2.2.1 c hcr).2.2.1
      have hfnd : (List.range 258).find? (rdG (isC B A) (rdB B A) D) = some c := fn_i hc ((hrd c hc).mp hcr) (fun j hj => by
        cases e : rdG (isC B A) (rdB B A) D j with
        | false => rfl
        | true => have := (hrd j (by omega)).mpr e; rw [hlow j hj] at this; cases this)
      have x1 := x.fq hp f1 (fun a q => by omega)
      obtain ⟨h2, wl2, rd2, lr2, e2, f2, a2, w2, n2⟩ := q_comes x1.1 (fun c d q => (hR c d q).1) hc hcD a1 (f1.w w (by omega) (by omega)) (by omega) (fun c hc d hd => by rw [f1.j (by omega)]; exact b c d hc hd)
      have x2 := x1.fq hp f2 (fun a q => by omega)
      have hlen : (D ++ [c]).length = D.length + 1 := by simp
      obtain ⟨h3, f3, w3, c3, r3⟩ := ih n h2 (D ++ [c]) wl2 rd2 lr2 (by omega) (by omega) x2 (fun c d p1 p2 => by rw [f2.j (by omega), f1.j (by omega)]; exact b c d p1 p2) a2 w2 (g.snoc hR hc ((hrd c hc).mp hcr)) (by
        rw [ho, show 259 - D.length = (259 - (D ++ [c]).length) + 1 by omega, ord_s hfnd])
      have hu : f_X5_arrange_98 34 (nI (mnG (isC B A) 258)) (n + 1) h (nI D.length) = f_X5_arrange_98 34 (nI (mnG (isC B A) 258)) n h2 (nI (D ++ [c]).length) := by
        conv => lhs; unfold f_X5_arrange_98
        rw [if_neg (nI_ge (by omega) (by omega)), e, bs]
        show (if nI c = -1 then some (.inl (0, h1)) else Option.bind (f_X5_comes h1 34 (nI c)) fun h33 => f_X5_arrange_98 34 (nI (mnG (isC B A) 258)) n h33 (nI D.length + 1)) = _
        rw [if_neg (nI_nm (by omega)), e2, bs, nI_1, hlen]
      rw [hu]
      exact ⟨h3, ((f1.mono (fun a q => by omega)).tr f2).tr f3, w3, c3, r3⟩
theorem q_arrange {h : AH} (S : Sh h) (W : WfB B) (RB : RepB h B) (f : WfA A T Ls) (wp : WPl h p) (RA : RepC h p A) (hp : p ≤ 16) :
    ∃ h' b, f_X5_arrange h 34 p = some (b, h') ∧ Fq (sP h 34 12 (some p)) h' (fun a => a = 34 ∨ a = 35 ∨ a = 36 ∨ a = 39 ∨ a = 40 ∨ a = 41 ∨ a = 43 ∨ a = 44) ∧ Cx h' B A p ∧ Bt h' (rdB B A) ∧ Rw h' 43 (orA (isC B A) (rdB B A)) ∧ (∀ d, d < 320 → hb (aJ h' 36) 0 d = (orA (isC B A) (rdB B A)).contains d) ∧ ((b = 1 ∧ alG (isC B A) (rdB B A)) ∨ (b = 0 ∧ ¬ alG (isC B A) (rdB B A))) := by
  obtain ⟨h1, eh1⟩ : ∃ y, y = sP h 34 12 (some p) := ⟨_, rfl⟩
  have S1 : Sh h1 := by rw [eh1]; exact S.sP (by decide)
  have x1 : Cx h1 B A p := by
    refine ⟨S1, ?_, ?_, ?_, ?_⟩
    · rw [eh1]; exact RB
    · rw [eh1]
      refine ⟨wp.1, fun j hj => ?_, wp.2.2⟩
      rw [sP_P, if_neg (by omega)]
      exact wp.2.1 j hj
    · rw [eh1]; exact RA
    · rw [eh1, sP_P, if_pos ⟨rfl, rfl⟩]
  obtain ⟨h2, e2, f2, w2⟩ := q_clear (S1.r (r := 43) (by decide))
  have x2 := x1.fq hp f2 (fun a q => by omega)
  obtain ⟨h3, e3, f3, g3, -⟩ := q_fillJ (x := 0) (k_35 x2.1) (by rw [e_35 x2.1]; decide)
  have x3 := x2.fq hp f3 (fun a q => by omega)
  obtain ⟨h4, e4, f4, g4, -⟩ := q_fillJ (x := 0) (k_36 x3.1) (by rw [e_36 x3.1]; decide)
  have x4 := x3.fq hp f4 (fun a q => by omega)
  obtain ⟨h5, e5, f5, g5, -⟩ := q_fillI (x := 0) (k_39 x4.1) (by rw [e_39 x4.1]; decide)
  have x5 := x4.fq hp f5 (fun a q => by omega)
  obtain ⟨h6, e6, f6, g6, -⟩ := q_fillI (x := -1) (k_40 x5.1) (by rw [e_40 x5.1]; decide)
  have x6 := x5.fq hp f6 (fun a q => by omega)
  obtain ⟨h7, eh7⟩ : ∃ y, y = sI h6 34 13 258 := ⟨_, rfl⟩
  have f7 : Fq h6 h7 (fun a => a = 34) := by rw [eh7]; exact Fq.si rfl
  have x7 := x6.fq hp f7 (fun a q => by omega)
  have b7 : Bt h7 (fun c e => decide (c < 0) && rdB B A c e) := fun c d p1 p2 => by
    rw [f7.j (by omega), f6.j (by omega), f5.j (by omega), f4.j (by omega)]
    unfold hb
    rw [g3 _ (by rw [e_35 x2.1]; omega), gb_0]
    simp
  have a7 : AwI h7 (rdB B A) [] (fun c => c < 0 ∧ isC B A c = true) (fun _ => []) (fun _ => false) 258 := by
    refine ⟨fun d hd => ?_, fun c hc => ?_, ⟨?_, Nat.le_refl _, fun c _ => rfl⟩, fun m p1 _ => ?_, fun m _ _ => ⟨List.nodup_nil, fun c hc => by simp at hc⟩, fun m m' c _ _ _ _ q => by simp at q, fun c hc => by simp at hc, fun c _ hc => by omega⟩
    · rw [f7.j (by omega), f6.j (by omega), f5.j (by omega)]
      unfold hb
      rw [g4 _ (by rw [e_36 x3.1]; omega), gb_0]
      simp
    · rw [f7.i (by omega), f6.i (by omega), g5 c (by rw [e_39 x4.1]; exact hc)]
      rfl
    · rw [eh7, sI_I, if_pos ⟨rfl, rfl⟩]
      rfl
    · show aI h7 40 m = -1
      rw [f7.i (by omega), g6 m (by rw [e_40 x5.1]; exact p1)]
  obtain ⟨h8, wl8, rd8, lr8, e8, f8, b8, a8⟩ := arr55 W f hp 258 FU h7 0 _ _ _ rfl (by unfold FU; omega) x7 b7 a7
  have x8 := x7.fq hp f8 (fun a q => by omega)
  have w8 : Rw h8 43 [] := f8.w (f7.w (f6.w (f5.w (f4.w (f3.w w2 (by omega) (by omega)) (by omega) (by omega)) (by omega) (by omega)) (by omega) (by omega)) (by omega) (by omega)) (by omega) (by omega)
  have hm8 := mn_le (isC B A) 258
  obtain ⟨h9, f9, w9, c9, r9⟩ := arr98 (B := B) (A := A) hp (mnG (isC B A) 258) FU h8 [] wl8 rd8 lr8 (by simp) (by unfold FU; omega) x8 b8 a8 w8 gd_nil rfl
  have x9 := x8.fq hp f9 (fun a q => by omega)
  have hu : f_X5_arrange h 34 p = Option.bind (f_X5_arrange_98 34 (nI (mnG (isC B A) 258)) FU h8 (nI ([] : List Nat).length)) fun w => match w with
      | .inl r9 => some r9
      | .inr h34 => some (1, h34) := by
    unfold f_X5_arrange
    have m0 : (0 : Int32) = nI (mnG (isC B A) 0) := rfl
    rw [if_pos (k_34 S), pp_34 S, bs, ← eh1, g_34_9 S1, bs, e2, bs, g_34_1 x2.1, bs, e3, bs, g_34_2 x3.1, bs, e4, bs, g_34_5 x4.1, bs, e5, bs, g_34_6 x5.1, bs, e6, bs, pi_34 x6.1, bs, ← eh7]
    have e8' : f_X5_arrange_55 34 FU h7 0 0 = some (nI (mnG (isC B A) 258), h8) := e8
    rw [e8', bs]
    rfl
  have ff : Fq h1 h9 (fun a => a = 34 ∨ a = 35 ∨ a = 36 ∨ a = 39 ∨ a = 40 ∨ a = 41 ∨ a = 43 ∨ a = 44) :=
    ((((((((f2.mono (fun a q => by omega)).tr (f3.mono (fun a q => by omega))).tr (f4.mono (fun a q => by omega))).tr (f5.mono (fun a q => by omega))).tr (f6.mono (fun a q => by omega))).tr (f7.mono (fun a q => by omega))).tr (f8.mono (fun a q => by omega))).tr (f9.mono (fun a q => by omega)))
  have b9 : Bt h9 (rdB B A) := fun c d p1 p2 => by rw [f9.j (by omega)]; exact b8 c d p1 p2
  rw [hu, ← eh1]
  rcases r9 with ⟨r1, r2⟩ | ⟨r1, r2⟩
  · exact ⟨h9, 1, by rw [r1, bs], ff, x9, b9, w9, c9, Or.inl ⟨rfl, r2⟩⟩
  · exact ⟨h9, 0, by rw [r1, bs], ff, x9, b9, w9, c9, Or.inr ⟨rfl, r2⟩⟩
end Arrange2
