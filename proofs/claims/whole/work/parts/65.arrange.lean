/-! Reads: THE ORDER -/
section Arrange
variable {h : AH} {R : Nat → Nat → Bool} {D : List Nat} {G : Nat → Prop} {wl : Nat → List Nat} {rd : Nat → Bool} {lr : Nat}
theorem ready_go (S : Sh h) (a2 : ∀ c, c < 258 → aI h 39 c = if rd c = true then 1 else 0) : ∀ (m n i : Nat), i + m = 258 → m < n →
    (f_X5_takeReady_5 34 n h (nI i) = some (.inr ()) ∧ ∀ c, i ≤ c → c < 258 → rd c = false) ∨ ∃ c, i ≤ c ∧ c < 258 ∧ rd c = true ∧ (∀ j, i ≤ j → j < c → rd j = false) ∧ f_X5_takeReady_5 34 n h (nI i) = some (.inl (nI c, sI (sI h 39 c 0) 34 13 (nI (c + 1)))) := by
  intro m
  induction m with
  | zero =>
    intro n i hi hn
    obtain ⟨n, rfl⟩ : ∃ j, n = j + 1 := ⟨n - 1, by omega⟩
    refine Or.inl ⟨?_, fun c h1 h2 => by omega⟩
    unfold f_X5_takeReady_5
    rw [if_pos (show (258 : Int32) ≤ nI i from nI_le (a := 258) (by omega) (by omega))]
  | succ m ih =>
    intro n i hi hn
    obtain ⟨n, rfl⟩ : ∃ j, n = j + 1 := ⟨n - 1, by omega⟩
    have hu : f_X5_takeReady_5 34 (n + 1) h (nI i) = if (if rd i = true then (1 : Int32) else 0) = 0 then f_X5_takeReady_5 34 n h (nI (i + 1)) else some (.inl (nI i, sI (sI h 39 i 0) 34 13 (nI (i + 1)))) := by
      conv => lhs; unfold f_X5_takeReady_5
      have S1 : Sh (sI h 39 i 0) := S.sI
      rw [if_neg (show ¬ (258 : Int32) ≤ nI i from nI_ge (b := 258) (by omega) (by decide)), g_34_5 S, bs, ld_39 S (by omega), bs, a2 i (by omega), bs, st_39 S (by omega), bs, nI_1, pi_34 S1, bs]
    rw [hu]
    cases e : rd i with
    | false =>
      rw [if_pos (by decide)]
      rcases ih n (i + 1) (by omega) (by omega) with ⟨e1, g⟩ | ⟨c, g1, g2, g3, g4, e1⟩
      · refine Or.inl ⟨e1, fun c h1 h2 => ?_⟩
        rcases Nat.lt_or_ge i c with q | q
        · exact g c q h2
        · rw [show c = i by omega]; exact e
      · refine Or.inr ⟨c, by omega, g2, g3, fun j h1 h2 => ?_, e1⟩
        rcases Nat.lt_or_ge i j with q | q
        · exact g4 j q h2
        · rw [show j = i by omega]; exact e
    | true =>
      rw [if_neg (by decide)]
      exact Or.inr ⟨i, Nat.le_refl _, by omega, e, fun j h1 h2 => by omega, rfl⟩
theorem q_takeReady (S : Sh h) (a : AwI h R D G wl rd lr) :
    (f_X5_takeReady h 34 = some (-1, h) ∧ ∀ c, c < 258 → rd c = false) ∨ ∃ c, c < 258 ∧ rd c = true ∧ (∀ j, j < c → rd j = false) ∧ ∃ h', f_X5_takeReady h 34 = some (nI c, h') ∧ Fq h h' (fun a => a = 34 ∨ a = 39) ∧ AwI h' R D (fun x => G x ∧ x ≠ c) wl (fun x => if x = c then false else rd x) (c + 1) ∧ ∀ j, j ≠ 13 → aI h' 34 j = aI h 34 j := by
  obtain ⟨a1, a2, ⟨a3, a3l, a3r⟩, a4, a5, a6, a7, a8⟩ := a
  rcases ready_go S a2 (258 - lr) FU lr (by omega) (by unfold FU; omega) with ⟨e, g⟩ | ⟨c, h1, h2, h3, h4, e⟩
  · refine Or.inl ⟨?_, fun c hc => ?_⟩
    · unfold f_X5_takeReady
      rw [if_pos (k_34 S), gi_34 S, bs, a3, e, bs]
    · rcases Nat.lt_or_ge c lr with q | q
      · exact a3r c q
      · exact g c q hc
  · have hlow : ∀ j, j < c → rd j = false := fun j hj => by
      rcases Nat.lt_or_ge j lr with q | q
      · exact a3r j q
      · exact h4 j q hj
    refine Or.inr ⟨c, h2, h3, hlow, sI (sI h 39 c 0) 34 13 (nI (c + 1)), ?_, (Fq.si (Or.inr rfl)).tr (Fq.si (Or.inl rfl)), ⟨a1, fun x hx => ?_, ⟨?_, by omega, fun x hx => ?_⟩, fun x p1 p2 => ?_, fun x p1 p2 => ⟨(a5 x p1 p2).1, fun y hy => ?_⟩, a6, fun x hx => ?_, fun x p1 p2 p3 => ?_⟩, fun j hj => ?_⟩
    · unfold f_X5_takeReady
      rw [if_pos (k_34 S), gi_34 S, bs, a3, e, bs]
    · show aI (sI (sI h 39 c 0) 34 13 (nI (c + 1))) 39 x = if (if x = c then false else rd x) = true then 1 else 0
      rw [sI_I, if_neg (by omega), sI_I]
      by_cases q : x = c
      · rw [if_pos ⟨rfl, q⟩, if_pos q, if_neg (by decide)]
      · rw [if_neg (fun y => q y.2), if_neg q, a2 x hx]
    · rw [sI_I, if_pos ⟨rfl, rfl⟩]
    · show (if x = c then false else rd x) = false
      by_cases q : x = c
      · rw [if_pos q]
      · rw [if_neg q]
        exact hlow x (by omega)
    · have : aI (sI (sI h 39 c 0) 34 13 (nI (c + 1))) 41 = aI h 41 := by funext j; rw [sI_I, if_neg (by omega), sI_I, if_neg (by omega)]
      rw [this, sI_I, if_neg (by omega), sI_I, if_neg (by omega)]
      exact a4 x p1 p2
    · obtain ⟨b1, b2, b3, b4, b5⟩ := (a5 x p1 p2).2 y hy
      have hyc : y ≠ c := fun q => by rw [q, h3] at b5; cases b5
      refine ⟨b1, ⟨b2, hyc⟩, b3, b4, ?_⟩
      show (if y = c then false else rd y) = false
      rw [if_neg hyc, b5]
    · have hx' : (if x = c then false else rd x) = true := hx
      by_cases q : x = c
      · rw [if_pos q] at hx'; cases hx'
      · rw [if_neg q] at hx'
        obtain ⟨b1, b2, b3, b4⟩ := a7 x hx'
        exact ⟨b1, ⟨b2, q⟩, b3, b4⟩
    · show (if x = c then false else rd x) = true ∨ _
      rw [if_neg p2.2]
      exact a8 x p1 p2.1 p3
    · rw [sI_I, if_neg (by omega), sI_I, if_neg (by omega)]
theorem wait_go (hR : ∀ c d, R c d = true → d < 258) : ∀ (l : List Nat) (n : Nat) (h : AH) (x : Int32) (k : Nat) (G : Nat → Prop) (wl : Nat → List Nat) (rd : Nat → Bool) (lr : Nat), l.length < n → k + l.length ≤ 258 → Sh h → AwI h R D G wl rd lr → Chn (aI h 41) x l → l.Nodup → (∀ c, c ∈ l → c < 258 ∧ ¬ G c ∧ c ∉ D) → (∀ c, c < 258 → ∀ d, d < 320 → hb (aJ h 35) (5 * c) d = R c d) →
    ∃ h' wl' rd' lr', f_X5_comes_33 34 n h x (nI k) = some h' ∧ Fq h h' (fun a => a = 34 ∨ a = 39 ∨ a = 40 ∨ a = 41) ∧ AwI h' R D (fun c => G c ∨ c ∈ l) wl' rd' lr' ∧ ∀ j, j ≠ 13 → aI h' 34 j = aI h 34 j := by
  intro l
  induction l with
  | nil =>
    intro n h x k G wl rd lr hn hk S a hc hd hg hbt
    obtain ⟨n, rfl⟩ : ∃ j, n = j + 1 := ⟨n - 1, by omega⟩
    refine ⟨h, wl, rd, lr, ?_, Fq.rf _ _, a.cG (fun c _ => by simp), fun j _ => rfl⟩
    have hx : x = -1 := hc
    subst hx
    unfold f_X5_comes_33
    by_cases q : (258 : Int32) ≤ nI k
    · rw [if_pos q]
    · rw [if_neg q, if_pos rfl]
  | cons w l ih =>
    intro n h x k G wl rd lr hn hk S a hc hd hg hbt
    obtain ⟨n, rfl⟩ : ∃ j, n = j + 1 := ⟨n - 1, by omega⟩
    obtain ⟨hx, hc2⟩ := hc
    subst hx
    rw [List.length_cons] at hn hk
    obtain ⟨hw, hgw, hdw⟩ := hg w List.mem_cons_self
    have hnd := List.nodup_cons.mp hd
    obtain ⟨h1, wl1, rd1, lr1, e1, f1, g1, n1, n2⟩ := q_await S hR a hw hgw hdw (hbt w hw)
    obtain ⟨h2, wl2, rd2, lr2, e2, f2, g2, n3⟩ := ih n h1 (aI h 41 w) (k + 1) (fun c => G c ∨ c = w) wl1 rd1 lr1 (by omega) (by omega) (f1.S S) g1 (hc2.fr (fun c hc => n1 c (fun q => hnd.1 (q ▸ hc)))) hnd.2 (fun c hc => by
      obtain ⟨b1, b2, b3⟩ := hg c (List.mem_cons_of_mem _ hc)
      exact ⟨b1, fun q => q.elim b2 (fun q2 => hnd.1 (q2 ▸ hc)), b3⟩) (fun c hc d hd => by rw [f1.j (by omega)]; exact hbt c hc d hd)
    refine ⟨h2, wl2, rd2, lr2, ?_, f1.tr f2, g2.cG (fun c _ => ?_), fun j hj => by rw [n3 j hj, n2 j hj]⟩
    · unfold f_X5_comes_33
      rw [if_neg (show ¬ (258 : Int32) ≤ nI k from nI_ge (b := 258) (by omega) (by decide)), if_neg (nI_nm (by omega)), g_34_7 S, bs, ld_41 S hw, bs, e1, bs, nI_1, e2]
    · rw [List.mem_cons, or_assoc]
theorem q_comes (S : Sh h) (hR : ∀ c d, R c d = true → d < 258) {c : Nat} (hc : c < 258) (hcD : c ∉ D) (a : AwI h R D (fun x => G x ∧ x ≠ c) wl rd lr) (w : Rw h 43 D) (hl : D.length < 258) (hbt : ∀ c, c < 258 → ∀ d, d < 320 → hb (aJ h 35) (5 * c) d = R c d) :
    ∃ h' wl' rd' lr', f_X5_comes h 34 (nI c) = some h' ∧ Fq h h' (fun a => a = 34 ∨ a = 36 ∨ a = 39 ∨ a = 40 ∨ a = 41 ∨ a = 43 ∨ a = 44) ∧ AwI h' R (D ++ [c]) G wl' rd' lr' ∧ Rw h' 43 (D ++ [c]) ∧ ∀ j, j ≠ 13 → aI h' 34 j = aI h 34 j := by
  obtain ⟨h1, e1, f1, w1⟩ := q_add (S.r (Or.inr (Or.inr (Or.inr (Or.inl rfl))))) w hc hl
  have S1 := f1.S S
  obtain ⟨h2, eh2⟩ : ∃ y, y = sJ h1 36 (c / 64) (aJ h1 36 (c / 64) ||| b1 (c % 64)) := ⟨_, rfl⟩
  have f2 : Fq h1 h2 (fun a => a = 36) := by rw [eh2]; exact Fq.sj rfl
  have S2 := f2.S S1
  obtain ⟨a1, a2, ⟨a3, a3l, a3r⟩, a4, a5, a6, a7, a8⟩ := a
  have i2 : ∀ b, b ≠ 43 → b ≠ 44 → aI h2 b = aI h b := fun b q1 q2 => by
    rw [eh2, sJ_I, f1.i (by omega)]
  have nin : ∀ m, m ∉ D ++ [c] → m ∉ D ∧ m ≠ c := fun m hm => by
    rw [List.mem_append, List.mem_singleton] at hm
    exact ⟨fun q => hm (Or.inl q), fun q => hm (Or.inr q)⟩
  have A2 : AwI h2 R (D ++ [c]) (fun x => (G x ∧ x ≠ c) ∧ x ∉ wl c) wl rd lr := by
    refine ⟨fun d hd => ?_, fun x hx => ?_, ⟨?_, a3l, a3r⟩, fun m p1 p2 => ?_, fun m p1 p2 => ⟨(a5 m p1 (nin m p2).1).1, fun x hx => ?_⟩, fun m m' x p1 p2 p3 p4 p5 p6 => a6 m m' x p1 p2 (nin m p3).1 (nin m' p4).1 p5 p6, fun x hx => ?_, fun x p1 p2 p3 => ?_⟩
    · have hg : ∀ i, aJ h2 36 i = if i = 0 + c / 64 then aJ h1 36 i ||| b1 (c % 64) else aJ h1 36 i := by
        intro i
        rw [eh2, sJ_J, Nat.zero_add]
        by_cases q : i = c / 64
        · subst q; rw [if_pos ⟨rfl, rfl⟩, if_pos rfl]
        · rw [if_neg (fun y => q y.2), if_neg q]
      rw [hb_set hg, f1.j (by omega), a1 d hd, Bool.eq_iff_iff]
      simp
    · rw [i2 39 (by decide) (by decide)]; exact a2 x hx
    · rw [i2 34 (by decide) (by decide)]; exact a3
    · rw [i2 41 (by decide) (by decide), i2 40 (by decide) (by decide)]
      exact a4 m p1 (nin m p2).1
    · obtain ⟨b1, b2, b3, b4, b5⟩ := (a5 m p1 (nin m p2).1).2 x hx
      refine ⟨b1, ⟨b2, fun q => ?_⟩, fun q => ?_, b4, b5⟩
      · exact (nin m p2).2 (a6 m c x p1 hc (nin m p2).1 hcD hx q)
      · rw [List.mem_append, List.mem_singleton] at q
        exact q.elim b3 b2.2
    · obtain ⟨b1, b2, b3, b4⟩ := a7 x hx
      refine ⟨b1, ⟨b2, fun q => ?_⟩, fun q => ?_, fun d p1 p2 => List.mem_append.mpr (Or.inl (b4 d p1 p2))⟩
      · have := ((a5 c hc hcD).2 x q).2.2.2.2
        rw [hx] at this; cases this
      · rw [List.mem_append, List.mem_singleton] at q
        exact q.elim b3 b2.2
    · rcases a8 x p1 p2.1 (nin x p3).1 with q | ⟨m, q1, q2, q3⟩
      · exact Or.inl q
      · refine Or.inr ⟨m, q1, fun q => ?_, q3⟩
        rw [List.mem_append, List.mem_singleton] at q
        rcases q with q | q
        · exact q2 q
        · subst q; exact p2.2 q3
  have hch : Chn (aI h2 41) (aI h2 40 c) (wl c) := by
    rw [i2 41 (by decide) (by decide), i2 40 (by decide) (by decide)]
    exact a4 c hc hcD
  have hnd := (a5 c hc hcD).1
  have hmem := (a5 c hc hcD).2
  have hlen : (wl c).length ≤ 258 := nodup_le hnd (fun x hx => (hmem x hx).1)
  obtain ⟨h3, wl3, rd3, lr3, e3, f3, g3, n3⟩ := wait_go hR (wl c) FU h2 (aI h2 40 c) 0 _ wl rd lr (by unfold FU; omega) (by omega) S2 A2 hch hnd (fun x hx => by
    obtain ⟨b1, b2, b3, b4, b5⟩ := hmem x hx
    refine ⟨b1, fun q => q.2 hx, fun q => ?_⟩
    rw [List.mem_append, List.mem_singleton] at q
    exact q.elim b3 b2.2) (fun x hx d hd => by rw [f2.j (by omega), f1.j (by omega)]; exact hbt x hx d hd)
  refine ⟨h3, wl3, rd3, lr3, ?_, ((f1.mono (fun a q => by omega)).tr (f2.mono (fun a q => by omega))).tr (f3.mono (fun a q => by omega)), g3.cG (fun x hx => ?_), ?_, fun j hj => ?_⟩
  · unfold f_X5_comes
    rw [if_pos (k_34 S), g_34_9 S, bs, e1, bs, g_34_2 S1, bs, d64 (by omega), ld_36 S1 (by omega), bs, q_bitOf h1 (by omega), bs, st_36 S1 (by omega), bs, ← eh2, g_34_6 S2, bs, ld_40 S2 hc, bs, show (0 : Int32) = nI 0 from rfl, e3, bs]
  · have := (nin x hx).2
    constructor
    · rintro (q | q)
      · exact q.1.1
      · exact (hmem x q).2.1.1
    · intro q
      by_cases q2 : x ∈ wl c
      · exact Or.inr q2
      · exact Or.inl ⟨⟨q, this⟩, q2⟩
  · exact f3.w (f2.w w1 (by omega) (by omega)) (by omega) (by omega)
  · rw [n3 j hj, i2 34 (by decide) (by decide)]
end Arrange
