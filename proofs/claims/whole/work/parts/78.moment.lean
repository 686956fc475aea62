/-! a new Moment -/
theorem nwzN (h : AH) (k n : Nat) : aN (nw h k n) = aN h + 1 := rfl
theorem nwzK (h : AH) (k n a : Nat) : aK (nw h k n) a = if a = aN h then k else aK h a := rfl
theorem nwzE (h : AH) (k n a : Nat) : aE (nw h k n) a = if a = aN h then n else aE h a := rfl
theorem nwzI (h : AH) (k n a i : Nat) : aI (nw h k n) a i = if a = aN h then 0 else aI h a i := by
  show upR _ _ _ _ _ = _
  unfold upR
  by_cases q : a = aN h
  · rw [if_pos q, if_pos (show a = h.1 from q)]
  · rw [if_neg q, if_neg (show ¬ a = h.1 from q)]; rfl
theorem nwzJ (h : AH) (k n a i : Nat) : aJ (nw h k n) a i = if a = aN h then 0 else aJ h a i := by
  show upR _ _ _ _ _ = _
  unfold upR
  by_cases q : a = aN h
  · rw [if_pos q, if_pos (show a = h.1 from q)]
  · rw [if_neg q, if_neg (show ¬ a = h.1 from q)]; rfl
theorem nwzP (h : AH) (k n a i : Nat) : aP (nw h k n) a i = if a = aN h then none else aP h a i := by
  show upR _ _ _ _ _ = _
  unfold upR
  by_cases q : a = aN h
  · rw [if_pos q, if_pos (show a = h.1 from q)]
  · rw [if_neg q, if_neg (show ¬ a = h.1 from q)]; rfl
/-- old cells are as they were -/
def Old (h h' : AH) (m : Nat) : Prop := ∀ a, a < m → aK h' a = aK h a ∧ aE h' a = aE h a ∧ aI h' a = aI h a ∧ aJ h' a = aJ h a ∧ aP h' a = aP h a
theorem Old.tr {h h1 h2 : AH} {m : Nat} (a : Old h h1 m) (b : Old h1 h2 m) : Old h h2 m := fun x hx => by
  obtain ⟨a1, a2, a3, a4, a5⟩ := a x hx
  obtain ⟨b1, b2, b3, b4, b5⟩ := b x hx
  exact ⟨b1.trans a1, b2.trans a2, b3.trans a3, b4.trans a4, b5.trans a5⟩
theorem Old.nw {h : AH} {k n m : Nat} (hm : m ≤ aN h) : Old h (nw h k n) m := fun a ha => by
  have q : ¬ a = aN h := by omega
  refine ⟨by rw [nwzK, if_neg q], by rw [nwzE, if_neg q], by funext i; rw [nwzI, if_neg q], by funext i; rw [nwzJ, if_neg q], by funext i; rw [nwzP, if_neg q]⟩
theorem Old.sp {h : AH} {b j m : Nat} {v : Option Nat} (hm : m ≤ b) : Old h (sP h b j v) m := fun a ha => ⟨rfl, rfl, rfl, rfl, by funext i; rw [sP_P, if_neg (by omega)]⟩
theorem Old.fq {h h' : AH} {Q : Nat → Prop} {m : Nat} (f : Fq h h' Q) (hq : ∀ a, Q a → m ≤ a) : Old h h' m := fun a ha => by
  have q : ¬ Q a := fun q => by have := hq a q; omega
  exact ⟨by rw [f.2.1], by rw [f.2.2.1], f.i q, f.j q, by rw [f.p]⟩
theorem Old.S {h h' : AH} (o : Old h h' 77) (hn : aN h ≤ aN h') (S : Sh h) : Sh h' := by
  refine ⟨Nat.le_trans S.1 hn, fun a ha => ?_, fun x hx => ?_⟩
  · rw [(o a ha).1, (o a ha).2.1]; exact S.2.1 a ha
  · have h77 : ∀ x, x ∈ pS → x.1 < 77 := by decide
    rw [(o x.1 (h77 x hx)).2.2.2.2]
    exact S.2.2 x hx
/-- an array of ints, and a field of a plan that has it -/
def aP4 (h : AH) (p j n : Nat) : AH := sP (nw h 10 n) p j (some (aN h))
section Alloc
variable {h : AH} {p j n : Nat}
theorem aP4_e (hk : aK h p = 4) (hp : p < aN h) : pP (nw h 10 n) 4 p j (aN h) = some (aP4 h p j n) := pP_n (by rw [nwzK, if_neg (by omega)]; exact hk)
theorem aP4_N : aN (aP4 h p j n) = aN h + 1 := rfl
theorem aP4_K (a : Nat) : aK (aP4 h p j n) a = if a = aN h then 10 else aK h a := rfl
theorem aP4_E (a : Nat) : aE (aP4 h p j n) a = if a = aN h then n else aE h a := rfl
theorem aP4_P (a i : Nat) : aP (aP4 h p j n) a i = if a = p ∧ i = j then some (aN h) else if a = aN h then none else aP h a i := by
  unfold aP4
  rw [sP_P, nwzP]
theorem aP4_o {m : Nat} (hm : m ≤ p) (hn : m ≤ aN h) : Old h (aP4 h p j n) m := (Old.nw hn).tr (Old.sp hm)
end Alloc
set_option maxHeartbeats 1000000 in
theorem q_planInit {h : AH} {p : Nat} (hk : aK h p = 4) (hp : aN h = p + 1) : ∃ h', f_X4_init h p = some h' ∧ aN h' = p + 9 ∧ Old h h' p ∧ WPl h' p := by
  obtain ⟨g1, e1⟩ : ∃ z, z = aP4 h p 0 160 := ⟨_, rfl⟩
  obtain ⟨g2, e2⟩ : ∃ z, z = aP4 g1 p 1 12 := ⟨_, rfl⟩
  obtain ⟨g3, e3⟩ : ∃ z, z = aP4 g2 p 2 40 := ⟨_, rfl⟩
  obtain ⟨g4, e4⟩ : ∃ z, z = aP4 g3 p 3 40 := ⟨_, rfl⟩
  obtain ⟨g5, e5⟩ : ∃ z, z = aP4 g4 p 4 40 := ⟨_, rfl⟩
  obtain ⟨g6, e6⟩ : ∃ z, z = aP4 g5 p 5 240 := ⟨_, rfl⟩
  obtain ⟨g7, e7⟩ : ∃ z, z = aP4 g6 p 6 6 := ⟨_, rfl⟩
  obtain ⟨g8, e8⟩ : ∃ z, z = aP4 g7 p 7 6 := ⟨_, rfl⟩
  have n1 : aN g1 = p + 2 := by rw [e1, aP4_N, hp]
  have n2 : aN g2 = p + 3 := by rw [e2, aP4_N, n1]
  have n3 : aN g3 = p + 4 := by rw [e3, aP4_N, n2]
  have n4 : aN g4 = p + 5 := by rw [e4, aP4_N, n3]
  have n5 : aN g5 = p + 6 := by rw [e5, aP4_N, n4]
  have n6 : aN g6 = p + 7 := by rw [e6, aP4_N, n5]
  have n7 : aN g7 = p + 8 := by rw [e7, aP4_N, n6]
  have n8 : aN g8 = p + 9 := by rw [e8, aP4_N, n7]
  have k1 : aK g1 p = 4 := by rw [e1, aP4_K, if_neg (by omega)]; exact hk
  have k2 : aK g2 p = 4 := by rw [e2, aP4_K, if_neg (by omega)]; exact k1
  have k3 : aK g3 p = 4 := by rw [e3, aP4_K, if_neg (by omega)]; exact k2
  have k4 : aK g4 p = 4 := by rw [e4, aP4_K, if_neg (by omega)]; exact k3
  have k5 : aK g5 p = 4 := by rw [e5, aP4_K, if_neg (by omega)]; exact k4
  have k6 : aK g6 p = 4 := by rw [e6, aP4_K, if_neg (by omega)]; exact k5
  have k7 : aK g7 p = 4 := by rw [e7, aP4_K, if_neg (by omega)]; exact k6
  have k8 : aK g8 p = 4 := by rw [e8, aP4_K, if_neg (by omega)]; exact k7
  have K : ∀ a, aK g8 a = if a = p + 8 then 10 else if a = p + 7 then 10 else if a = p + 6 then 10 else if a = p + 5 then 10 else if a = p + 4 then 10 else if a = p + 3 then 10 else if a = p + 2 then 10 else if a = p + 1 then 10 else aK h a := fun a => by
    rw [e8, aP4_K, n7, e7, aP4_K, n6, e6, aP4_K, n5, e5, aP4_K, n4, e4, aP4_K, n3, e3, aP4_K, n2, e2, aP4_K, n1, e1, aP4_K, hp]
  have E : ∀ a, aE g8 a = if a = p + 8 then 6 else if a = p + 7 then 6 else if a = p + 6 then 240 else if a = p + 5 then 40 else if a = p + 4 then 40 else if a = p + 3 then 40 else if a = p + 2 then 12 else if a = p + 1 then 160 else aE h a := fun a => by
    rw [e8, aP4_E, n7, e7, aP4_E, n6, e6, aP4_E, n5, e5, aP4_E, n4, e4, aP4_E, n3, e3, aP4_E, n2, e2, aP4_E, n1, e1, aP4_E, hp]
  have P : ∀ i, i < 8 → aP g8 p i = some (p + 1 + i) := fun i hi => by
    rw [e8, aP4_P, n7, e7, aP4_P, n6, e6, aP4_P, n5, e5, aP4_P, n4, e4, aP4_P, n3, e3, aP4_P, n2, e2, aP4_P, n1, e1, aP4_P, hp]
    rcases (show i = 0 ∨ i = 1 ∨ i = 2 ∨ i = 3 ∨ i = 4 ∨ i = 5 ∨ i = 6 ∨ i = 7 by omega) with rfl | rfl | rfl | rfl | rfl | rfl | rfl | rfl <;> simp
  have w8 : WPl g8 p := by
    refine ⟨k8, P, fun i hi => ?_, fun i hi => ?_⟩
    · rw [K]
      rcases (show i = 0 ∨ i = 1 ∨ i = 2 ∨ i = 3 ∨ i = 4 ∨ i = 5 ∨ i = 6 ∨ i = 7 by omega) with rfl | rfl | rfl | rfl | rfl | rfl | rfl | rfl <;> simp
    · rw [E]
      rcases (show i = 0 ∨ i = 1 ∨ i = 2 ∨ i = 3 ∨ i = 4 ∨ i = 5 ∨ i = 6 ∨ i = 7 by omega) with rfl | rfl | rfl | rfl | rfl | rfl | rfl | rfl <;> simp [eP]
  have o8 : Old h g8 p := by
    have o1 : Old h g1 p := by rw [e1]; exact aP4_o (Nat.le_refl _) (by omega)
    have o2 : Old g1 g2 p := by rw [e2]; exact aP4_o (Nat.le_refl _) (by omega)
    have o3 : Old g2 g3 p := by rw [e3]; exact aP4_o (Nat.le_refl _) (by omega)
    have o4 : Old g3 g4 p := by rw [e4]; exact aP4_o (Nat.le_refl _) (by omega)
    have o5 : Old g4 g5 p := by rw [e5]; exact aP4_o (Nat.le_refl _) (by omega)
    have o6 : Old g5 g6 p := by rw [e6]; exact aP4_o (Nat.le_refl _) (by omega)
    have o7 : Old g6 g7 p := by rw [e7]; exact aP4_o (Nat.le_refl _) (by omega)
    have o8 : Old g7 g8 p := by rw [e8]; exact aP4_o (Nat.le_refl _) (by omega)
    exact ((o1.tr o2).tr (o3.tr o4)).tr ((o5.tr o6).tr (o7.tr o8))
  obtain ⟨i1, a1, f1, -, -⟩ := q_fillI (x := -1) (w8.2.2.1 2 (by decide)) (by rw [w8.2.2.2 2 (by decide)]; decide)
  have w9 : WPl i1 p := f1.g.pl w8 (by omega)
  obtain ⟨i2, a2, f2, -, -⟩ := q_fillI (x := -1) (w9.2.2.1 3 (by decide)) (by rw [w9.2.2.2 3 (by decide)]; decide)
  have w10 : WPl i2 p := f2.g.pl w9 (by omega)
  obtain ⟨i3, a3, f3, -, -⟩ := q_fillI (x := -1) (w10.2.2.1 4 (by decide)) (by rw [w10.2.2.2 4 (by decide)]; decide)
  have w11 : WPl i3 p := f3.g.pl w10 (by omega)
  refine ⟨i3, ?_, by rw [f3.1, f2.1, f1.1, n8], ((o8.tr (Old.fq f1 (fun a q => by omega))).tr (Old.fq f2 (fun a q => by omega))).tr (Old.fq f3 (fun a q => by omega)), w11⟩
  unfold f_X4_init
  rw [bs, aP4_e hk (by omega), bs, ← e1, bs, aP4_e k1 (by omega), bs, ← e2, bs, aP4_e k2 (by omega), bs, ← e3, bs, aP4_e k3 (by omega), bs, ← e4, bs, aP4_e k4 (by omega), bs, ← e5, bs, aP4_e k5 (by omega), bs, ← e6, bs, aP4_e k6 (by omega), bs, ← e7, bs, aP4_e k7 (by omega), bs, ← e8, w8.p 2 (by decide), bs, a1, bs, w9.p 3 (by decide), bs, a2, bs, w10.p 4 (by decide), bs, a3, bs]
theorem q_newMoment {h : AH} (hn : 77 ≤ aN h) : ∃ h', f_X2_init (nw h 2 0) (aN h) = some h' ∧ aN h' = aN h + 11 ∧ Old h h' (aN h) ∧ MoS h' (aN h) := by
  obtain ⟨m, em⟩ : ∃ z, z = aN h := ⟨_, rfl⟩
  obtain ⟨h1, eh1⟩ : ∃ z, z = nw (nw h 2 0) 4 0 := ⟨_, rfl⟩
  have n1 : aN h1 = m + 2 := by rw [eh1, nwzN, nwzN, em]
  have k1 : aK h1 (m + 1) = 4 := by rw [eh1, nwzK, nwzN, em, if_pos rfl]
  obtain ⟨h2, e2, n2, o2, w2⟩ := q_planInit k1 (by omega)
  have km : aK h2 m = 2 := by
    rw [(o2 m (by omega)).1, eh1, nwzK, nwzN, if_neg (by omega), nwzK, if_pos em]
  obtain ⟨h3, eh3⟩ : ∃ z, z = sP h2 m 0 (some (m + 1)) := ⟨_, rfl⟩
  have n3 : aN h3 = m + 10 := by rw [eh3]; exact n2
  have km3 : aK (nw h3 11 258) m = 2 := by rw [nwzK, if_neg (by omega), eh3]; exact km
  refine ⟨sP (nw h3 11 258) m 1 (some (m + 10)), ?_, ?_, ?_, ?_⟩
  · unfold f_X2_init
    have q1 : aN (nw h 2 0) = m + 1 := by rw [nwzN, em]
    rw [bs, q1, ← eh1, e2, bs, ← em, pP_n km, bs, ← eh3, bs, n3, pP_n km3, bs]
  · show aN h3 + 1 = _
    omega
  · have o1 : Old h h1 m := by rw [eh1]; exact (Old.nw (by omega)).tr (Old.nw (by rw [nwzN]; omega))
    have o2' : Old h1 h2 m := fun a ha => o2 a (by omega)
    have o3 : Old h2 h3 m := by rw [eh3]; exact Old.sp (Nat.le_refl _)
    have o4 : Old h3 (nw h3 11 258) m := Old.nw (by omega)
    rw [← em]
    exact (((o1.tr o2').tr o3).tr o4).tr (Old.sp (Nat.le_refl _))
  · rw [← em]
    have K : ∀ a, aK (sP (nw h3 11 258) m 1 (some (m + 10))) a = if a = m + 10 then 11 else aK h2 a := fun a => by
      rw [sP_K, nwzK, n3, eh3, sP_K]
    have E : ∀ a, aE (sP (nw h3 11 258) m 1 (some (m + 10))) a = if a = m + 10 then 258 else aE h2 a := fun a => by
      rw [sP_E, nwzE, n3, eh3, sP_E]
    have P : ∀ a i, aP (sP (nw h3 11 258) m 1 (some (m + 10))) a i = if a = m ∧ i = 1 then some (m + 10) else if a = m + 10 then none else if a = m ∧ i = 0 then some (m + 1) else aP h2 a i := fun a i => by
      rw [sP_P, nwzP, n3, eh3, sP_P]
    refine ⟨by omega, ?_, ?_, ?_, ?_, ⟨?_, fun j hj => ?_, fun j hj => ?_, fun j hj => ?_⟩, ?_, ?_⟩
    · show m + 11 ≤ aN h3 + 1
      omega
    · rw [K, if_neg (by omega)]; exact km
    · rw [P, if_neg (by omega), if_neg (by omega), if_pos ⟨rfl, rfl⟩]
    · rw [P, if_pos ⟨rfl, rfl⟩]
    · rw [K, if_neg (by omega)]; exact w2.1
    · rw [P, if_neg (by omega), if_neg (by omega), if_neg (by omega)]; exact w2.2.1 j hj
    · rw [K, if_neg (by omega)]; exact w2.2.2.1 j hj
    · rw [E, if_neg (by omega)]; exact w2.2.2.2 j hj
    · rw [K, if_pos rfl]
    · rw [E, if_pos rfl]
