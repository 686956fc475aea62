/-! the Past: keep, takeLatest -/
def puH (H : List PN) (x : PN) : List PN := if H.length = 60 then H.tail ++ [x] else H ++ [x]
/-- cells below 77 that are not in S are as they were -/
def Fk (h h' : AH) (S : Nat → Prop) : Prop := aN h ≤ aN h' ∧ (Sh h → Sh h') ∧ ∀ a, a < 77 → ¬ S a → aI h' a = aI h a ∧ aJ h' a = aJ h a ∧ aP h' a = aP h a
theorem Fk.rf (h : AH) (S : Nat → Prop) : Fk h h S := ⟨Nat.le_refl _, fun q => q, fun _ _ _ => ⟨rfl, rfl, rfl⟩⟩
theorem Fk.tr {h h1 h2 : AH} {S : Nat → Prop} (a : Fk h h1 S) (b : Fk h1 h2 S) : Fk h h2 S := ⟨Nat.le_trans a.1 b.1, fun q => b.2.1 (a.2.1 q), fun x h7 hx => ⟨(b.2.2 x h7 hx).1.trans (a.2.2 x h7 hx).1, (b.2.2 x h7 hx).2.1.trans (a.2.2 x h7 hx).2.1, (b.2.2 x h7 hx).2.2.trans (a.2.2 x h7 hx).2.2⟩⟩
theorem Fk.mono {h h1 : AH} {S S' : Nat → Prop} (a : Fk h h1 S) (hs : ∀ x, x < 77 → S x → S' x) : Fk h h1 S' := ⟨a.1, a.2.1, fun x h7 hx => a.2.2 x h7 (fun q => hx (hs x h7 q))⟩
theorem Fr.k {h h' : AH} {S : Nat → Prop} (f : Fr h h' S) : Fk h h' S := ⟨by rw [f.1]; exact Nat.le_refl _, f.2.2.2.1, fun a _ ha => f.2.2.2.2 a ha⟩
theorem Fk.i {h h' : AH} {P : Nat → Prop} (f : Fk h h' P) {a : Nat} (h7 : a < 77) (ha : ¬ P a) : aI h' a = aI h a := (f.2.2 a h7 ha).1
theorem Fk.j {h h' : AH} {P : Nat → Prop} (f : Fk h h' P) {a : Nat} (h7 : a < 77) (ha : ¬ P a) : aJ h' a = aJ h a := (f.2.2 a h7 ha).2.1
theorem Fk.p {h h' : AH} {P : Nat → Prop} (f : Fk h h' P) {a : Nat} (h7 : a < 77) (ha : ¬ P a) : aP h' a = aP h a := (f.2.2 a h7 ha).2.2
theorem Fk.S {h h' : AH} {P : Nat → Prop} (f : Fk h h' P) (S : Sh h) : Sh h' := f.2.1 S
theorem Fk.R {h h' : AH} {P : Nat → Prop} (f : Fk h h' P) {p : Nat} {A : AP} (R : RepC h p A) (hp8 : p + 8 < 77) (hp : ∀ a, p < a → a ≤ p + 8 → ¬ P a) : RepC h' p A := by
  have e : ∀ j, j < 8 → aI h' (p + 1 + j) = aI h (p + 1 + j) := fun j hj => f.i (by omega) (hp _ (by omega) (by omega))
  unfold RepC
  rw [show aI h' (p + 1) = aI h (p + 1) from e 0 (by decide), show aI h' (p + 2) = aI h (p + 2) from e 1 (by decide), show aI h' (p + 3) = aI h (p + 3) from e 2 (by decide), show aI h' (p + 4) = aI h (p + 4) from e 3 (by decide), show aI h' (p + 5) = aI h (p + 5) from e 4 (by decide), show aI h' (p + 6) = aI h (p + 6) from e 5 (by decide), show aI h' (p + 7) = aI h (p + 7) from e 6 (by decide), show aI h' (p + 8) = aI h (p + 8) from e 7 (by decide)]
  exact R
theorem Fk.B {h h' : AH} {Q : Nat → Prop} (f : Fk h h' Q) {B : BK} (R : RepB h B) (h1 : ¬ Q 1) (h2 : ¬ Q 2) (h3 : ¬ Q 3) (h4 : ¬ Q 4) : RepB h' B := by
  unfold RepB
  rw [f.i (by decide) h1, f.i (by decide) h2, f.i (by decide) h3, f.i (by decide) h4]
  exact R
theorem Fk.w {h h' : AH} {Q : Nat → Prop} (f : Fk h h' Q) {r : Nat} {l : List Nat} (w : Rw h r l) (h7 : r + 1 < 77) (h1 : ¬ Q r) (h2 : ¬ Q (r + 1)) : Rw h' r l := w.fr (f.i (by omega) h1) (f.i h7 h2)
theorem rep_of {h h' : AH} {p q : Nat} {A : AP} (R : RepC h q A) (e : ∀ j, j < 8 → ∀ i, i < eP j → aI h' (p + 1 + j) i = aI h (q + 1 + j) i) (f : ∀ l, qS A l ≤ 40) : RepC h' p A := by
  obtain ⟨a1, a2, a3, a4, a5, a6, a7, a8⟩ := R
  refine ⟨fun i hi => ?_, fun i hi => ?_, fun i hi => ?_, fun i hi => ?_, fun i hi => ?_, fun l k hl hk => ?_, fun i hi => ?_, fun i hi => ?_⟩
  · rw [← a1 i hi]; exact e 0 (by decide) i hi
  · rw [← a2 i hi]; exact e 1 (by decide) i hi
  · rw [← a3 i hi]; exact e 2 (by decide) i hi
  · rw [← a4 i hi]; exact e 3 (by decide) i hi
  · rw [← a5 i hi]; exact e 4 (by decide) i hi
  · rw [← a6 l k hl hk]
    have := f l
    exact e 5 (by decide) _ (show 40 * l + k < 240 by omega)
  · rw [← a7 i hi]; exact e 6 (by decide) i hi
  · rw [← a8 i hi]; exact e 7 (by decide) i hi
theorem m60 {a : Nat} (ha : a < 2 ^ 31) : nI a - nI a / 60 * 60 = nI (a % 60) := pk_rem (d := 60) ha (by decide) (by decide)
section Past
variable {h : AH} {H : List PN} {P : AP} {N : Nat → Int64}
/-- the first half: a free place in the ring of moments -/
theorem keepA (S : Sh h) (p : PaC h H) : ∃ h2 e K, (if aI h 51 2 = 60 then Option.bind (gI h 3 51 1) fun x3 => Option.bind (pI h 3 51 1 ((x3 + 1) - (x3 + 1) / 60 * 60)) fun h4 => Option.bind (gI h4 3 51 2) fun x5 => Option.bind (pI h4 3 51 2 (x5 - 1)) fun h6 => some h6 else some h) = some h2 ∧ Fr h h2 (fun a => a = 51) ∧ K.length < 60 ∧ (∀ x, puH H x = K ++ [x]) ∧ e < 60 ∧ aI h2 51 1 = nI e ∧ aI h2 51 2 = nI K.length ∧ (∀ i (hi : i < K.length), ∃ m, aP h2 52 ((e + i) % 60) = some m ∧ MoR h2 m K[i]) := by
  obtain ⟨e, a1, a2, a3, a4, a5, a6, a7⟩ := p
  by_cases q : H.length = 60
  · have S1 : Sh (sI h 51 1 (nI ((e + 1) % 60))) := S.sI
    have g1 : aI (sI h 51 1 (nI ((e + 1) % 60))) 51 2 = nI 60 := by rw [sI_I, if_neg (by decide), a3, q]
    have ff : Fr h (sI (sI h 51 1 (nI ((e + 1) % 60))) 51 2 (nI 59)) (fun a => a = 51) := Fr.tr (S := fun a => a = 51) (Fr.si rfl) (Fr.si rfl)
    refine ⟨sI (sI h 51 1 (nI ((e + 1) % 60))) 51 2 (nI 59), (e + 1) % 60, H.tail, ?_, ff, by rw [List.length_tail]; omega, fun x => by unfold puH; rw [if_pos q], Nat.mod_lt _ (by decide), ?_, ?_, fun i hi => ?_⟩
    · rw [a3, q, if_pos (show nI 60 = 60 from rfl), gi_51 S, bs, a2, nI_1, m60 (by omega), pi_51 S, bs, gi_51 S1, bs, g1, show nI 60 - 1 = nI 59 from nI_pred 59, pi_51 S1, bs]
    · rw [sI_I, if_neg (by decide), sI_I, if_pos ⟨rfl, rfl⟩]
    · rw [sI_I, if_pos ⟨rfl, rfl⟩, List.length_tail, q]
    · rw [List.length_tail] at hi
      obtain ⟨m, e1, r⟩ := a7 (i + 1) (by omega)
      have h77 := (a5 _ m (Nat.mod_lt _ (by decide)) e1).1
      refine ⟨m, ?_, ?_⟩
      · show aP h 52 _ = _
        rw [← e1]
        congr 1
        omega
      · rw [List.getElem_tail]
        exact r.fr ff (fun a q1 _ => by omega)
  · refine ⟨h, e, H, ?_, Fr.rf _ _, by omega, fun x => by unfold puH; rw [if_neg q], a1, a2, a3, a7⟩
    rw [a3, if_neg (show ¬ nI H.length = 60 from fun e => q ((nI_eq (b := 60) (by omega) (by decide)).mp e))]
theorem q_keep (S : Sh h) (p : PaC h H) (RP : RepC h 16 P) (hlen : ∀ l, qS P l ≤ 40) (hN : ∀ d, d < 258 → aJ h 25 d = N d) : ∃ h', f_X3_keep h 51 16 25 = some h' ∧ Fk h h' (fun a => a = 51 ∨ a = 52) ∧ PaC h' (puH H (P, N)) := by
  have pp := p
  obtain ⟨-, -, -, -, -, P5, P6, -⟩ := pp
  obtain ⟨h2, e, K, e2, f2, hK, hpu, he, g1, g2, g3⟩ := keepA S p
  have S2 := f2.S S
  have p52 : aP h2 52 = aP h 52 := f2.p (by omega)
  obtain ⟨x9, ex9⟩ : ∃ z, z = (e + K.length) % 60 := ⟨_, rfl⟩
  have h9 : x9 < 60 := by rw [ex9]; exact Nat.mod_lt _ (by decide)
  have P5' : ∀ i m, i < 60 → aP h2 52 i = some m → MoS h2 m := fun i m hi e1 => by
    rw [p52] at e1
    have := P5 i m hi e1
    exact this.fr f2 (fun a q1 _ => by have := this.1; omega)
  have P6' : ∀ i j m m', i < 60 → j < 60 → i ≠ j → aP h2 52 i = some m → aP h2 52 j = some m' → m + 10 < m' ∨ m' + 10 < m := by rw [p52]; exact P6
  have key : ∃ h12 m, (match aP h2 52 x9 with
      | none => Option.bind (gP h2 3 51 0) fun x14 => Option.bind (some (nw h2 2 0)) fun h15 => Option.bind (f_X2_init h15 (aN h2)) fun h17 => Option.bind (stP h17 x14 (nI x9) (aN h2)) fun h18 => some h18
      | some x13 => some h2) = some h12 ∧ Fk h2 h12 (fun a => a = 52) ∧ aP h12 52 x9 = some m ∧ (∀ i m, i < 60 → aP h12 52 i = some m → MoS h12 m) ∧ (∀ i j m m', i < 60 → j < 60 → i ≠ j → aP h12 52 i = some m → aP h12 52 j = some m' → m + 10 < m' ∨ m' + 10 < m) ∧ (∀ i (hi : i < K.length), ∃ m, aP h12 52 ((e + i) % 60) = some m ∧ MoR h12 m K[i]) := by
    cases e3 : aP h2 52 x9 with
    | some m => exact ⟨h2, m, rfl, Fk.rf _ _, e3, P5', P6', g3⟩
    | none =>
      obtain ⟨h17, e4, n4, o4, w4⟩ := q_newMoment S2.1
      have S17 : Sh h17 := Old.S (fun a ha => o4 a (by have := S2.1; omega)) (by omega) S2
      have hst : stP h17 52 (nI x9) (aN h2) = some (sP h17 52 x9 (some (aN h2))) := stP_n (k_52 S17) w4.2.2.1 (by rw [e_52 S17]; exact h9) (by rw [e_52 S17]; decide)
      have hp : ∀ i, aP (sP h17 52 x9 (some (aN h2))) 52 i = if i = x9 then some (aN h2) else aP h2 52 i := fun i => by
        rw [sP_P]
        by_cases q : i = x9
        · rw [if_pos ⟨rfl, q⟩, if_pos q]
        · rw [if_neg (fun y => q y.2), if_neg q, (o4 52 (by have := S2.1; omega)).2.2.2.2]
      have fs : Fr h17 (sP h17 52 x9 (some (aN h2))) (fun a => a = 52) := Fr.sp rfl (fun x hx q => by
        have h52 : ∀ x, x ∈ pS → x.1 ≠ 52 := by decide
        exact h52 x hx q.1)
      have mo : ∀ m, MoS h2 m → MoS h17 m := fun m w => by
        obtain ⟨b1, b2, b3, b4, b5, b6, b7, b8⟩ := w
        refine ⟨b1, by omega, by rw [(o4 m (by omega)).1]; exact b3, by rw [(o4 m (by omega)).2.2.2.2]; exact b4, by rw [(o4 m (by omega)).2.2.2.2]; exact b5, ⟨by rw [(o4 _ (by omega)).1]; exact b6.1, fun j hj => by rw [(o4 (m + 1) (by omega)).2.2.2.2]; exact b6.2.1 j hj, fun j hj => by rw [(o4 (m + 1 + 1 + j) (by omega)).1]; exact b6.2.2.1 j hj, fun j hj => by rw [(o4 (m + 1 + 1 + j) (by omega)).2.1]; exact b6.2.2.2 j hj⟩, by rw [(o4 _ (by omega)).1]; exact b7, by rw [(o4 _ (by omega)).2.1]; exact b8⟩
      have mr : ∀ m x, m + 11 ≤ aN h2 → MoR h2 m x → MoR h17 m x := fun m x hm w => by
        refine ⟨?_, fun d hd => by rw [(o4 (m + 10) (by omega)).2.2.2.1]; exact w.2 d hd⟩
        have q : ∀ j, j < 8 → aI h17 (m + 1 + 1 + j) = aI h2 (m + 1 + 1 + j) := fun j hj => (o4 (m + 1 + 1 + j) (by omega)).2.2.1
        unfold RepC
        rw [show aI h17 (m + 1 + 1) = _ from q 0 (by decide), show aI h17 (m + 1 + 2) = _ from q 1 (by decide), show aI h17 (m + 1 + 3) = _ from q 2 (by decide), show aI h17 (m + 1 + 4) = _ from q 3 (by decide), show aI h17 (m + 1 + 5) = _ from q 4 (by decide), show aI h17 (m + 1 + 6) = _ from q 5 (by decide), show aI h17 (m + 1 + 7) = _ from q 6 (by decide), show aI h17 (m + 1 + 8) = _ from q 7 (by decide)]
        exact w.1
      refine ⟨sP h17 52 x9 (some (aN h2)), aN h2, ?_, ⟨by show aN h2 ≤ aN h17; omega, fun _ => fs.S S17, fun a ha hn => ?_⟩, by rw [hp, if_pos rfl], fun i m hi e5 => ?_, fun i j m m' hi hj hij e5 e6 => ?_, fun i hi => ?_⟩
      · simp only []
        rw [g_51_0 S2, bs, bs, e4, bs, hst, bs]
      · have := o4 a (by have := S2.1; omega)
        exact ⟨by rw [fs.i hn]; exact this.2.2.1, by rw [fs.j hn]; exact this.2.2.2.1, by rw [fs.p hn]; exact this.2.2.2.2⟩
      · rw [hp] at e5
        by_cases q : i = x9
        · rw [if_pos q] at e5
          cases e5
          exact w4.fr fs (fun a q1 _ => by have := S2.1; omega)
        · rw [if_neg q] at e5
          have w := P5' i m hi e5
          exact (mo m w).fr fs (fun a q1 _ => by have := w.1; omega)
      · rw [hp] at e5 e6
        have hlo : ∀ i m, i < 60 → aP h2 52 i = some m → m + 11 ≤ aN h2 := fun i m hi e => (P5' i m hi e).2.1
        by_cases q1 : i = x9
        · by_cases q2 : j = x9
          · omega
          · rw [if_pos q1] at e5
            rw [if_neg q2] at e6
            cases e5
            have := hlo j m' hj e6
            omega
        · by_cases q2 : j = x9
          · rw [if_neg q1] at e5
            rw [if_pos q2] at e6
            cases e6
            have := hlo i m hi e5
            omega
          · rw [if_neg q1] at e5
            rw [if_neg q2] at e6
            exact P6' i j m m' hi hj hij e5 e6
      · obtain ⟨m, e5, r⟩ := g3 i hi
        have hne : (e + i) % 60 ≠ x9 := fun q => by rw [q, e3] at e5; cases e5
        have w := P5' _ m (Nat.mod_lt _ (by decide)) e5
        refine ⟨m, by rw [hp, if_neg hne]; exact e5, (mr m _ w.2.1 r).fr fs (fun a q1 _ => by have := w.1; omega)⟩
  obtain ⟨h12, m, e12, f12, em, Q5, Q6, Q7⟩ := key
  have S12 := f12.S S2
  have wm := Q5 x9 m h9 em
  have R16 : RepC h12 16 P := f12.R (f2.R RP (fun a q1 q2 => by omega)) (by decide) (fun a q1 q2 => by omega)
  obtain ⟨h24, e24, f24, c24⟩ := q_copyFrom wm.2.2.2.2.2.1 (S_16 S12) (by have := wm.1; omega)
  have f24g := f24.g
  have S24 := f24g.S S12
  have w24 : ∀ m, MoS h12 m → MoS h24 m := fun m w => by
    obtain ⟨q1, q2, q3, q4, -, -⟩ := f24
    unfold MoS WPl
    rw [q1, q2, q3, q4]
    exact w
  have p24 : aP h24 = aP h12 := f24.2.2.2.1
  have g24 : gP h24 2 m 1 = some (m + 10) := gP_n (w24 m wm).2.2.1 (w24 m wm).2.2.2.2.1
  have g12 : gP h12 2 m 0 = some (m + 1) := gP_n wm.2.2.1 wm.2.2.2.1
  obtain ⟨h29, eh29⟩ : ∃ z, z = rJ h24 (m + 10) (va_cpy (aJ h24 25) (aJ h24 (m + 10)) 0 0 258) := ⟨_, rfl⟩
  have f29 : Fq h24 h29 (fun a => a = m + 10) := by rw [eh29]; exact Fq.rj rfl
  have S29 := f29.S S24
  have hm77 := wm.1
  have i51 : aI h29 51 2 = nI K.length := by
    rw [f29.i (by omega), f24g.i (by omega), f12.i (by decide) (by decide)]
    exact g2
  obtain ⟨h31, eh31⟩ : ∃ z, z = sI h29 51 2 (nI (K.length + 1)) := ⟨_, rfl⟩
  have f31 : Fq h29 h31 (fun a => a = 51) := by rw [eh31]; exact Fq.si rfl
  have p31 : aP h31 = aP h12 := by rw [f31.p, f29.p, p24]
  have w31 : ∀ m, MoS h12 m → MoS h31 m := fun m w => by
    have := w24 m w
    unfold MoS WPl at this ⊢
    rw [f31.1, f31.2.1, f31.2.2.1, f31.p, f29.1, f29.2.1, f29.2.2.1, f29.p]
    exact this
  have F31 : Fr h12 h31 (fun a => a = 51 ∨ (m < a ∧ a ≤ m + 10)) := ((f24g.mono (fun a q => by omega)).tr (f29.g.mono (fun a q => by omega))).tr (f31.g.mono (fun a q => by omega))
  refine ⟨h31, ?_, ?_, e, he, ?_, ?_, ?_, fun i m hi e5 => ?_, fun i j m m' hi hj hij e5 e6 => ?_, fun i hi => ?_⟩
  · unfold f_X3_keep
    have l1 : ldP h2 52 (nI x9) = some (aP h2 52 x9) := ldP_n (k_52 S2) (by rw [e_52 S2]; exact h9) (by rw [e_52 S2]; decide)
    have l2 : ldP h12 52 (nI x9) = some (some m) := by rw [ldP_n (k_52 S12) (by rw [e_52 S12]; exact h9) (by rw [e_52 S12]; decide), em]
    have l3 : ldP h24 52 (nI x9) = some (some m) := by rw [ldP_n (k_52 S24) (by rw [e_52 S24]; exact h9) (by rw [e_52 S24]; decide), p24, em]
    have hcp : cpJ h24 25 0 (m + 10) 0 258 = some h29 := by
      rw [eh29]
      exact cpJ_n (n := 258) (k_25 S24) (w24 m wm).2.2.2.2.2.2.1 (by rw [e_25 S24]; decide) (by rw [(w24 m wm).2.2.2.2.2.2.2]; decide) (by decide)
    rw [if_pos (k_51 S), gi_51 S, bs, e2, bs, gi_51 S2, bs, gi_51 S2, bs, g1, g2, bs, nI_add, m60 (by omega), ← ex9, g_51_0 S2, bs, l1, bs]
    rw [g_51_0 S2] at e12
    show Option.bind (match aP h2 52 x9 with
      | none => Option.bind (some 52) fun x14 => Option.bind (some (nw h2 2 0)) fun h15 => Option.bind (f_X2_init h15 (aN h2)) fun h17 => Option.bind (stP h17 x14 (nI x9) (aN h2)) fun h18 => some h18
      | some x13 => some h2) _ = _
    rw [e12, bs, g_51_0 S12, bs, l2, bs, bs, g12, bs, e24, bs, g_51_0 S24, bs, l3, bs, bs, g24, bs, hcp, bs, gi_51 S29, bs, i51, nI_1, pi_51 S29, bs, ← eh31]
  · refine ((f2.k.mono (fun a _ q => by omega)).tr (f12.mono (fun a _ q => by omega))).tr (F31.k.mono (fun a h7 q => by omega))
  · rw [F31.2.2.2.2 51 |> fun _ => eh31, sI_I, if_neg (by decide), f29.i (by omega), f24g.i (by omega), f12.i (by decide) (by decide)]
    exact g1
  · rw [eh31, sI_I, if_pos ⟨rfl, rfl⟩, hpu, List.length_append]
    rfl
  · rw [hpu, List.length_append]
    simp
    omega
  · rw [p31] at e5
    exact w31 m (Q5 i m hi e5)
  · rw [p31] at e5 e6
    exact Q6 i j m m' hi hj hij e5 e6
  · rw [hpu, List.length_append] at hi
    simp only [hpu]
    by_cases q : i < K.length
    · obtain ⟨m2, e5, r⟩ := Q7 i q
      have hne : (e + i) % 60 ≠ x9 := by omega
      have hdis := Q6 _ x9 m2 m (Nat.mod_lt _ (by decide)) h9 hne e5 em
      have h277 := (Q5 _ m2 (Nat.mod_lt _ (by decide)) e5).1
      refine ⟨m2, by rw [p31]; exact e5, ?_⟩
      rw [List.getElem_append_left q]
      exact r.fr F31 (fun a q1 q2 => by omega)
    · have hi2 : i = K.length := by simp at hi; omega
      subst hi2
      refine ⟨m, by rw [p31, ← ex9]; exact em, ?_⟩
      rw [List.getElem_append_right (Nat.le_refl _)]
      simp only [Nat.sub_self, List.getElem_cons_zero]
      refine ⟨?_, fun d hd => ?_⟩
      · have q1 : RepC h24 (m + 1) P := rep_of R16 c24 hlen
        exact (f31.R (f29.R q1 (fun a q1 q2 => by omega)) (fun a q1 q2 => by omega))
      · rw [f31.j (by omega), eh29, rJ_J, if_pos rfl, cpyJ_at hd, f24g.j (by omega), f12.j (by decide) (by decide), f2.j (by omega)]
        exact hN d hd
theorem q_takeLatest (S : Sh h) (p : PaC h H) : (H = [] ∧ f_X3_takeLatest h 51 = some (none, h)) ∨ ∃ K x m h', H = K ++ [x] ∧ f_X3_takeLatest h 51 = some (some m, h') ∧ Fq h h' (fun a => a = 51) ∧ PaC h' K ∧ MoS h' m ∧ MoR h' m x := by
  obtain ⟨e, a1, a2, a3, a4, a5, a6, a7⟩ := p
  by_cases q : H = []
  · refine Or.inl ⟨q, ?_⟩
    unfold f_X3_takeLatest
    subst q
    rw [if_pos (k_51 S), gi_51 S, bs, a3, if_pos (show nI ([] : List PN).length = 0 from rfl)]
  · have hl : 0 < H.length := List.length_pos_iff.mpr q
    obtain ⟨h1, eh1⟩ : ∃ z, z = sI h 51 2 (nI (H.length - 1)) := ⟨_, rfl⟩
    have f1 : Fq h h1 (fun a => a = 51) := by rw [eh1]; exact Fq.si rfl
    have S1 := f1.S S
    obtain ⟨m, em, r⟩ := a7 (H.length - 1) (by omega)
    have wm := a5 _ m (Nat.mod_lt _ (by decide)) em
    have hm77 := wm.1
    have e51 : aI h1 51 1 = nI e := by rw [eh1, sI_I, if_neg (by decide), a2]
    have e52 : aI h1 51 2 = nI (H.length - 1) := by rw [eh1, sI_I, if_pos ⟨rfl, rfl⟩]
    have hl2 : (H.dropLast).length = H.length - 1 := List.length_dropLast
    refine Or.inr ⟨H.dropLast, H[H.length - 1], m, h1, ?_, ?_, f1, ⟨e, a1, e51, by rw [e52, hl2], by omega, fun i m hi e5 => ?_, fun i j m m' hi hj hij e5 e6 => ?_, fun i hi => ?_⟩, wm.fr f1.g (fun a q1 q2 => by omega), r.fr f1.g (fun a q1 q2 => by omega)⟩
    · rw [← List.getLast_eq_getElem q]
      exact (List.dropLast_concat_getLast q).symm
    · unfold f_X3_takeLatest
      have l1 : ldP h1 52 (nI ((e + (H.length - 1)) % 60)) = some (some m) := by
        rw [ldP_n (k_52 S1) (by rw [e_52 S1]; exact Nat.mod_lt _ (by decide)) (by rw [e_52 S1]; decide), f1.p, em]
      have hp1 : nI H.length - 1 = nI (H.length - 1) := by
        have := nI_pred (H.length - 1)
        rw [show H.length - 1 + 1 = H.length by omega] at this
        exact this
      rw [if_pos (k_51 S), gi_51 S, bs, a3, if_neg (nI_ne0 hl (by omega)), bs, hp1, pi_51 S, bs, ← eh1, g_51_0 S1, bs, gi_51 S1, bs, gi_51 S1, bs, e51, e52, nI_add, m60 (by omega), l1, bs]
    · rw [f1.p] at e5
      have := a5 i m hi e5
      exact this.fr f1.g (fun a q1 q2 => by have := this.1; omega)
    · rw [f1.p] at e5 e6
      exact a6 i j m m' hi hj hij e5 e6
    · rw [hl2] at hi
      obtain ⟨m2, e5, r2⟩ := a7 i (by omega)
      have := (a5 _ m2 (Nat.mod_lt _ (by decide)) e5).1
      refine ⟨m2, by rw [f1.p]; exact e5, ?_⟩
      rw [List.getElem_dropLast]
      exact r2.fr f1.g (fun a q1 q2 => by omega)
end Past
