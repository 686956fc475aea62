/-! frames without pointers; fills; rows of cells -/
/-- nothing but ints and longs of the cells in S has changed -/
def Fq (h h' : AH) (S : Nat → Prop) : Prop := aN h' = aN h ∧ aK h' = aK h ∧ aE h' = aE h ∧ aP h' = aP h ∧ ∀ a, ¬ S a → aI h' a = aI h a ∧ aJ h' a = aJ h a
theorem Fq.rf (h : AH) (S : Nat → Prop) : Fq h h S := ⟨rfl, rfl, rfl, rfl, fun _ _ => ⟨rfl, rfl⟩⟩
theorem Fq.tr {h h1 h2 : AH} {S : Nat → Prop} (a : Fq h h1 S) (b : Fq h1 h2 S) : Fq h h2 S := ⟨b.1.trans a.1, b.2.1.trans a.2.1, b.2.2.1.trans a.2.2.1, b.2.2.2.1.trans a.2.2.2.1, fun x hx => ⟨(b.2.2.2.2 x hx).1.trans (a.2.2.2.2 x hx).1, (b.2.2.2.2 x hx).2.trans (a.2.2.2.2 x hx).2⟩⟩
theorem Fq.mono {h h1 : AH} {S S' : Nat → Prop} (a : Fq h h1 S) (hs : ∀ x, S x → S' x) : Fq h h1 S' := ⟨a.1, a.2.1, a.2.2.1, a.2.2.2.1, fun x hx => a.2.2.2.2 x (fun q => hx (hs x q))⟩
theorem Fq.si {h : AH} {S : Nat → Prop} {a i : Nat} {v : Int32} (hs : S a) : Fq h (sI h a i v) S := ⟨rfl, rfl, rfl, rfl, fun x hx => ⟨up2_ne _ _ (fun e => hx (e ▸ hs)), rfl⟩⟩
theorem Fq.sj {h : AH} {S : Nat → Prop} {a i : Nat} {v : Int64} (hs : S a) : Fq h (sJ h a i v) S := ⟨rfl, rfl, rfl, rfl, fun x hx => ⟨rfl, up2_ne _ _ (fun e => hx (e ▸ hs))⟩⟩
theorem Fq.ri {h : AH} {S : Nat → Prop} {a : Nat} {g : Nat → Int32} (hs : S a) : Fq h (rI h a g) S := ⟨rfl, rfl, rfl, rfl, fun x hx => ⟨upR_ne _ _ (fun e => hx (e ▸ hs)), rfl⟩⟩
theorem Fq.rj {h : AH} {S : Nat → Prop} {a : Nat} {g : Nat → Int64} (hs : S a) : Fq h (rJ h a g) S := ⟨rfl, rfl, rfl, rfl, fun x hx => ⟨rfl, upR_ne _ _ (fun e => hx (e ▸ hs))⟩⟩
theorem FrI.q {h h' : AH} {S : Nat → Prop} (a : FrI h h' S) : Fq h h' S := ⟨a.1, a.2.1, a.2.2.1, a.2.2.2.1, fun x hx => ⟨a.2.2.2.2.2 x hx, by rw [a.2.2.2.2.1]⟩⟩
theorem Fq.S {h h' : AH} {P : Nat → Prop} (f : Fq h h' P) (S : Sh h) : Sh h' := by
  obtain ⟨e1, e2, e3, e4, -⟩ := f
  unfold Sh
  rw [e1, e2, e3, e4]
  exact S
theorem Fq.i {h h' : AH} {P : Nat → Prop} (f : Fq h h' P) {a : Nat} (ha : ¬ P a) : aI h' a = aI h a := (f.2.2.2.2 a ha).1
theorem Fq.j {h h' : AH} {P : Nat → Prop} (f : Fq h h' P) {a : Nat} (ha : ¬ P a) : aJ h' a = aJ h a := (f.2.2.2.2 a ha).2
theorem Fq.p {h h' : AH} {P : Nat → Prop} (f : Fq h h' P) : aP h' = aP h := f.2.2.2.1
theorem Fq.g {h h' : AH} {P : Nat → Prop} (f : Fq h h' P) : Fr h h' P := ⟨f.1, f.2.1, f.2.2.1, fun S => f.S S, fun a ha => ⟨f.i ha, f.j ha, by rw [f.p]⟩⟩
theorem Fq.R {h h' : AH} {P : Nat → Prop} (f : Fq h h' P) {p : Nat} {A : AP} (R : RepC h p A) (hp : ∀ a, p < a → a ≤ p + 8 → ¬ P a) : RepC h' p A := f.g.R R hp
theorem Fq.B {h h' : AH} {P : Nat → Prop} (f : Fq h h' P) {B : BK} (R : RepB h B) (h1 : ¬ P 1) (h2 : ¬ P 2) (h3 : ¬ P 3) (h4 : ¬ P 4) : RepB h' B := by
  unfold RepB
  rw [f.i h1, f.i h2, f.i h3, f.i h4]
  exact R
/-! fills -/
theorem fillI_go {a : Nat} {x : Int32} {N : Nat} (hN : N < 2 ^ 31) : ∀ (m n : Nat) (h : AH) (i : Nat), i + m = N → m < n → aK h a = 10 → aE h a = N → ∃ h', f_J7_fill_53178_5 a x (nI N) n h (nI i) = some h' ∧ Fq h h' (fun b => b = a) ∧ (∀ j, i ≤ j → j < N → aI h' a j = x) ∧ (∀ j, j < i → aI h' a j = aI h a j) ∧ aJ h' a = aJ h a := by
  intro m
  induction m with
  | zero =>
    intro n h i hi hn hk he
    obtain ⟨n, rfl⟩ : ∃ k, n = k + 1 := ⟨n - 1, by omega⟩
    refine ⟨h, ?_, Fq.rf _ _, fun j h1 h2 => by omega, fun j _ => rfl, rfl⟩
    show (if nI N ≤ nI i then some h else _) = _
    rw [if_pos (nI_le (by omega) (by omega))]
  | succ m ih =>
    intro n h i hi hn hk he
    obtain ⟨n, rfl⟩ : ∃ k, n = k + 1 := ⟨n - 1, by omega⟩
    have e : f_J7_fill_53178_5 a x (nI N) (n + 1) h (nI i) = f_J7_fill_53178_5 a x (nI N) n (sI h a i x) (nI (i + 1)) := by
      show (if nI N ≤ nI i then some h else Option.bind (stI h a (nI i) x) fun h2 => f_J7_fill_53178_5 a x (nI N) n h2 (nI i + 1)) = _
      rw [if_neg (nI_ge (by omega) hN), stI_n hk (by omega) (by omega), bs, nI_1]
    obtain ⟨h', e1, f1, g1, g2, g3⟩ := ih n (sI h a i x) (i + 1) (by omega) (by omega) hk he
    refine ⟨h', by rw [e, e1], Fq.tr (S := fun b => b = a) (Fq.si rfl) f1, fun j h1 h2 => ?_, fun j hj => ?_, g3⟩
    · rcases Nat.lt_or_ge i j with q | q
      · exact g1 j q h2
      · have : j = i := by omega
        subst this
        rw [g2 j (by omega), sI_I, if_pos ⟨rfl, rfl⟩]
    · rw [g2 j (by omega), sI_I, if_neg (by omega)]
theorem q_fillI {h : AH} {a : Nat} {x : Int32} (hk : aK h a = 10) (he : aE h a < 2 ^ 31) : ∃ h', f_J7_fill_53178 h a x = some h' ∧ Fq h h' (fun b => b = a) ∧ (∀ j, j < aE h a → aI h' a j = x) ∧ aJ h' a = aJ h a := by
  obtain ⟨h', e1, f1, g1, -, g3⟩ := fillI_go (x := x) he (aE h a) FU h 0 (by omega) (by unfold FU; omega) hk rfl
  refine ⟨h', ?_, f1, fun j hj => g1 j (by omega) hj, g3⟩
  unfold f_J7_fill_53178
  rw [aln_n hk, bs, show (0 : Int32) = nI 0 from rfl, e1, bs]
theorem fillJ_go {a : Nat} {x : Int64} {N : Nat} (hN : N < 2 ^ 31) : ∀ (m n : Nat) (h : AH) (i : Nat), i + m = N → m < n → aK h a = 11 → aE h a = N → ∃ h', f_J7_fill_d0a16_6 a x (nI N) n h (nI i) = some h' ∧ Fq h h' (fun b => b = a) ∧ (∀ j, i ≤ j → j < N → aJ h' a j = x) ∧ (∀ j, j < i → aJ h' a j = aJ h a j) ∧ aI h' a = aI h a := by
  intro m
  induction m with
  | zero =>
    intro n h i hi hn hk he
    obtain ⟨n, rfl⟩ : ∃ k, n = k + 1 := ⟨n - 1, by omega⟩
    refine ⟨h, ?_, Fq.rf _ _, fun j h1 h2 => by omega, fun j _ => rfl, rfl⟩
    show (if nI N ≤ nI i then some h else _) = _
    rw [if_pos (nI_le (by omega) (by omega))]
  | succ m ih =>
    intro n h i hi hn hk he
    obtain ⟨n, rfl⟩ : ∃ k, n = k + 1 := ⟨n - 1, by omega⟩
    have e : f_J7_fill_d0a16_6 a x (nI N) (n + 1) h (nI i) = f_J7_fill_d0a16_6 a x (nI N) n (sJ h a i x) (nI (i + 1)) := by
      show (if nI N ≤ nI i then some h else Option.bind (stJ h a (nI i) x) fun h2 => f_J7_fill_d0a16_6 a x (nI N) n h2 (nI i + 1)) = _
      rw [if_neg (nI_ge (by omega) hN), stJ_n hk (by omega) (by omega), bs, nI_1]
    obtain ⟨h', e1, f1, g1, g2, g3⟩ := ih n (sJ h a i x) (i + 1) (by omega) (by omega) hk he
    refine ⟨h', by rw [e, e1], Fq.tr (S := fun b => b = a) (Fq.sj rfl) f1, fun j h1 h2 => ?_, fun j hj => ?_, g3⟩
    · rcases Nat.lt_or_ge i j with q | q
      · exact g1 j q h2
      · have : j = i := by omega
        subst this
        rw [g2 j (by omega), sJ_J, if_pos ⟨rfl, rfl⟩]
    · rw [g2 j (by omega), sJ_J, if_neg (by omega)]
theorem q_fillJ {h : AH} {a : Nat} {x : Int64} (hk : aK h a = 11) (he : aE h a < 2 ^ 31) : ∃ h', f_J7_fill_d0a16 h a x = some h' ∧ Fq h h' (fun b => b = a) ∧ (∀ j, j < aE h a → aJ h' a j = x) ∧ aI h' a = aI h a := by
  obtain ⟨h', e1, f1, g1, -, g3⟩ := fillJ_go (x := x) he (aE h a) FU h 0 (by omega) (by unfold FU; omega) hk rfl
  refine ⟨h', ?_, f1, fun j hj => g1 j (by omega) hj, g3⟩
  unfold f_J7_fill_d0a16
  rw [show aln h a = some (nI (aE h a)) from if_pos ⟨by omega, by omega⟩, bs, show (0 : Int32) = nI 0 from rfl, e1, bs]
/-! rows of cells: the Row at r, its cells at r + 1 -/
def Rw (h : AH) (r : Nat) (l : List Nat) : Prop := aI h r 1 = nI l.length ∧ l.length ≤ 258 ∧ (∀ c, c ∈ l → c < 258) ∧ ∀ i (hi : i < l.length), aI h (r + 1) i = nI l[i]
def ShR (h : AH) (r : Nat) : Prop := aK h r = 6 ∧ aP h r 0 = some (r + 1) ∧ aK h (r + 1) = 10 ∧ aE h (r + 1) = 258
theorem Rw.fr {h h' : AH} {r : Nat} {l : List Nat} (w : Rw h r l) (e1 : aI h' r = aI h r) (e2 : aI h' (r + 1) = aI h (r + 1)) : Rw h' r l := by
  unfold Rw
  rw [e1, e2]
  exact w
theorem Fq.w {h h' : AH} {P : Nat → Prop} (f : Fq h h' P) {r : Nat} {l : List Nat} (w : Rw h r l) (h1 : ¬ P r) (h2 : ¬ P (r + 1)) : Rw h' r l := w.fr (f.i h1) (f.i h2)
theorem Sh.r {h : AH} (S : Sh h) {r : Nat} (hr : r = 26 ∨ r = 28 ∨ r = 31 ∨ r = 43 ∨ r = 45 ∨ r = 47) : ShR h r := by
  rcases hr with rfl | rfl | rfl | rfl | rfl | rfl
  · exact ⟨k_26 S, S.2.2 (26, 0, 27) (by decide), k_27 S, e_27 S⟩
  · exact ⟨k_28 S, S.2.2 (28, 0, 29) (by decide), k_29 S, e_29 S⟩
  · exact ⟨k_31 S, S.2.2 (31, 0, 32) (by decide), k_32 S, e_32 S⟩
  · exact ⟨k_43 S, S.2.2 (43, 0, 44) (by decide), k_44 S, e_44 S⟩
  · exact ⟨k_45 S, S.2.2 (45, 0, 46) (by decide), k_46 S, e_46 S⟩
  · exact ⟨k_47 S, S.2.2 (47, 0, 48) (by decide), k_48 S, e_48 S⟩
theorem q_clear {h : AH} {r : Nat} (w : ShR h r) : ∃ h', f_X6_clear h r = some h' ∧ Fq h h' (fun a => a = r) ∧ Rw h' r [] := by
  refine ⟨sI h r 1 0, ?_, Fq.si rfl, ?_, by decide, fun c hc => by simp at hc, fun i hi => by simp at hi⟩
  · unfold f_X6_clear
    rw [if_pos w.1, pI_n w.1, bs]
  · rw [sI_I, if_pos ⟨rfl, rfl⟩]
    rfl
theorem q_add {h : AH} {r : Nat} (w : ShR h r) {l : List Nat} (R : Rw h r l) {c : Nat} (hc : c < 258) (hl : l.length < 258) : ∃ h', f_X6_add h r (nI c) = some h' ∧ Fq h h' (fun a => a = r ∨ a = r + 1) ∧ Rw h' r (l ++ [c]) := by
  obtain ⟨k1, p1, k2, e2⟩ := w
  have e : f_X6_add h r (nI c) = some (sI (sI h (r + 1) l.length (nI c)) r 1 (nI (l.length + 1))) := by
    unfold f_X6_add
    have k3 : aK (sI h (r + 1) l.length (nI c)) r = 6 := k1
    have g3 : aI (sI h (r + 1) l.length (nI c)) r 1 = nI l.length := by rw [sI_I, if_neg (by omega), R.1]
    rw [if_pos k1, gI_n k1, bs, R.1, if_neg (show ¬ (258 : Int32) ≤ nI l.length from nI_ge (b := 258) hl (by decide)), gP_n k1 p1, bs, bs, stI_n k2 (by omega) (by omega), bs, gI_n k3, bs, g3, nI_1, pI_n k3, bs, bs]
  refine ⟨_, e, (Fq.si (Or.inr rfl)).tr (Fq.si (Or.inl rfl)), ?_, ?_, ?_, ?_⟩
  · rw [sI_I, if_pos ⟨rfl, rfl⟩, List.length_append]
    rfl
  · rw [List.length_append]; simp; omega
  · intro x hx
    rcases List.mem_append.mp hx with q | q
    · exact R.2.2.1 x q
    · rw [List.mem_singleton.mp q]; exact hc
  · intro i hi
    rw [List.length_append] at hi
    rw [sI_I, if_neg (by omega), sI_I]
    by_cases q : i = l.length
    · subst q
      rw [if_pos ⟨rfl, rfl⟩]
      simp
    · have hi2 : i < l.length := by simp at hi; omega
      rw [if_neg (fun x => q x.2), R.2.2.2 i hi2, List.getElem_append_left hi2]
theorem q_get {h : AH} {r : Nat} (w : ShR h r) {l : List Nat} (R : Rw h r l) {i : Nat} (hi : i < l.length) : f_X6_get h r (nI i) = some (nI l[i]) := by
  have h8 := R.2.1
  obtain ⟨k1, p1, k2, e2⟩ := w
  unfold f_X6_get
  rw [if_pos k1, if_neg (nI_nn (by omega)), gI_n k1, bs, R.1, if_pos (nI_lt hi (by omega)), gP_n k1 p1, bs, ldI_n k2 (by omega) (by omega), bs, bs, R.2.2.2 i hi]
/-- any k: none, or the cell -/
def gtL (l : List Nat) (k : Int32) : Int32 := if k < 0 then -1 else match l[k.toNatClampNeg]? with
  | none => -1
  | some c => nI c
theorem q_getx {h : AH} {r : Nat} (w : ShR h r) {l : List Nat} (R : Rw h r l) (k : Int32) : f_X6_get h r k = some (gtL l k) := by
  have h8 := R.2.1
  unfold gtL
  by_cases q : k < 0
  · unfold f_X6_get
    rw [if_pos w.1, if_pos q, if_pos q, bs]
  · obtain ⟨j, hj, e⟩ := nI_of q
    subst e
    rw [if_neg q, nI_clamp hj]
    by_cases q2 : j < l.length
    · rw [q_get w R q2, List.getElem?_eq_getElem q2]
    · obtain ⟨k1, p1, k2, e2⟩ := w
      unfold f_X6_get
      rw [if_pos k1, if_neg (nI_nn (by omega)), gI_n k1, bs, R.1, if_neg (nI_nlt (by omega) hj), bs, List.getElem?_eq_none (by omega)]
theorem q_rcopy {h : AH} {r r' : Nat} (w : ShR h r) (w' : ShR h r') {l : List Nat} (R : Rw h r' l) (hr : r' ≠ r ∧ r' ≠ r + 1 ∧ r' + 1 ≠ r) : ∃ h', f_X6_copyFrom h r r' = some h' ∧ Fq h h' (fun a => a = r ∨ a = r + 1) ∧ Rw h' r l := by
  have h8 := R.2.1
  obtain ⟨k1, p1, k2, e2⟩ := w
  obtain ⟨k3, p3, k4, e4⟩ := w'
  have e : f_X6_copyFrom h r r' = some (sI (rI h (r + 1) (va_cpy (aI h (r' + 1)) (aI h (r + 1)) 0 0 l.length)) r 1 (nI l.length)) := by
    unfold f_X6_copyFrom
    have k5 : aK (rI h (r + 1) (va_cpy (aI h (r' + 1)) (aI h (r + 1)) 0 0 l.length)) r' = 6 := k3
    have k6 : aK (rI h (r + 1) (va_cpy (aI h (r' + 1)) (aI h (r + 1)) 0 0 l.length)) r = 6 := k1
    have g5 : aI (rI h (r + 1) (va_cpy (aI h (r' + 1)) (aI h (r + 1)) 0 0 l.length)) r' 1 = nI l.length := by rw [rI_I, if_neg hr.2.1, R.1]
    rw [if_pos k1, gP_n k3 p3, bs, gP_n k1 p1, bs, gI_n k3, bs, R.1, cpI_n k4 k2 (by omega) (by omega) (by omega), bs, gI_n k5, bs, g5, pI_n k6, bs]
  refine ⟨_, e, (Fq.ri (Or.inr rfl)).tr (Fq.si (Or.inl rfl)), ?_, h8, R.2.2.1, fun i hi => ?_⟩
  · rw [sI_I, if_pos ⟨rfl, rfl⟩]
  · rw [sI_I, if_neg (by omega), rI_I, if_pos rfl, cpy_at hi, R.2.2.2 i hi]
