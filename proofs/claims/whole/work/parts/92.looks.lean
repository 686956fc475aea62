/-! THE OTHER ONE: what a maker looks at, as ids -/
/-- nothing but the ints and longs at places in Q has changed -/
def Fg (h h' : AH) (Q : Nat → Nat → Prop) : Prop := aN h' = aN h ∧ aK h' = aK h ∧ aE h' = aE h ∧ aP h' = aP h ∧ ∀ a i, ¬ Q a i → aI h' a i = aI h a i ∧ aJ h' a i = aJ h a i
theorem Fg.rf (h : AH) (Q : Nat → Nat → Prop) : Fg h h Q := ⟨rfl, rfl, rfl, rfl, fun _ _ _ => ⟨rfl, rfl⟩⟩
theorem Fg.tr {h h1 h2 : AH} {Q : Nat → Nat → Prop} (a : Fg h h1 Q) (b : Fg h1 h2 Q) : Fg h h2 Q := ⟨b.1.trans a.1, b.2.1.trans a.2.1, b.2.2.1.trans a.2.2.1, b.2.2.2.1.trans a.2.2.2.1, fun x i hx => ⟨(b.2.2.2.2 x i hx).1.trans (a.2.2.2.2 x i hx).1, (b.2.2.2.2 x i hx).2.trans (a.2.2.2.2 x i hx).2⟩⟩
theorem Fg.mono {h h1 : AH} {Q Q' : Nat → Nat → Prop} (a : Fg h h1 Q) (hs : ∀ x i, Q x i → Q' x i) : Fg h h1 Q' := ⟨a.1, a.2.1, a.2.2.1, a.2.2.2.1, fun x i hx => a.2.2.2.2 x i (fun q => hx (hs x i q))⟩
theorem Fg.si {h : AH} {Q : Nat → Nat → Prop} {a i : Nat} {v : Int32} (hs : Q a i) : Fg h (sI h a i v) Q := ⟨rfl, rfl, rfl, rfl, fun x j hx => ⟨by rw [sI_I, if_neg (fun q => hx (by rw [q.1, q.2]; exact hs))], rfl⟩⟩
theorem Fg.sj {h : AH} {Q : Nat → Nat → Prop} {a i : Nat} {v : Int64} (hs : Q a i) : Fg h (sJ h a i v) Q := ⟨rfl, rfl, rfl, rfl, fun x j hx => ⟨rfl, by rw [sJ_J, if_neg (fun q => hx (by rw [q.1, q.2]; exact hs))]⟩⟩
theorem Fg.S {h h' : AH} {Q : Nat → Nat → Prop} (f : Fg h h' Q) (S : Sh h) : Sh h' := by
  obtain ⟨e1, e2, e3, e4, -⟩ := f
  unfold Sh
  rw [e1, e2, e3, e4]
  exact S
theorem Fg.i {h h' : AH} {Q : Nat → Nat → Prop} (f : Fg h h' Q) {a i : Nat} (ha : ¬ Q a i) : aI h' a i = aI h a i := (f.2.2.2.2 a i ha).1
theorem Fg.j {h h' : AH} {Q : Nat → Nat → Prop} (f : Fg h h' Q) {a i : Nat} (ha : ¬ Q a i) : aJ h' a i = aJ h a i := (f.2.2.2.2 a i ha).2
theorem Fg.b {h h' : AH} {Q : Nat → Nat → Prop} (f : Fg h h' Q) {b : Nat} (w : BkR h b) : BkR h' b := by
  unfold BkR
  rw [f.2.1, f.2.2.1]
  exact w
theorem Fg.R {h h' : AH} {Q : Nat → Nat → Prop} (f : Fg h h' Q) {b o : Nat} {A : AP} (R : RpR h b o A) (hq : ∀ i, ¬ Q b i) : RpR h' b o A := by
  have e : aI h' b = aI h b := by funext i; exact f.i (hq i)
  unfold RpR
  rw [e]
  exact R
theorem Fg.B {h h' : AH} {Q : Nat → Nat → Prop} (f : Fg h h' Q) {B : BK} (R : RbR h B) (h1 : ¬ Q 53 2) (h2 : ¬ Q 53 3) (h3 : ∀ i, ¬ Q 56 i) (h4 : ∀ i, ¬ Q 57 i) (h5 : ∀ i, ¬ Q 58 i) : RbR h' B := by
  have e3 : aI h' 56 = aI h 56 := by funext i; exact f.i (h3 i)
  have e4 : aI h' 57 = aI h 57 := by funext i; exact f.i (h4 i)
  have e5 : aI h' 58 = aI h 58 := by funext i; exact f.i (h5 i)
  unfold RbR
  rw [f.i h1, f.i h2, e3, e4, e5]
  exact R
theorem Fg.fr {h h' : AH} {Q : Nat → Nat → Prop} (f : Fg h h' Q) {P : Nat → Prop} (hq : ∀ a i, Q a i → P a) : Fr h h' P := ⟨f.1, f.2.1, f.2.2.1, fun S => f.S S, fun a ha => ⟨by funext i; exact f.i (fun q => ha (hq a i q)), by funext i; exact f.j (fun q => ha (hq a i q)), by rw [f.2.2.2.1]⟩⟩
def idS (B : BK) (A : AP) (c s : Nat) : List Nat := if cdN B c s = 1 then [if c < 240 then 1000 + (4 * owN c + vaN B c s) else 2000 + (2 * owN c + vaN B c s)] else if cdN B c s = 2 then [2000 + (2 * lsD A c + vaN B c s)] else if cdN B c s = 3 then [if vaN B c s = 0 then 3000 + lsD A c else 4000 + lsD A c]
  else if cdN B c s = 9 ∨ cdN B c s = 10 ∨ cdN B c s = 11 then (sdS B A c s).map (fun d => 5000 + d) else if 4 ≤ cdN B c s ∧ cdN B c s ≤ 13 ∧ ¬ (cdN B c s = 9 ∨ cdN B c s = 10 ∨ cdN B c s = 11) then [idO (seN A c (cdN B c s) (vaN B c s))] else []
def idL (B : BK) (A : AP) (c n : Nat) : List Nat := (List.range n).flatMap (idS B A c)
theorem idL_s (B : BK) (A : AP) (c n : Nat) : idL B A c (n + 1) = idL B A c n ++ idS B A c n := by
  unfold idL
  rw [List.range_succ, List.flatMap_append]
  simp
def idA (B : BK) (A : AP) (c : Nat) : List Nat := if fzC A c = true then [] else idL B A c (nsN B c)
def LkR (h : AH) (L : List Nat) : Prop := aI h 53 32 = nI L.length ∧ (∀ x, x ∈ L → x < 5258) ∧ ∀ i (hi : i < L.length), aI h 69 i = nI L[i]
def QL (a i : Nat) : Prop := a = 69 ∨ (a = 53 ∧ i = 32)
section Looks
variable {h : AH} {B : BK} {A : AP} {b T Ls : Nat}
theorem r_look (S : Sh h) {L : List Nat} (x : LkR h L) (hl : L.length < 1100) {d : Nat} (hd : d < 5258) : ∃ h', f_X9_look h 53 (nI d) = some h' ∧ Fg h h' QL ∧ LkR h' (L ++ [d]) := by
  obtain ⟨h1, eh1⟩ : ∃ z, z = sI h 69 L.length (nI d) := ⟨_, rfl⟩
  have f1 : Fg h h1 QL := by rw [eh1]; exact Fg.si (Or.inl rfl)
  have S1 := f1.S S
  have g1 : aI h1 53 32 = nI L.length := by rw [eh1, sI_I, if_neg (by omega)]; exact x.1
  refine ⟨sI h1 53 32 (nI (L.length + 1)), ?_, f1.tr (Fg.si (Or.inr ⟨rfl, rfl⟩)), ?_, fun y hy => ?_, fun i hi => ?_⟩
  · unfold f_X9_look
    rw [if_pos (k_53 S), g_53_33 S, bs, gi_53 S, bs, x.1, st_69 S hl, bs, ← eh1, gi_53 S1, bs, g1, nI_1, pi_53 S1, bs]
  · rw [sI_I, if_pos ⟨rfl, rfl⟩, List.length_append]; rfl
  · rcases List.mem_append.mp hy with q | q
    · exact x.2.1 y q
    · rw [List.mem_singleton.mp q]; exact hd
  · rw [List.length_append] at hi
    rw [sI_I, if_neg (by omega), eh1, sI_I]
    by_cases q : i = L.length
    · subst q
      rw [if_pos ⟨rfl, rfl⟩]
      simp
    · have hi2 : i < L.length := by simp at hi; omega
      rw [if_neg (fun y => q y.2), x.2.2 i hi2, List.getElem_append_left hi2]
theorem r_lookThing (S : Sh h) {L : List Nat} (x : LkR h L) (hl : L.length < 1100) {o : Option Nat} (ho : ∀ t, o = some t → t < 40) {v : Nat} (hv : v < 6) : ∃ h', f_X9_lookThing h 53 (ov o) (nI v) = some h' ∧ Fg h h' QL ∧ LkR h' (L ++ [idO (o.map (fun t => 6 * t + v))]) := by
  unfold f_X9_lookThing
  cases o with
  | none =>
    obtain ⟨h1, e1, f1, x1⟩ := r_look S x hl (d := 0) (by decide)
    have e1' : f_X9_look h 53 0 = some h1 := e1
    exact ⟨h1, by rw [if_pos (k_53 S), ov_n, if_pos rfl, bs, e1', bs], f1, x1⟩
  | some t =>
    have ht := ho t rfl
    obtain ⟨h1, e1, f1, x1⟩ := r_look S x hl (d := 5000 + (6 * t + v)) (by omega)
    refine ⟨h1, ?_, f1, x1⟩
    have e : (5000 : Int32) + 6 * nI t + nI v = nI (5000 + (6 * t + v)) := by rw [show (6 : Int32) = nI 6 from rfl, show (5000 : Int32) = nI 5000 from rfl, pk_mul, nI_add, nI_add, Nat.add_assoc]
    rw [if_pos (k_53 S), ov_s, if_neg (nI_nm (by omega)), bs, e, e1, bs]
theorem id_len (f : WfA A T Ls) (c s : Nat) : (idS B A c s).length ≤ 40 := by
  unfold idS
  split
  · simp
  · split
    · simp
    · split
      · simp
      · split
        · rename_i q
          unfold sdS
          rw [if_pos q]
          simp
          exact f.len _
        · split
          · simp
          · simp
theorem idL_len (f : WfA A T Ls) (c n : Nat) : (idL B A c n).length ≤ 40 * n := by
  induction n with
  | zero => simp [idL]
  | succ n ih =>
    rw [idL_s, List.length_append]
    have := id_len (B := B) f c n
    omega
theorem lk350 (w : BkR h b) (f : WfA A T Ls) {l v : Nat} (hl : l < 6) (hv : v < 6) (l2 l3 l4 l6 : Int32) : ∀ (m n : Nat) (h : AH) (k : Nat) (L : List Nat), k + m = qS A l → m < n → Sh h → BkR h b → RpR h b 0 A → (b ≠ 69 ∧ b ≠ 53) → LkR h L → L.length + m ≤ 1100 →
    ∃ h', f_X9_lookAt_350 53 b l2 l3 l4 (nI l) l6 (nI v) n h (nI k) = some h' ∧ Fg h h' QL ∧ LkR h' (L ++ ((List.range (qS A l)).drop k).map (fun k => 5000 + (6 * qR A l k + v))) := by
  have hlen := f.len l
  intro m
  induction m with
  | zero =>
    intro n h k L hk hn S w R hb x hL
    obtain ⟨n, rfl⟩ : ∃ j, n = j + 1 := ⟨n - 1, by omega⟩
    refine ⟨h, ?_, Fg.rf _ _, ?_⟩
    · unfold f_X9_lookAt_350
      rw [R.sz w hl, bs, if_pos (nI_le (by omega) (by omega))]
    · rw [List.drop_eq_nil_of_le (by simp; omega), List.map_nil, List.append_nil]
      exact x
  | succ m ih =>
    intro n h k L hk hn S w R hb x hL
    obtain ⟨n, rfl⟩ : ∃ j, n = j + 1 := ⟨n - 1, by omega⟩
    have ht := f.t40 (l := l) (k := k) (by omega)
    obtain ⟨h1, e1, f1, x1⟩ := r_lookThing S x (by omega) (o := some (qR A l k)) (fun t e => by cases e; exact ht) hv
    obtain ⟨h2, e2, f2, x2⟩ := ih n h1 (k + 1) _ (by omega) (by omega) (f1.S S) (f1.b w) (f1.R R (fun i q => by unfold QL at q; omega)) hb x1 (by rw [List.length_append]; simp; omega)
    refine ⟨h2, ?_, f1.tr f2, ?_⟩
    · unfold f_X9_lookAt_350
      rw [R.sz w hl, bs, if_neg (nI_ge (by omega) (by omega)), R.rw w f hl (by omega), bs]
      rw [ov_s] at e1
      rw [e1, bs, nI_1, e2]
    · rw [List.drop_eq_getElem_cons (i := k) (by simp; omega), List.map_cons]
      simp only [List.getElem_range]
      rw [List.append_assoc] at x2
      exact x2
end Looks
