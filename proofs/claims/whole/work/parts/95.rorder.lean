/-! THE OTHER ONE: arrange -/
def QA (a i : Nat) : Prop := a = 69 ∨ a = 72 ∨ a = 73 ∨ a = 71 ∨ (a = 53 ∧ (i = 32 ∨ i = 36))
theorem QL_A {a i : Nat} (q : QL a i) : QA a i := by unfold QL at q; unfold QA; omega
theorem Cr.qa {h h' : AH} {B : BK} {A : AP} {b : Nat} (x : Cr h B A b) (hb : Bx b) (f : Fg h h' QA) : Cr h' B A b := x.fg f (fun q => by unfold QA at q; omega) (fun q => by unfold QA at q; omega) (fun i q => by unfold QA at q; omega) (fun i q => by unfold QA at q; omega) (fun i q => by unfold QA at q; omega) (fun i q => by unfold QA at q; unfold Bx at hb; omega)
def RdR (h : AH) (B : BK) (A : AP) (n : Nat) : Prop := ∀ c, c < n → isC B A c = true → RwR h c (rdB B A c)
/-- the order so far -/
def OrR (h : AH) (D : List Nat) : Prop := aI h 53 36 = nI D.length ∧ D.length ≤ 258 ∧ (∀ i (hi : i < D.length), aI h 71 i = nI D[i]) ∧ ∀ c, c < 258 → aI h 72 c = bI (D.contains c)
section ROrd
variable {B : BK} {A : AP} {b : Nat}
theorem ra4 (W : WfB B) (hb : Bx b) (f : WfA A (bT B) (bL B)) : ∀ (m n : Nat) (h : AH) (c : Nat), c + m = 258 → m < n → Cr h B A b → RdR h B A c → (∀ d, d < c → aI h 72 d = 0) →
    ∃ h', f_X9_arrange_4 53 b n h (nI (mnG (isC B A) c)) (nI c) = some (nI (mnG (isC B A) 258), h') ∧ Fg h h' QA ∧ RdR h' B A 258 ∧ ∀ d, d < 258 → aI h' 72 d = 0 := by
  intro m
  induction m with
  | zero =>
    intro n h c hc hn x r z
    obtain ⟨n, rfl⟩ : ∃ j, n = j + 1 := ⟨n - 1, by omega⟩
    have : c = 258 := by omega
    subst this
    refine ⟨h, ?_, Fg.rf _ _, r, z⟩
    unfold f_X9_arrange_4
    rw [if_pos (show (258 : Int32) ≤ nI 258 from nI_le (a := 258) (by omega) (by omega))]
  | succ m ih =>
    intro n h c hc hn x r z
    obtain ⟨n, rfl⟩ : ∃ j, n = j + 1 := ⟨n - 1, by omega⟩
    have S := x.1
    have hc8 : c < 258 := by omega
    obtain ⟨h1, eh1⟩ : ∃ y, y = sI h 72 c 0 := ⟨_, rfl⟩
    have f1 : Fg h h1 QA := by rw [eh1]; exact Fg.si (Or.inr (Or.inl rfl))
    have x1 := x.qa hb f1
    have r1 : RdR h1 B A c := fun c' q1 q2 d hd => by rw [eh1, sI_I, if_neg (by omega)]; exact r c' q1 q2 d hd
    have z1 : ∀ d, d < c + 1 → aI h1 72 d = 0 := fun d hd => by
      rw [eh1, sI_I]
      by_cases q : d = c
      · rw [if_pos ⟨rfl, q⟩]
      · rw [if_neg (fun y => q y.2)]; exact z d (by omega)
    have hu : f_X9_arrange_4 53 b (n + 1) h (nI (mnG (isC B A) c)) (nI c) = Option.bind (if bI (isC B A c) = 0 then some (nI (mnG (isC B A) c), h1) else Option.bind (f_X9_arrange_36 53 b (nI (mnG (isC B A) c + 1)) (nI c) FU h1 0) fun h9 => Option.bind (f_X9_lookAt h9 53 b (nI c)) fun h11 => Option.bind (f_X9_arrange_73 53 b (nI (mnG (isC B A) c + 1)) (nI c) FU h11 0) fun h22 => some (nI (mnG (isC B A) c + 1), h22)) fun w => match w with
        | (x5, h6) => f_X9_arrange_4 53 b n h6 x5 (nI (c + 1)) := by
      conv => lhs; unfold f_X9_arrange_4
      rw [if_neg (show ¬ (258 : Int32) ≤ nI c from nI_ge (b := 258) hc8 (by decide)), g_53_38 S, bs, stz_72 S (Or.inl rfl) hc8, bs, ← eh1, r_isCell x1.1 W x1.2.1 x1.2.2.1 x1.2.2.2 f hc8, bs, nI_1 c, nI_1 (mnG (isC B A) c)]
    cases e : isC B A c with
    | false =>
      rw [e, if_pos (by decide), bs] at hu
      have hm : mnG (isC B A) (c + 1) = mnG (isC B A) c := by rw [mn_s, e]; rfl
      obtain ⟨h2, e2, f2, r2, z2⟩ := ih n h1 (c + 1) (by omega) (by omega) x1 (fun c' q1 q2 => by
        by_cases q : c' = c
        · rw [q, e] at q2; cases q2
        · exact r1 c' (by omega) q2) z1
      rw [hm] at e2
      exact ⟨h2, by rw [hu]; exact e2, f1.tr f2, r2, z2⟩
    | true =>
      rw [e, if_neg (by decide)] at hu
      have hm : mnG (isC B A) (c + 1) = mnG (isC B A) c + 1 := by rw [mn_s, e]; rfl
      obtain ⟨h2, e2, f2, r2⟩ := a36 b (nI (mnG (isC B A) c + 1)) hc8 258 FU h1 0 rfl (by unfold FU; omega) x1.1 (fun d hd => by omega)
      have f2' : Fg h1 h2 QA := f2.mono (fun a i q => by unfold QA; omega)
      have x2 := x1.qa hb f2'
      obtain ⟨h3, e3, f3, l3⟩ := r_lookAt W hb f hc8 e x2
      have f3' : Fg h2 h3 QA := f3.mono (fun a i q => QL_A q)
      have x3 := x2.qa hb f3'
      have hlen : (idA B A c).length ≤ 1100 := by
        unfold idA
        split
        · simp
        · have := idL_len (B := B) f c (nsN B c)
          have := n24 W c
          omega
      obtain ⟨h4, e4, f4, r4⟩ := a73 W hb f (nI (mnG (isC B A) c + 1)) hc8 hlen (idA B A c).length FU h3 0 (fun _ => false) (by omega) (by unfold FU; omega) x3 l3 (fun d hd => by rw [f3.i (by unfold QL; omega)]; exact r2 d hd) (fun d hd => by simp)
      have f4' : Fg h3 h4 QA := f4.mono (fun a i q => by unfold QA; omega)
      have x4 := x3.qa hb f4'
      have hX : ∀ d, d < 258 → ((idA B A c).contains (5000 + d) && isC B A d) = rdB B A c d := fun d hd => (rd_id (W := W) f hc8 e hd).symm
      obtain ⟨h5, e5, f5, r5, z5⟩ := ih n h4 (c + 1) (by omega) (by omega) x4 (fun c' q1 q2 d hd => by
        by_cases q : c' = c
        · subst q
          rw [r4 d hd, ← hX d hd]
        · rw [f4.i (by omega), f3.i (by unfold QL; omega), f2.i (by omega)]
          exact r1 c' (by omega) q2 d hd) (fun d hd => by rw [f4.i (by omega), f3.i (by unfold QL; omega), f2.i (by omega)]; exact z1 d hd)
      rw [hm] at e5
      refine ⟨h5, ?_, (((f1.tr f2').tr f3').tr f4').tr f5, r5, z5⟩
      rw [hu, show (0 : Int32) = nI 0 from rfl, e2, bs, e3, bs, e4, bs, bs]
      exact e5
theorem ra189 {h : AH} (S : Sh h) {c : Nat} (hc : c < 258) {R : Nat → Bool} {D : List Nat} (r : RwR h c R) (o : ∀ d, d < 258 → aI h 72 d = bI (D.contains d)) (l1 : Nat) (l2 l3 : Int32) : ∀ (m n k : Nat) (y : Bool), k + m = 258 → m < n → y = (List.range k).all (fun d => !(R d) || D.contains d) → f_X9_arrange_189 53 l1 l2 l3 (nI c) n h (bI y) (nI k) = some (bI ((List.range 258).all (fun d => !(R d) || D.contains d))) := by
  intro m
  induction m with
  | zero =>
    intro n k y hk hn hy
    obtain ⟨n, rfl⟩ : ∃ j, n = j + 1 := ⟨n - 1, by omega⟩
    have : k = 258 := by omega
    subst this
    unfold f_X9_arrange_189
    rw [if_pos (show (258 : Int32) ≤ nI 258 from nI_le (a := 258) (by omega) (by omega)), hy]
  | succ m ih =>
    intro n k y hk hn hy
    obtain ⟨n, rfl⟩ : ∃ j, n = j + 1 := ⟨n - 1, by omega⟩
    unfold f_X9_arrange_189
    rw [if_neg (show ¬ (258 : Int32) ≤ nI k from nI_ge (b := 258) (by omega) (by decide))]
    cases y with
    | false =>
      rw [if_pos (by decide)]
      have : (List.range 258).all (fun d => !(R d) || D.contains d) = false := by
        have h1 := hy.symm
        rw [List.all_eq_false] at h1 ⊢
        obtain ⟨d, h2, h3⟩ := h1
        exact ⟨d, List.mem_range.mpr (by have := List.mem_range.mp h2; omega), h3⟩
      rw [this]
    | true =>
      have hs : (List.range (k + 1)).all (fun d => !(R d) || D.contains d) = (!(R k) || D.contains k) := by
        rw [List.range_succ, List.all_append, ← hy]
        simp
      have hv : (if bI (R k) = 0 then some (1 : Int32) else Option.bind (some 72) fun x35 => Option.bind (ldZ h x35 (nI k)) fun x36 => if x36 = 0 then some (0 : Int32) else some 1) = some (bI (!(R k) || D.contains k)) := by
        rw [bs, ldz_72 S (by omega), bs, o k (by omega)]
        cases R k <;> cases D.contains k <;> rfl
      rw [if_neg (by decide), g_53_39 S, bs, m258, ldz_73 S (by omega), bs, r k (by omega), g_53_38 S, hv, bs, nI_1]
      exact ih n (k + 1) _ (by omega) (by omega) hs.symm
theorem ra148 (W : WfB B) (hb : Bx b) (f : WfA A (bT B) (bL B)) (l2 : Int32) {D : List Nat} (hD : D.length < 258 ∨ ∀ c, c < 258 → rdG (isC B A) (rdB B A) D c = false) : ∀ (m n : Nat) (h : AH) (c : Nat), c + m = 258 → m < n → Cr h B A b → RdR h B A 258 → OrR h D → (∀ j, j < c → rdG (isC B A) (rdB B A) D j = false) →
    (f_X9_arrange_148 53 b l2 n h 0 (nI c) = some (0, h) ∧ (List.range 258).find? (rdG (isC B A) (rdB B A) D) = none) ∨ ∃ k h', (List.range 258).find? (rdG (isC B A) (rdB B A) D) = some k ∧ f_X9_arrange_148 53 b l2 n h 0 (nI c) = some (1, h') ∧ Fg h h' QA ∧ RdR h' B A 258 ∧ OrR h' (D ++ [k]) := by
  intro m
  induction m with
  | zero =>
    intro n h c hc hn x r o z
    obtain ⟨n, rfl⟩ : ∃ j, n = j + 1 := ⟨n - 1, by omega⟩
    refine Or.inl ⟨?_, fn_0 (fun j hj => z j (by omega))⟩
    unfold f_X9_arrange_148
    rw [if_pos (show (258 : Int32) ≤ nI c from nI_le (a := 258) (by omega) (by omega))]
  | succ m ih =>
    intro n h c hc hn x r o z
    obtain ⟨n, rfl⟩ : ∃ j, n = j + 1 := ⟨n - 1, by omega⟩
    have S := x.1
    have hc8 : c < 258 := by omega
    have hskip : rdG (isC B A) (rdB B A) D c = false → f_X9_arrange_148 53 b l2 (n + 1) h 0 (nI c) = f_X9_arrange_148 53 b l2 n h 0 (nI (c + 1)) := by
      intro q
      conv => lhs; unfold f_X9_arrange_148
      rw [if_neg (show ¬ (258 : Int32) ≤ nI c from nI_ge (b := 258) hc8 (by decide)), if_pos rfl, r_isCell S W x.2.1 x.2.2.1 x.2.2.2 f hc8, bs, nI_1]
      cases e : isC B A c with
      | false => rw [if_pos (by decide), bs]
      | true =>
        rw [if_neg (by decide), g_53_38 S, bs, ldz_72 S hc8, bs, o.2.2.2 c hc8]
        cases e2 : D.contains c with
        | true => rw [if_neg (by decide), bs]
        | false =>
          have hal : (List.range 258).all (fun d => !(rdB B A c d) || D.contains d) = false := by
            unfold rdG at q
            rw [e, e2] at q
            simpa using q
          have := ra189 S hc8 (r c hc8 e) o.2.2.2 b l2 0 258 FU 0 true rfl (by unfold FU; omega) rfl
          rw [hal] at this
          have this' : f_X9_arrange_189 53 b l2 0 (nI c) FU h 1 0 = some (bI false) := this
          rw [if_pos (by decide), this', bs, if_pos (by decide), bs]
    cases eq : rdG (isC B A) (rdB B A) D c with
    | false =>
      rw [hskip eq]
      exact ih n h (c + 1) (by omega) (by omega) x r o (fun j hj => by
        by_cases q : j = c
        · rw [q]; exact eq
        · exact z j (by omega))
    | true =>
      obtain ⟨q1, q2, q3⟩ := rd_iff.mp eq
      have hfnd : (List.range 258).find? (rdG (isC B A) (rdB B A) D) = some c := fn_i hc8 eq z
      have hDl : D.length < 258 := by
        rcases hD with q | q
        · exact q
        · rw [q c hc8] at eq; cases eq
      have e2 : D.contains c = false := by simpa using q2
      have hal : (List.range 258).all (fun d => !(rdB B A c d) || D.contains d) = true := by
        unfold rdG at eq
        rw [Bool.and_eq_true] at eq
        exact eq.2
      have := ra189 S hc8 (r c hc8 q1) o.2.2.2 b l2 0 258 FU 0 true rfl (by unfold FU; omega) rfl
      rw [hal] at this
      have this' : f_X9_arrange_189 53 b l2 0 (nI c) FU h 1 0 = some (bI true) := this
      obtain ⟨h1, eh1⟩ : ∃ y, y = sI h 72 c 1 := ⟨_, rfl⟩
      have f1 : Fg h h1 QA := by rw [eh1]; exact Fg.si (Or.inr (Or.inl rfl))
      have S1 := f1.S S
      obtain ⟨h2, eh2⟩ : ∃ y, y = sI h1 71 D.length (nI c) := ⟨_, rfl⟩
      have f2 : Fg h1 h2 QA := by rw [eh2]; exact Fg.si (Or.inr (Or.inr (Or.inr (Or.inl rfl))))
      have S2 := f2.S S1
      obtain ⟨h3, eh3⟩ : ∃ y, y = sI h2 53 36 (nI (D.length + 1)) := ⟨_, rfl⟩
      have f3 : Fg h2 h3 QA := by rw [eh3]; exact Fg.si (Or.inr (Or.inr (Or.inr (Or.inr ⟨rfl, Or.inr rfl⟩))))
      have l1 : aI h1 53 36 = nI D.length := by rw [eh1, sI_I, if_neg (by omega)]; exact o.1
      have l2' : aI h2 53 36 = nI D.length := by rw [eh2, sI_I, if_neg (by omega)]; exact l1
      refine Or.inr ⟨c, h3, hfnd, ?_, (f1.tr f2).tr f3, fun c' q1 q2 d hd => ?_, ?_, ?_, fun i hi => ?_, fun d hd => ?_⟩
      · unfold f_X9_arrange_148
        rw [if_neg (show ¬ (258 : Int32) ≤ nI c from nI_ge (b := 258) hc8 (by decide)), if_pos rfl, r_isCell S W x.2.1 x.2.2.1 x.2.2.2 f hc8, bs, q1, if_neg (by decide), g_53_38 S, bs, ldz_72 S hc8, bs, o.2.2.2 c hc8, e2, if_pos (by decide), this', bs, if_neg (by decide), bs, stz_72 S (Or.inr rfl) hc8, bs, ← eh1, g_53_37 S1, bs, gi_53 S1, bs, l1, st_71 S1 hDl, bs, ← eh2, gi_53 S2, bs, l2', nI_1, pi_53 S2, bs, ← eh3, bs]
        simp only []
        obtain ⟨n, rfl⟩ : ∃ j, n = j + 1 := ⟨n - 1, by omega⟩
        unfold f_X9_arrange_148
        by_cases q : (258 : Int32) ≤ nI c + 1
        · rw [if_pos q]
        · rw [if_neg q, if_neg (by decide)]
      · rw [eh3, sI_I, if_neg (by omega), eh2, sI_I, if_neg (by omega), eh1, sI_I, if_neg (by omega)]
        exact r c' q1 q2 d hd
      · rw [eh3, sI_I, if_pos ⟨rfl, rfl⟩, List.length_append]; rfl
      · rw [List.length_append]; simp; omega
      · rw [List.length_append] at hi
        rw [eh3, sI_I, if_neg (by omega), eh2, sI_I]
        by_cases q : i = D.length
        · subst q
          rw [if_pos ⟨rfl, rfl⟩]
          simp
        · have hi2 : i < D.length := by simp at hi; omega
          rw [if_neg (fun y => q y.2), eh1, sI_I, if_neg (by omega), o.2.2.1 i hi2, List.getElem_append_left hi2]
      · rw [eh3, sI_I, if_neg (by omega), eh2, sI_I, if_neg (by omega), eh1, sI_I, ct_sn]
        by_cases q : d = c
        · rw [if_pos ⟨rfl, q⟩, decide_eq_true q, Bool.or_true]; rfl
        · rw [if_neg (fun y => q y.2), decide_eq_false q, Bool.or_false]; exact o.2.2.2 d hd
theorem ra139 (W : WfB B) (hb : Bx b) (f : WfA A (bT B) (bL B)) (l2 : Int32) : ∀ (m n : Nat) (h : AH) (D : List Nat), D.length + m = 259 → m < n → GdG (isC B A) (rdB B A) D → orA (isC B A) (rdB B A) = ordG (isC B A) (rdB B A) m D → Cr h B A b → RdR h B A 258 → OrR h D →
    ∃ h', f_X9_arrange_139 53 b l2 (n + 1) h 1 = some h' ∧ Fg h h' QA ∧ RdR h' B A 258 ∧ OrR h' (orA (isC B A) (rdB B A)) := by
  have hR : ∀ c d, rdB B A c d = true → d < 258 ∧ isC B A d = true := fun c d q => rdB_c c d q
  intro m
  induction m with
  | zero =>
    intro n h D hD hn g ho x r o
    have := o.2.1
    omega
  | succ m ih =>
    intro n h D hD hn g ho x r o
    obtain ⟨n, rfl⟩ : ∃ j, n = j + 1 := ⟨n - 1, by omega⟩
    have hcase : D.length < 258 ∨ ∀ c, c < 258 → rdG (isC B A) (rdB B A) D c = false := by
      rcases Nat.lt_or_ge D.length 258 with q | q
      · exact Or.inl q
      · refine Or.inr (fun c hc => ?_)
        cases e : rdG (isC B A) (rdB B A) D c with
        | false => rfl
        | true =>
          have := (g.snoc hR hc e).len
          rw [List.length_append] at this
          simp at this
          omega
    rcases ra148 W hb f l2 hcase 258 FU h 0 rfl (by unfold FU; omega) x r o (fun j hj => by omega) with ⟨e1, e2⟩ | ⟨k, h1, e1, e2, f1, r1, o1⟩
    · have hor : orA (isC B A) (rdB B A) = D := by rw [ho, ord_st e2]
      refine ⟨h, ?_, Fg.rf _ _, r, by rw [hor]; exact o⟩
      unfold f_X9_arrange_139
      have e1' : f_X9_arrange_148 53 b l2 FU h 0 0 = some (0, h) := e1
      rw [if_neg (by decide), e1', bs]
      simp only []
      unfold f_X9_arrange_139
      rw [if_pos rfl]
    · obtain ⟨p1, p2, -⟩ := fn_s e1
      obtain ⟨h2, e3, f2, r2, o2⟩ := ih n h1 (D ++ [k]) (by rw [List.length_append]; simp; omega) (by omega) (g.snoc hR p1 p2) (by rw [ho, ord_s e1]) (x.qa hb f1) r1 o1
      refine ⟨h2, ?_, f1.tr f2, r2, o2⟩
      have e2' : f_X9_arrange_148 53 b l2 FU h 0 0 = some (1, h1) := e2
      conv => lhs; unfold f_X9_arrange_139
      rw [if_neg (by decide), e2', bs]
      exact e3
theorem r_arrange {h : AH} (W : WfB B) (hb : Bx b) (f : WfA A (bT B) (bL B)) (x : Cr h B A b) : ∃ h', f_X9_arrange h 53 b = some (bI (alB B A), h') ∧ Fg h h' QA ∧ RdR h' B A 258 ∧ OrR h' (orA (isC B A) (rdB B A)) := by
  obtain ⟨h1, e1, f1, r1, z1⟩ := ra4 W hb f 258 FU h 0 rfl (by unfold FU; omega) x (fun c q => by omega) (fun d q => by omega)
  have x1 := x.qa hb f1
  obtain ⟨h2, eh2⟩ : ∃ y, y = sI h1 53 36 0 := ⟨_, rfl⟩
  have f2 : Fg h1 h2 QA := by rw [eh2]; exact Fg.si (Or.inr (Or.inr (Or.inr (Or.inr ⟨rfl, Or.inr rfl⟩))))
  have x2 := x1.qa hb f2
  have o2 : OrR h2 [] := ⟨by rw [eh2, sI_I, if_pos ⟨rfl, rfl⟩]; rfl, by simp, fun i hi => by simp at hi, fun d hd => by rw [eh2, sI_I, if_neg (by omega), z1 d hd]; rfl⟩
  have r2 : RdR h2 B A 258 := fun c' q1 q2 d hd => by rw [eh2, sI_I, if_neg (by omega)]; exact r1 c' q1 q2 d hd
  obtain ⟨h3, e3, f3, r3, o3⟩ := ra139 W hb f (nI (mnG (isC B A) 258)) 259 (FU - 1) h2 [] (by simp) (by unfold FU; omega) gd_nil rfl x2 r2 o2
  have x3 := x2.qa hb f3
  have e3' : f_X9_arrange_139 53 b (nI (mnG (isC B A) 258)) FU h2 1 = some h3 := e3
  have e1' : f_X9_arrange_4 53 b FU h 0 0 = some (nI (mnG (isC B A) 258), h1) := e1
  refine ⟨h3, ?_, (f1.tr f2).tr f3, r3, o3⟩
  have hm := mn_le (isC B A) 258
  have hl := o3.2.1
  unfold f_X9_arrange
  rw [if_pos (k_53 x.1), e1', bs]
  simp only []
  rw [pi_53 x1.1, bs, ← eh2, e3', bs, gi_53 x3.1, bs, o3.1]
  unfold alB
  by_cases q : (orA (isC B A) (rdB B A)).length = mnG (isC B A) 258
  · rw [if_pos (by rw [q]), bs, bz1, bs, decide_eq_true q]; rfl
  · rw [if_neg (fun e => q ((nI_eq (by omega) (by omega)).mp e)), bs, bz0, bs, decide_eq_false q]; rfl
end ROrd
