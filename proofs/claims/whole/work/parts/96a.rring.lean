/-! THE OTHER ONE: the ring -/
theorem bI_or (a c : Bool) : bI a ||| bI c = bI (a || c) := by cases a <;> cases c <;> decide
def clA (B : BK) (A : AP) (c : Nat) : List Nat := (sdL B A c (nsN B c)).filter (isC B A)
def gcF (B : BK) (A : AP) (i : Nat) : Option Nat := if 5000 ≤ i ∧ isC B A (i - 5000) = true then some (i - 5000) else none
def RgR (h : AH) (L : List Nat) : Prop := aI h 53 24 = nI L.length ∧ L.length ≤ 258 ∧ ∀ i (hi : i < L.length), aI h 68 i = nI L[i]
def QR (a i : Nat) : Prop := a = 68 ∨ a = 69 ∨ a = 74 ∨ (a = 53 ∧ (i = 24 ∨ i = 32))
section RRing
variable {B : BK} {A : AP} {b : Nat}
theorem Cr.qr {h h' : AH} (x : Cr h B A b) (hb : Bx b) (f : Fg h h' QR) : Cr h' B A b := x.fg f (fun q => by unfold QR at q; omega) (fun q => by unfold QR at q; omega) (fun i q => by unfold QR at q; omega) (fun i q => by unfold QR at q; omega) (fun i q => by unfold QR at q; omega) (fun i q => by unfold QR at q; unfold Bx at hb; omega)
theorem RdR.qr {h h' : AH} {n : Nat} (r : RdR h B A n) (f : Fg h h' QR) : RdR h' B A n := fun c q1 q2 d hd => by rw [f.i (by unfold QR; omega)]; exact r c q1 q2 d hd
theorem ir11 {h : AH} (S : Sh h) {c : Nat} (hc : c < 258) (hC : isC B A c = true) (r : RdR h B A 258) (me : MeR h B A c) : ∀ (m n k : Nat) (y : Bool), k + m = 258 → m < n → y = (List.range k).any (fun d => rdB B A c d && (dsG (isC B A) (rdB B A) c d).isSome) → f_X9_isInRing_11 53 (nI c) n h (bI y) (nI k) = some (bI (irG (isC B A) (rdB B A) c)) := by
  intro m
  induction m with
  | zero =>
    intro n k y hk hn hy
    obtain ⟨n, rfl⟩ : ∃ j, n = j + 1 := ⟨n - 1, by omega⟩
    have : k = 258 := by omega
    subst this
    unfold f_X9_isInRing_11 irG
    rw [if_pos (show (258 : Int32) ≤ nI 258 from nI_le (a := 258) (by omega) (by omega)), hy]
  | succ m ih =>
    intro n k y hk hn hy
    obtain ⟨n, rfl⟩ : ∃ j, n = j + 1 := ⟨n - 1, by omega⟩
    have hk8 : k < 258 := by omega
    have hv : (if bI (rdB B A c k) = 0 then some (0 : Int32) else Option.bind (some 74) fun x6 => Option.bind (ldI h x6 (nI k)) fun x7 => if 258 ≤ x7 then some (0 : Int32) else some 1) = some (bI (rdB B A c k && (dsG (isC B A) (rdB B A) c k).isSome)) := by
      rw [bs, ld_74 S hk8, bs, me k hk8]
      cases rdB B A c k with
      | false => rfl
      | true =>
        rw [if_neg (by decide)]
        cases e : dsG (isC B A) (rdB B A) c k with
        | none => rw [if_pos (show (258 : Int32) ≤ nI ((none : Option Nat).getD 258) from nI_le (a := 258) (by decide) (by decide))]; rfl
        | some j => rw [if_neg (show ¬ (258 : Int32) ≤ nI ((some j).getD 258) from nI_ge (b := 258) (ds_s e).1 (by decide))]; rfl
    unfold f_X9_isInRing_11
    rw [if_neg (show ¬ (258 : Int32) ≤ nI k from nI_ge (b := 258) hk8 (by decide)), g_53_39 S, bs, m258, ldz_73 S (by omega), bs, r c hc hC k hk8, g_53_40 S, hv, bs, bI_or, nI_1]
    refine ih n (k + 1) _ (by omega) (by omega) ?_
    rw [List.range_succ, List.any_append, ← hy]
    simp
theorem r_isInRing {h : AH} (W : WfB B) (hb : Bx b) (f : WfA A (bT B) (bL B)) (x : Cr h B A b) (r : RdR h B A 258) {c : Nat} (hc : c < 258) (hC : isC B A c = true) : ∃ h', f_X9_isInRing h 53 b (nI c) = some (bI (irG (isC B A) (rdB B A) c), h') ∧ Fg h h' QM ∧ MeR h' B A c := by
  obtain ⟨h1, e1, f1, m1⟩ := r_measure W hb f x r hc
  have x1 := x.qm hb f1
  have e2 := ir11 x1.1 hc hC (r.qm f1) m1 258 FU 0 false rfl (by unfold FU; omega) rfl
  have e2' : f_X9_isInRing_11 53 (nI c) FU h1 0 0 = some (bI (irG (isC B A) (rdB B A) c)) := e2
  refine ⟨h1, ?_, f1, m1⟩
  unfold f_X9_isInRing
  rw [if_pos (k_53 x.1), e1, bs, e2', bs, bz_b, bs]
theorem fr2 (W : WfB B) (hb : Bx b) (f : WfA A (bT B) (bL B)) {s : Nat} (hs : rbG (isC B A) (rdB B A) = some s) : ∀ (m n : Nat) (h : AH) (c : Nat), c + m = s → m < n → Cr h B A b → RdR h B A 258 → ∃ h', f_X9_findRing_2 53 b n h (nI c) = some (nI s, h') ∧ Fg h h' QM ∧ MeR h' B A s := by
  obtain ⟨s1, s2, s3⟩ := fn_s hs
  rw [Bool.and_eq_true] at s2
  intro m
  induction m with
  | zero =>
    intro n h c hc hn x r
    obtain ⟨n, rfl⟩ : ∃ j, n = j + 1 := ⟨n - 1, by omega⟩
    have : c = s := by omega
    subst this
    obtain ⟨h1, e1, f1, m1⟩ := r_isInRing W hb f x r s1 s2.1
    refine ⟨h1, ?_, f1, m1⟩
    unfold f_X9_findRing_2
    rw [r_isCell x.1 W x.2.1 x.2.2.1 x.2.2.2 f s1, bs, s2.1, if_neg (by decide), e1, bs, s2.2]
    rfl
  | succ m ih =>
    intro n h c hc hn x r
    obtain ⟨n, rfl⟩ : ∃ j, n = j + 1 := ⟨n - 1, by omega⟩
    have hc8 : c < 258 := by omega
    have hno := s3 c (by omega)
    cases e : isC B A c with
    | false =>
      obtain ⟨h2, e2, f2, m2⟩ := ih n h (c + 1) (by omega) (by omega) x r
      refine ⟨h2, ?_, f2, m2⟩
      unfold f_X9_findRing_2
      rw [r_isCell x.1 W x.2.1 x.2.2.1 x.2.2.2 f hc8, bs, e, if_pos (by decide), nI_1, e2]
    | true =>
      rw [e, Bool.true_and] at hno
      obtain ⟨h1, e1, f1, m1⟩ := r_isInRing W hb f x r hc8 e
      obtain ⟨h2, e2, f2, m2⟩ := ih n h1 (c + 1) (by omega) (by omega) (x.qm hb f1) (r.qm f1)
      refine ⟨h2, ?_, f1.tr f2, m2⟩
      unfold f_X9_findRing_2
      rw [r_isCell x.1 W x.2.1 x.2.2.1 x.2.2.2 f hc8, bs, e, if_neg (by decide), e1, bs, hno]
      simp only []
      rw [if_pos (by decide), nI_1, e2]
/-- the ids' cells are the shadows' cells -/
theorem gc_S {W : WfB B} (f : WfA A (bT B) (bL B)) {c s : Nat} (hc : c < 258) (hC : isC B A c = true) (hs : s < nsN B c) : (idS B A c s).filterMap (gcF B A) = (sdS B A c s).filter (isC B A) := by
  have how := ow_lt hc
  obtain ⟨l, -, l2, l3⟩ := c_ls W f hc hC
  have small : ∀ i, i < 5000 → gcF B A i = none := fun i hi => if_neg (fun q => by omega)
  have big : ∀ d, gcF B A (5000 + d) = if isC B A d = true then some d else none := fun d => by
    unfold gcF
    rw [show 5000 + d - 5000 = d by omega]
    by_cases q : isC B A d = true
    · rw [if_pos ⟨by omega, q⟩, if_pos q]
    · rw [if_neg (fun y => q y.2), if_neg q]
  unfold idS
  by_cases q1 : cdN B c s = 1
  · obtain ⟨-, v2⟩ := ok_giv W hc hs (by omega)
    have v3 : vaN B c s < 4 := by
      rcases v2 with ⟨-, v⟩ | v | v
      · split at v <;> omega
      · omega
      · omega
    rw [if_pos q1, sd_giv (by omega) (by omega), List.filterMap_cons_none (small _ (by split <;> omega))]
    rfl
  · rw [if_neg q1]
    by_cases q2 : cdN B c s = 2
    · obtain ⟨-, v2⟩ := ok_giv W hc hs (by omega)
      rw [if_pos q2, sd_giv (by omega) (by omega), List.filterMap_cons_none (small _ (by omega))]
      rfl
    · rw [if_neg q2]
      by_cases q3 : cdN B c s = 3
      · rw [if_pos q3, sd_giv (by omega) (by omega), List.filterMap_cons_none (small _ (by split <;> omega))]
        rfl
      · rw [if_neg q3]
        by_cases qa : cdN B c s = 9 ∨ cdN B c s = 10 ∨ cdN B c s = 11
        · rw [if_pos qa, List.filterMap_map]
          have : (gcF B A ∘ fun d => 5000 + d) = fun d => if isC B A d = true then some d else none := by
            funext d; exact big d
          rw [this]
          induction sdS B A c s with
          | nil => rfl
          | cons y l ih =>
            cases e : isC B A y with
            | true => rw [List.filterMap_cons_some (b := y) (by rw [e]; rfl), List.filter_cons_of_pos e, ih]
            | false => rw [List.filterMap_cons_none (by rw [e]; rfl), List.filter_cons_of_neg (by rw [e]; decide), ih]
        · rw [if_neg qa]
          by_cases qo : 4 ≤ cdN B c s ∧ cdN B c s ≤ 13 ∧ ¬ (cdN B c s = 9 ∨ cdN B c s = 10 ∨ cdN B c s = 11)
          · have e : sdS B A c s = (seN A c (cdN B c s) (vaN B c s)).toList := by unfold sdS; rw [if_neg qa, if_pos qo]
            rw [if_pos qo, e]
            cases seN A c (cdN B c s) (vaN B c s) with
            | none => rw [List.filterMap_cons_none (small _ (by decide))]; rfl
            | some y =>
              show List.filterMap (gcF B A) [5000 + y] = List.filter (isC B A) [y]
              cases e2 : isC B A y with
              | true => rw [List.filterMap_cons_some (b := y) (by rw [big, e2]; rfl), List.filter_cons_of_pos e2]; rfl
              | false => rw [List.filterMap_cons_none (by rw [big, e2]; rfl), List.filter_cons_of_neg (by rw [e2]; decide)]; rfl
          · rw [if_neg qo, sd_giv qa qo]
            rfl
theorem gc_L {W : WfB B} (f : WfA A (bT B) (bL B)) {c : Nat} (hc : c < 258) (hC : isC B A c = true) : ∀ n, n ≤ nsN B c → (idL B A c n).filterMap (gcF B A) = (sdL B A c n).filter (isC B A) := by
  intro n
  induction n with
  | zero => intro _; rfl
  | succ n ih =>
    intro hn
    rw [idL_s, sdL_s, List.filterMap_append, List.filter_append, ih (by omega), gc_S (W := W) f hc hC (by omega)]
theorem fr65 {h : AH} (W : WfB B) (f : WfA A (bT B) (bL B)) (x : Cr h B A b) {s : Nat} (me : MeR h B A s) {L : List Nat} (lk : LkR h L) (hL : L.length ≤ 1100) (l2 : Int32) : ∀ (m n k : Nat) (y : Option Nat), k + m = L.length → m < n → (∀ z, y = some z → z < 258) → f_X9_findRing_65 53 b l2 n h (ov y) (nI k) = some (ov (((L.drop k).filterMap (gcF B A)).foldl (nbR (dsG (isC B A) (rdB B A) s)) y)) := by
  intro m
  induction m with
  | zero =>
    intro n k y hk hn hy
    obtain ⟨n, rfl⟩ : ∃ j, n = j + 1 := ⟨n - 1, by omega⟩
    unfold f_X9_findRing_65
    rw [gi_53 x.1, bs, lk.1, if_pos (nI_le (by omega) (by omega)), List.drop_eq_nil_of_le (by omega)]
    rfl
  | succ m ih =>
    intro n k y hk hn hy
    obtain ⟨n, rfl⟩ : ∃ j, n = j + 1 := ⟨n - 1, by omega⟩
    have S := x.1
    have hkl : k < L.length := by omega
    obtain ⟨i, ei⟩ : ∃ z, z = L[k] := ⟨_, rfl⟩
    have hi : i < 5258 := by rw [ei]; exact lk.2.1 _ (List.getElem_mem hkl)
    have l69 : aI h 69 k = nI i := by rw [lk.2.2 k hkl, ei]
    have hdrop : L.drop k = i :: L.drop (k + 1) := by rw [ei]; exact List.drop_eq_getElem_cons hkl
    have hg : (if bI (decide (5000 ≤ i) && isC B A (i - 5000)) = 0 then some ((-1) : Int32) else Option.bind (some 69) fun x21 => Option.bind (ldI h x21 (nI k)) fun x22 => some (x22 - 5000)) = some (ov (gcF B A i)) := by
      rw [bs, ld_69 S (by omega), bs, l69]
      unfold gcF
      by_cases q : 5000 ≤ i ∧ isC B A (i - 5000) = true
      · rw [if_neg (by rw [q.2, decide_eq_true q.1]; decide), if_pos q, show nI i - 5000 = nI (i - 5000) from pk_sub (b := 5000) q.1]; rfl
      · have : (decide (5000 ≤ i) && isC B A (i - 5000)) = false := by
          cases e : isC B A (i - 5000) with
          | false => rw [Bool.and_false]
          | true => rw [Bool.and_true]; exact decide_eq_false (fun y => q ⟨y, e⟩)
        rw [this, if_pos (by decide), if_neg q]; rfl
    have hu : f_X9_findRing_65 53 b l2 (n + 1) h (ov y) (nI k) = Option.bind (if ov (gcF B A i) = (-1) then some (ov y) else if ov y = (-1) then some (ov (gcF B A i)) else Option.bind (some 74) fun x24 => Option.bind (ldI h x24 (ov (gcF B A i))) fun x25 => Option.bind (some 74) fun x26 => Option.bind (ldI h x26 (ov y)) fun x27 => if x27 ≤ x25 then some (ov y) else some (ov (gcF B A i))) fun x23 => f_X9_findRing_65 53 b l2 n h x23 (nI (k + 1)) := by
      conv => lhs; unfold f_X9_findRing_65
      rw [gi_53 S, bs, lk.1, if_neg (nI_ge hkl (by omega)), g_53_33 S, bs, ld_69 S (by omega), bs, l69, r_readsCell W f x hi, bs, hg, bs, g_53_40 S, nI_1]
    rw [hu, hdrop]
    have dlt : ∀ d, (dsG (isC B A) (rdB B A) s d).getD 258 ≤ 258 := fun d => by
      cases e : dsG (isC B A) (rdB B A) s d with
      | none => exact Nat.le_refl _
      | some j => have := (ds_s e).1; show j ≤ 258; omega
    cases eg : gcF B A i with
    | none =>
      rw [ov_n, if_pos rfl, bs, List.filterMap_cons_none eg]
      exact ih n (k + 1) y (by omega) (by omega) hy
    | some d =>
      have hd : d < 258 := by
        unfold gcF at eg
        by_cases q : 5000 ≤ i ∧ isC B A (i - 5000) = true
        · rw [if_pos q] at eg
          have := Option.some.inj eg
          omega
        · rw [if_neg q] at eg
          cases eg
      rw [List.filterMap_cons_some eg, List.foldl_cons, ov_s, if_neg (nI_nm (by omega))]
      cases y with
      | none =>
        rw [ov_n, if_pos rfl, bs]
        exact ih n (k + 1) (some d) (by omega) (by omega) (fun z hz => by cases hz; exact hd)
      | some z =>
        have hz := hy z rfl
        have d1 := dlt d
        have d2 := dlt z
        rw [ov_s, if_neg (nI_nm (by omega)), bs, ld_74 S hd, bs, bs, ld_74 S hz, bs, me d hd, me z hz]
        show Option.bind (if nI ((dsG (isC B A) (rdB B A) s z).getD 258) ≤ nI ((dsG (isC B A) (rdB B A) s d).getD 258) then some (nI z) else some (nI d)) _ = some (ov (List.foldl _ (if (dsG (isC B A) (rdB B A) s d).getD 258 < (dsG (isC B A) (rdB B A) s z).getD 258 then some d else some z) _))
        by_cases q : (dsG (isC B A) (rdB B A) s d).getD 258 < (dsG (isC B A) (rdB B A) s z).getD 258
        · rw [if_neg (nI_ge q (by omega)), if_pos q, bs]
          exact ih n (k + 1) (some d) (by omega) (by omega) (fun z hz => by cases hz; exact hd)
        · rw [if_pos (nI_le (by omega) (by omega)), if_neg q, bs]
          exact ih n (k + 1) (some z) (by omega) (by omega) hy
end RRing
