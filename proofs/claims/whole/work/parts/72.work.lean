/-! the Worker: a maker's steps -/
def Cw (h : AH) (B : BK) (A : AP) (p : Nat) (N : Nat → Int64) : Prop := Sh h ∧ RepB h B ∧ WPl h p ∧ RepC h p A ∧ aP h 49 6 = some p ∧ aP h 49 7 = some 33 ∧ ∀ d, d < 258 → aJ h 33 d = N d
theorem Cw.fq {h h' : AH} {B : BK} {A : AP} {p : Nat} {N : Nat → Int64} {P : Nat → Prop} (x : Cw h B A p N) (hp : p ≤ 16) (f : Fq h h' P) (hP : ∀ a, P a → 25 ≤ a ∧ a ≠ 33) : Cw h' B A p N := by
  obtain ⟨S, R, w, RA, e1, e2, e3⟩ := x
  have n : ∀ a, a < 25 → ¬ P a := fun a ha q => by have := hP a q; omega
  refine ⟨f.S S, f.B R (n 1 (by decide)) (n 2 (by decide)) (n 3 (by decide)) (n 4 (by decide)), ?_, f.R RA (fun a h1 h2 => n a (by omega)), by rw [f.p]; exact e1, by rw [f.p]; exact e2, fun d hd => by rw [f.j (fun q => (hP 33 q).2 rfl)]; exact e3 d hd⟩
  obtain ⟨-, e1, e2, e3, -⟩ := f
  unfold WPl
  rw [e1, e2, e3]
  exact w
theorem Cw.fw {h h' : AH} {B : BK} {A : AP} {p : Nat} {N : Nat → Int64} (x : Cw h B A p N) (hp : p ≤ 16) (f : Fw h h') : Cw h' B A p N := x.fq hp f.1 (fun a q => by omega)
theorem Cw.pl {h : AH} {B : BK} {A : AP} {p : Nat} {N : Nat → Int64} (x : Cw h B A p N) : gP h 7 49 6 = some p := gP_n (k_49 x.1) x.2.2.2.2.1
theorem Cw.nu {h : AH} {B : BK} {A : AP} {p : Nat} {N : Nat → Int64} (x : Cw h B A p N) : gP h 7 49 7 = some 33 := gP_n (k_49 x.1) x.2.2.2.2.2.1
theorem Cw.ld {h : AH} {B : BK} {A : AP} {p : Nat} {N : Nat → Int64} (x : Cw h B A p N) {d : Nat} (hd : d < 258) : ldJ h 33 (nI d) = some (N d) := by rw [ld_33 x.1 hd, x.2.2.2.2.2.2 d hd]
def giN (B : BK) (A : AP) (c s : Nat) : Int64 := if cdN B c s = 1 then (if c < 240 then (qF A (4 * owN c + vaN B c s)).toInt64 else (qL A (2 * owN c + vaN B c s)).toInt64) else if cdN B c s = 2 then (qL A (2 * lsD A c + vaN B c s)).toInt64 else if cdN B c s = 3 then (if vaN B c s = 0 then (ov (spA A (owN c))).toInt64 else (nI (qS A (lsD A c))).toInt64) else (bV B (kiN c) s).toInt64
def smN (N : Nat → Int64) (l : List Nat) : Int64 := l.foldl (fun y d => y + N d) 0
def mmJ (g : Bool) (x y : Int64) : Int64 := if g = true then mxJ x y else mnJ x y
def wk1 (B : BK) (A : AP) (N : Nat → Int64) (c s : Nat) (st : List Int64) : Except Nat (List Int64) :=
  if cdN B c s = 9 ∨ cdN B c s = 10 ∨ cdN B c s = 11 then (if cdN B c s = 9 then psJ (smN N (sdS B A c s)) st else match sdS B A c s with
      | [] => .ok st
      | d :: r => psJ (r.foldl (fun y e => mmJ (decide (cdN B c s = 10)) y (N e)) (N d)) st.tail)
  else if 4 ≤ cdN B c s ∧ cdN B c s ≤ 13 ∧ ¬ (cdN B c s = 9 ∨ cdN B c s = 10 ∨ cdN B c s = 11) then (match sdS B A c s with
      | [] => .ok st
      | d :: _ => psJ (N d) (if 0 < tkN (cdN B c s) then st.tail else st))
  else if cdN B c s ≤ 3 then psJ (giN B A c s) st else rkS (cdN B c s) st
def wkR (B : BK) (A : AP) (N : Nat → Int64) (c : Nat) : Nat → Except (Nat × Nat) (List Int64)
  | 0 => .ok []
  | n + 1 => match wkR B A N c n with
    | .error e => .error e
    | .ok st => match wk1 B A N c n st with
      | .error y => .error (y, n)
      | .ok r => .ok r
section Work
variable {h : AH} {B : BK} {A : AP} {p T Ls : Nat} {N : Nat → Int64}
theorem q_given (W : WfB B) (f : WfA A T Ls) (x : Cw h B A p N) {c s : Nat} (hc : c < 258) (hC : isC B A c = true) (hs : s < nsN B c) (h3 : cdN B c s ≤ 3) : f_X7_given h 49 (nI c) (nI (cdN B c s)) (bV B (kiN c) s) = some (giN B A c s) := by
  obtain ⟨l, l1, l2, l3⟩ := c_ls W f hc hC
  have S := x.1
  have w := x.2.2.1
  have R := x.2.2.2.1
  have how := ow_lt hc
  unfold f_X7_given giN
  rw [if_pos (k_49 S), q_ownerOf h hc, bs, x.pl, bs, q_listOf w R hc, bs, l1, ov_s, l3]
  rcases (show cdN B c s = 0 ∨ (1 ≤ cdN B c s ∧ cdN B c s ≤ 3) by omega) with q | q
  · rw [q, if_neg (show ¬ nI 0 = 1 by decide), if_neg (show ¬ nI 0 = 2 by decide), if_neg (show ¬ nI 0 = 3 by decide), if_neg (by decide), if_neg (by decide), if_neg (by decide)]
  · obtain ⟨v1, v2⟩ := ok_giv W hc hs q
    rw [v1]
    rcases v2 with ⟨k1, v3⟩ | ⟨k2, v3, v4⟩ | ⟨k3, v3⟩
    · rw [k1, if_pos (show nI 1 = 1 from rfl), if_pos rfl, q_isOfThing h hc, bs]
      by_cases q2 : c < 240
      · rw [if_pos q2] at v3
        rw [if_pos q2, if_pos q2, if_neg (by decide), bs, w.p 0 (by decide), bs, c4, w.ld 0 (by decide) (show 4 * owN c + vaN B c s < eP 0 by show _ < 160; omega), bs, bs, show aI h (p + 1 + 0) (4 * owN c + vaN B c s) = _ from R.1 _ (by omega)]
      · rw [if_neg q2] at v3
        have := ow6 q2 hc
        rw [if_neg q2, if_neg q2, if_pos rfl, bs, w.p 1 (by decide), bs, c2, w.ld 1 (by decide) (show 2 * owN c + vaN B c s < eP 1 by show _ < 12; omega), bs, bs, show aI h (p + 1 + 1) (2 * owN c + vaN B c s) = _ from R.2.1 _ (by omega)]
    · rw [k2, if_neg (show ¬ nI 2 = 1 by decide), if_pos (show nI 2 = 2 from rfl), if_neg (by decide), if_pos rfl, bs, w.p 1 (by decide), bs, c2, w.ld 1 (by decide) (show 2 * l + vaN B c s < eP 1 by show _ < 12; omega), bs, show aI h (p + 1 + 1) (2 * l + vaN B c s) = _ from R.2.1 _ (by omega)]
    · rw [k3, if_neg (show ¬ nI 3 = 1 by decide), if_neg (show ¬ nI 3 = 2 by decide), if_pos (show nI 3 = 3 from rfl), if_neg (show ¬ (3 : Nat) = 1 by decide), if_neg (show ¬ (3 : Nat) = 2 by decide), if_pos (show (3 : Nat) = 3 from rfl)]
      by_cases q2 : vaN B c s = 0
      · have q3 : c < 240 := by omega
        rw [q2, if_pos (show nI 0 = 0 from rfl), if_pos rfl, bs, w.p 4 (by decide), bs, w.ld 4 (by decide) (show owN c < eP 4 from how), bs, bs, show aI h (p + 1 + 4) (owN c) = _ from R.2.2.2.2.1 _ how]
      · rw [if_neg (show ¬ nI (vaN B c s) = 0 from nI_ne0 (by omega) (by omega)), if_neg q2, bs, w.p 6 (by decide), bs, w.ld 6 (by decide) (show l < eP 6 from l2), bs, bs, show aI h (p + 1 + 6) l = _ from R.2.2.2.2.2.2.1 l l2]
theorem tkI_n {k : Nat} (hk : k < 25) : tkI (nI k) = some (nI (tkN k)) := by
  have := (show ∀ k, k < 25 → tkI (nI k) = some (nI (tkN k)) by decide +kernel) k hk
  exact this
theorem tk3 (k : Nat) : tkN k ≤ 3 := by
  rcases Nat.lt_or_ge k 25 with q | q
  · exact (show ∀ k, k < 25 → tkN k ≤ 3 by decide +kernel) k q
  · unfold tkN
    rw [List.getD_eq_getElem?_getD, List.getElem?_eq_none (by simpa using q)]
    decide
theorem q_one (W : WfB B) (hp : p ≤ 16) (f : WfA A T Ls) (x : Cw h B A p N) {c s : Nat} (hc : c < 258) (hs : s < nsN B c) (ho : 4 ≤ cdN B c s ∧ cdN B c s ≤ 13 ∧ ¬ (cdN B c s = 9 ∨ cdN B c s = 10 ∨ cdN B c s = 11)) {st : List Int64} (w : Wk h st) (h0 : aI h 49 3 = 0) (ht : tkN (cdN B c s) ≤ st.length) (hg : st.length - tkN (cdN B c s) + gvN (cdN B c s) ≤ 8) :
    ∃ h', f_X7_lookAtOne h 49 (nI c) (nI (cdN B c s)) (bV B (kiN c) s) = some h' ∧ Fw h h' ∧ OutW h' (wk1 B A N c s st) := by
  have S := x.1
  obtain ⟨v1, v2, v3, -, -⟩ := ok_one W hc hs ho
  have qa : ¬ (cdN B c s = 9 ∨ cdN B c s = 10 ∨ cdN B c s = 11) := ho.2.2
  have hseen : f_X4_shadowSeen h p (nI c) (nI (cdN B c s)) (bV B (kiN c) s) = some (ov (seN A c (cdN B c s) (vaN B c s))) := by rw [v1]; exact q_seen x.2.2.1 x.2.2.2.1 f hc v3
  have e2 : sdS B A c s = (seN A c (cdN B c s) (vaN B c s)).toList := by unfold sdS; rw [if_neg qa, if_pos ho]
  unfold f_X7_lookAtOne wk1
  rw [if_pos (k_49 S), x.pl, bs, hseen, bs, if_neg qa, if_pos ho, e2]
  have hg1 : gvN (cdN B c s) = 1 := by
    rcases (show cdN B c s = 4 ∨ cdN B c s = 5 ∨ cdN B c s = 6 ∨ cdN B c s = 7 ∨ cdN B c s = 8 ∨ cdN B c s = 12 ∨ cdN B c s = 13 by omega) with q | q | q | q | q | q | q <;> rw [q] <;> rfl
  cases e : seN A c (cdN B c s) (vaN B c s) with
  | none => exact ⟨h, by rw [ov_n, if_pos rfl], Fw.rf _, h0, w⟩
  | some d =>
    have hd : d < 258 := sd_lt W f hc hs (by rw [e2, e]; exact List.mem_singleton.mpr rfl)
    show ∃ h', _ ∧ _ ∧ OutW h' (psJ (N d) (if 0 < tkN (cdN B c s) then st.tail else st))
    have := tk3 (cdN B c s)
    rw [ov_s, if_neg (nI_nm (by omega)), tkI_n (by omega), bs]
    by_cases q : 0 < tkN (cdN B c s)
    · obtain ⟨a, r, rfl⟩ : ∃ a r, st = a :: r := by
        cases st with
        | nil => simp at ht; omega
        | cons a r => exact ⟨a, r, rfl⟩
      obtain ⟨h1, e1, f1, n1, w1, -⟩ := q_pop S w
      have x1 := x.fw hp f1
      have hl := w.2.1
      rw [List.length_cons] at hl
      obtain ⟨h2, e3, f2, o2⟩ := q_push x1.1 w1 (by omega) (by rw [n1, h0]) (N d)
      rw [if_pos q]
      refine ⟨h2, ?_, f1.tr f2, o2⟩
      rw [if_neg (show ¬ nI (tkN (cdN B c s)) ≤ 0 from nI_nle q (by omega)), e1, bs]
      show (Option.bind (some h1) fun h5 => Option.bind (gP h5 7 49 7) fun x8 => Option.bind (ldJ h5 x8 (nI d)) fun x9 => Option.bind (f_X7_push h5 49 x9) fun h11 => some h11) = _
      rw [bs, x1.nu, bs, x1.ld hd, bs, e3, bs]
    · have q0 : tkN (cdN B c s) = 0 := by omega
      rw [hg1, q0] at hg
      obtain ⟨h2, e3, f2, o2⟩ := q_push S w (by omega) h0 (N d)
      rw [if_neg q]
      refine ⟨h2, ?_, f2, o2⟩
      rw [q0, if_pos (show nI 0 ≤ 0 by decide), bs, x.nu, bs, x.ld hd, bs, e3, bs]
theorem sum_go (f : WfA A T Ls) (x : Cw h B A p N) {l v : Nat} (hl : l < 6) (hv : v < 6) : ∀ (m n k : Nat) (y : Int64), k + m = qS A l → m < n → f_X7_lookAtAll_23 49 (nI l) (nI v) (nI (qS A l)) n h y (nI k) = some ((((List.range (qS A l)).drop k).map (fun k => 6 * qR A l k + v)).foldl (fun y d => y + N d) y) := by
  have hlen := f.len l
  intro m
  induction m with
  | zero =>
    intro n k y hk hn
    obtain ⟨n, rfl⟩ : ∃ j, n = j + 1 := ⟨n - 1, by omega⟩
    rw [List.drop_eq_nil_of_le (by simp; omega), List.map_nil, List.foldl_nil]
    unfold f_X7_lookAtAll_23
    rw [if_pos (nI_le (by omega) (by omega))]
  | succ m ih =>
    intro n k y hk hn
    obtain ⟨n, rfl⟩ : ∃ j, n = j + 1 := ⟨n - 1, by omega⟩
    have ht := f.t40 (l := l) (k := k) (by omega)
    rw [List.drop_eq_getElem_cons (i := k) (by simp; omega), List.map_cons, List.foldl_cons]
    simp only [List.getElem_range]
    rw [← ih n (k + 1) _ (by omega) (by omega)]
    conv => lhs; unfold f_X7_lookAtAll_23
    rw [if_neg (nI_ge (by omega) (by omega)), x.nu, bs, x.pl, bs, q_standsAt x.2.2.1 x.2.2.2.1 f hl (by omega), bs]
    unfold atA
    rw [if_pos (by omega), q_shadowOf, bs, x.ld (by omega), bs, nI_1]
theorem best_go (f : WfA A T Ls) (x : Cw h B A p N) {l v k0 : Nat} (hl : l < 6) (hv : v < 6) (hk0 : k0 = 10 ∨ k0 = 11) : ∀ (m n k : Nat) (y : Int64), k + m = qS A l → m < n → f_X7_lookAtAll_102 49 (nI l) (nI k0) (nI v) (nI (qS A l)) n h y (nI k) = some ((((List.range (qS A l)).drop k).map (fun k => 6 * qR A l k + v)).foldl (fun y d => mmJ (decide (k0 = 10)) y (N d)) y) := by
  have hlen := f.len l
  intro m
  induction m with
  | zero =>
    intro n k y hk hn
    obtain ⟨n, rfl⟩ : ∃ j, n = j + 1 := ⟨n - 1, by omega⟩
    rw [List.drop_eq_nil_of_le (by simp; omega), List.map_nil, List.foldl_nil]
    unfold f_X7_lookAtAll_102
    rw [if_pos (nI_le (by omega) (by omega))]
  | succ m ih =>
    intro n k y hk hn
    obtain ⟨n, rfl⟩ : ∃ j, n = j + 1 := ⟨n - 1, by omega⟩
    have ht := f.t40 (l := l) (k := k) (by omega)
    rw [List.drop_eq_getElem_cons (i := k) (by simp; omega), List.map_cons, List.foldl_cons]
    simp only [List.getElem_range]
    rw [← ih n (k + 1) _ (by omega) (by omega)]
    conv => lhs; unfold f_X7_lookAtAll_102
    rw [if_neg (nI_ge (by omega) (by omega)), x.nu, bs, x.pl, bs, q_standsAt x.2.2.1 x.2.2.2.1 f hl (by omega), bs]
    unfold atA
    rw [if_pos (by omega), q_shadowOf, bs, x.ld (by omega), bs, nI_1]
    rcases hk0 with rfl | rfl
    · rw [if_pos (show nI 10 = 10 from rfl), bs, bs]
      rfl
    · rw [if_neg (show ¬ nI 11 = 10 by decide), bs, bs]
      rfl
theorem q_all (W : WfB B) (hp : p ≤ 16) (f : WfA A T Ls) (x : Cw h B A p N) {c s : Nat} (hc : c < 258) (hC : isC B A c = true) (hs : s < nsN B c) (ho : cdN B c s = 9 ∨ cdN B c s = 10 ∨ cdN B c s = 11) {st : List Int64} (w : Wk h st) (h0 : aI h 49 3 = 0) (ht : tkN (cdN B c s) ≤ st.length) (hg : st.length - tkN (cdN B c s) + gvN (cdN B c s) ≤ 8) :
    ∃ h', f_X7_lookAtAll h 49 (nI (lsD A c)) (nI (cdN B c s)) (bV B (kiN c) s) = some h' ∧ Fw h h' ∧ OutW h' (wk1 B A N c s st) := by
  have S := x.1
  obtain ⟨v1, v2, v3⟩ := ok_all W hc hs ho
  obtain ⟨l, l1, l2, l3⟩ := c_ls W f hc hC
  have hlen := f.len l
  have e2 : sdS B A c s = (List.range (qS A l)).map (fun k => 6 * qR A l k + vaN B c s) := by unfold sdS; rw [if_pos ho, l3]
  have h25 : cdN B c s < 25 := by omega
  unfold f_X7_lookAtAll wk1
  rw [if_pos (k_49 S), x.pl, bs, x.2.2.1.p 6 (by decide), bs, l3, x.2.2.1.ld 6 (by decide) (show l < eP 6 from l2), bs, show aI h (p + 1 + 6) l = _ from x.2.2.2.1.2.2.2.2.2.2.1 l l2, if_pos ho, v1]
  by_cases q9 : cdN B c s = 9
  · rw [q9] at hg
    have hg' : st.length - 0 + 1 ≤ 8 := hg
    obtain ⟨h1, e1, f1, o1⟩ := q_push S w (by omega) h0 (smN N (sdS B A c s))
    rw [if_pos q9]
    refine ⟨h1, ?_, f1, o1⟩
    have e3 := sum_go f x l2 v2 (qS A l) FU 0 0 (by omega) (by unfold FU; omega)
    have e3' : f_X7_lookAtAll_23 49 (nI l) (nI (vaN B c s)) (nI (qS A l)) FU h 0 0 = some (smN N (sdS B A c s)) := by rw [e2]; exact e3
    rw [q9, if_pos (show nI 9 = 9 from rfl), e3', bs, e1, bs, bs]
  · have q10 : cdN B c s = 10 ∨ cdN B c s = 11 := by omega
    rw [if_neg q9, if_neg (show ¬ nI (cdN B c s) = 9 from fun e => q9 ((nI_eq (b := 9) (by omega) (by decide)).mp e)), e2]
    by_cases qn : qS A l = 0
    · rw [qn, if_pos (show nI 0 ≤ 0 by decide)]
      exact ⟨h, bs _ _, Fw.rf _, h0, w⟩
    · obtain ⟨a, r, rfl⟩ : ∃ a r, st = a :: r := by
        cases st with
        | nil =>
          have : tkN (cdN B c s) = 1 := by rcases q10 with q | q <;> rw [q] <;> rfl
          rw [this] at ht
          simp at ht
        | cons a r => exact ⟨a, r, rfl⟩
      obtain ⟨h1, e1, f1, n1, w1, -⟩ := q_pop S w
      have x1 := x.fw hp f1
      have hl := w.2.1
      rw [List.length_cons] at hl
      have ht0 := f.t40 (l := l) (k := 0) (by omega)
      have e4 : (List.range (qS A l)).map (fun k => 6 * qR A l k + vaN B c s) = (6 * qR A l 0 + vaN B c s) :: ((List.range (qS A l)).drop 1).map (fun k => 6 * qR A l k + vaN B c s) := by
        have : List.range (qS A l) = 0 :: (List.range (qS A l)).drop 1 := by
          have := List.drop_eq_getElem_cons (l := List.range (qS A l)) (i := 0) (by simp; omega)
          simpa using this
        rw [← List.map_cons (f := fun k => 6 * qR A l k + vaN B c s), ← this]
      rw [e4]
      obtain ⟨h2, e3, f2, o2⟩ := q_push x1.1 w1 (by omega) (by rw [n1, h0]) ((((List.range (qS A l)).drop 1).map (fun k => 6 * qR A l k + vaN B c s)).foldl (fun y d => mmJ (decide (cdN B c s = 10)) y (N d)) (N (6 * qR A l 0 + vaN B c s)))
      refine ⟨h2, ?_, f1.tr f2, o2⟩
      rw [if_neg (show ¬ nI (qS A l) ≤ 0 from nI_nle (by omega) (by omega)), e1, bs]
      have e5 := best_go f x1 l2 v2 q10 (qS A l - 1) FU 1 (N (6 * qR A l 0 + vaN B c s)) (by omega) (by unfold FU; omega)
      show Option.bind (Option.bind (gP h1 7 49 7) fun x7 => Option.bind (gP h1 7 49 6) fun x8 => Option.bind (f_X4_standsAt h1 x8 (nI l) 0) fun x9 => Option.bind (f_X8_shadowOf h1 x9 (nI (vaN B c s))) fun x11 => Option.bind (ldJ h1 x7 x11) fun x13 => Option.bind (f_X7_lookAtAll_102 49 (nI l) (nI (cdN B c s)) (nI (vaN B c s)) (nI (qS A l)) FU h1 x13 1) fun x24 => Option.bind (f_X7_push h1 49 x24) fun h26 => some h26) (fun h4 => some h4) = _
      rw [x1.nu, bs, x1.pl, bs, show (0 : Int32) = nI 0 from rfl, q_standsAt x1.2.2.1 x1.2.2.2.1 f l2 (by decide), bs]
      unfold atA
      rw [if_pos (by omega), q_shadowOf, bs, x1.ld (by omega), bs, show (1 : Int32) = nI 1 from rfl, e5, bs, e3, bs, bs]
/-- how many numbers a step leaves, and that they are within bounds -/
theorem bd_c {x : Int64} {t : List Int64} (h1 : bdJ x) (h2 : BdS t) : BdS (x :: t) := fun y hy => by
  rcases List.mem_cons.mp hy with q | q
  · rw [q]; exact h1
  · exact h2 y q
theorem rk_len {k : Nat} (hk : 14 ≤ k ∧ k ≤ 24) {st r : List Int64} (ht : tkN k ≤ st.length) (hb : BdS st) (h : rkS k st = .ok r) : r.length = st.length - tkN k + gvN k ∧ BdS r := by
  cases st with
  | nil => exact absurd ht (by rcases (show k = 14 ∨ k = 15 ∨ k = 16 ∨ k = 17 ∨ k = 18 ∨ k = 19 ∨ k = 20 ∨ k = 21 ∨ k = 22 ∨ k = 23 ∨ k = 24 by omega) with rfl | rfl | rfl | rfl | rfl | rfl | rfl | rfl | rfl | rfl | rfl <;> decide)
  | cons a s =>
    have ba := hb a List.mem_cons_self
    have bs1 : BdS s := fun x hx => hb x (List.mem_cons_of_mem _ hx)
    rcases (show k = 21 ∨ k = 22 ∨ k = 24 ∨ (14 ≤ k ∧ k ≤ 20) ∨ k = 23 by omega) with rfl | rfl | rfl | q
    · have h' : (if a = 0 then (Except.ok s : Except Nat (List Int64)) else .error 2) = .ok r := h
      split at h'
      · cases h'; exact ⟨rfl, bs1⟩
      · cases h'
    · have h' : (Except.ok (a :: a :: s) : Except Nat (List Int64)) = .ok r := h
      cases h'
      exact ⟨rfl, bd_c ba (bd_c ba bs1)⟩
    · have h' : (Except.ok s : Except Nat (List Int64)) = .ok r := h
      cases h'
      exact ⟨rfl, bs1⟩
    · cases s with
      | nil => 
        have h3 : tkN k ≤ 1 := ht
        rcases (show k = 14 ∨ k = 15 ∨ k = 16 ∨ k = 17 ∨ k = 18 ∨ k = 19 ∨ k = 20 ∨ k = 23 by omega) with rfl | rfl | rfl | rfl | rfl | rfl | rfl | rfl <;> exact absurd h3 (by decide)
      | cons b t =>
        have bb := bs1 b List.mem_cons_self
        have bt : BdS t := fun x hx => bs1 x (List.mem_cons_of_mem _ hx)
        have ps : ∀ {x : Int64} {u : List Int64}, BdS u → psJ x u = .ok r → r.length = u.length + 1 ∧ BdS r := fun hu e => by
          obtain ⟨e1, e2⟩ := ps_in e
          rw [e1]
          exact ⟨rfl, bd_c e2 hu⟩
        rcases (show k = 14 ∨ k = 15 ∨ k = 16 ∨ k = 17 ∨ k = 18 ∨ k = 19 ∨ k = 20 ∨ k = 23 by omega) with rfl | rfl | rfl | rfl | rfl | rfl | rfl | rfl
        · exact ps bt (show psJ (b + a) t = .ok r from h)
        · exact ps bt (show psJ (b - a) t = .ok r from h)
        · have h' : (if b = 0 then psJ (b * a) t else if abJ a ≤ LM / abJ b then psJ (b * a) t else .error 3) = .ok r := h
          split at h'
          · exact ps bt h'
          · split at h'
            · exact ps bt h'
            · cases h'
        · have h' : (if a = 0 then .error 1 else psJ (b / a) t) = .ok r := h
          split at h'
          · cases h'
          · exact ps bt h'
        · exact ps bt (show psJ (mnJ b a) t = .ok r from h)
        · exact ps bt (show psJ (mxJ b a) t = .ok r from h)
        · cases t with
          | nil => have h3 : (3 : Nat) ≤ 2 := ht; omega
          | cons c u => exact ps (fun x hx => bt x (List.mem_cons_of_mem _ hx)) (show psJ (if c ≤ 0 then a else b) u = .ok r from h)
        · have h' : (Except.ok (b :: a :: t) : Except Nat (List Int64)) = .ok r := h
          cases h'
          exact ⟨rfl, bd_c bb (bd_c ba bt)⟩
theorem wk_len (W : WfB B) (f : WfA A T Ls) {c s : Nat} (hc : c < 258) (hC : isC B A c = true) (hs : s < nsN B c) {st r : List Int64} (ht : tkN (cdN B c s) ≤ st.length) (hb : BdS st) (h : wk1 B A N c s st = .ok r) : r.length = st.length - tkN (cdN B c s) + gvN (cdN B c s) ∧ BdS r := by
  have h25 : cdN B c s < 25 := (ok_at W hc hs).c
  have ps : ∀ {x : Int64} {u : List Int64}, BdS u → psJ x u = .ok r → r.length = u.length + 1 ∧ BdS r := fun hu e => by
    obtain ⟨e1, e2⟩ := ps_in e
    rw [e1]
    exact ⟨rfl, bd_c e2 hu⟩
  have tl : BdS st.tail := fun x hx => hb x (List.mem_of_mem_tail hx)
  unfold wk1 at h
  by_cases qa : cdN B c s = 9 ∨ cdN B c s = 10 ∨ cdN B c s = 11
  · rw [if_pos qa] at h
    by_cases q9 : cdN B c s = 9
    · rw [if_pos q9] at h
      rw [q9]
      obtain ⟨e1, e2⟩ := ps hb h
      exact ⟨by rw [e1]; rfl, e2⟩
    · rw [if_neg q9] at h
      have t1 : tkN (cdN B c s) = 1 ∧ gvN (cdN B c s) = 1 := by
        rcases (show cdN B c s = 10 ∨ cdN B c s = 11 by omega) with q | q <;> rw [q] <;> exact ⟨rfl, rfl⟩
      rw [t1.1] at ht
      rw [t1.1, t1.2]
      split at h
      · cases h; exact ⟨by omega, hb⟩
      · obtain ⟨e1, e2⟩ := ps tl h
        exact ⟨by rw [e1, List.length_tail], e2⟩
  · rw [if_neg qa] at h
    by_cases qo : 4 ≤ cdN B c s ∧ cdN B c s ≤ 13 ∧ ¬ (cdN B c s = 9 ∨ cdN B c s = 10 ∨ cdN B c s = 11)
    · rw [if_pos qo] at h
      have t1 : (tkN (cdN B c s) = 1 ∨ tkN (cdN B c s) = 0 ∧ (cdN B c s = 4 ∨ cdN B c s = 8)) ∧ gvN (cdN B c s) = 1 := by
        rcases (show cdN B c s = 4 ∨ cdN B c s = 5 ∨ cdN B c s = 6 ∨ cdN B c s = 7 ∨ cdN B c s = 8 ∨ cdN B c s = 12 ∨ cdN B c s = 13 by omega) with q | q | q | q | q | q | q <;> rw [q] <;> decide
      rw [t1.2]
      rcases t1.1 with t2 | ⟨t2, t3⟩
      · rw [t2] at ht h ⊢
        split at h
        · cases h; exact ⟨by omega, hb⟩
        · rw [if_pos (by decide)] at h
          obtain ⟨e1, e2⟩ := ps tl h
          exact ⟨by rw [e1, List.length_tail], e2⟩
      · rw [t2] at ht h ⊢
        split at h
        · rename_i e
          exfalso
          unfold sdS at e
          rw [if_neg qa, if_pos qo] at e
          have e' : seN A c (cdN B c s) (vaN B c s) = none := by simpa using e
          obtain ⟨l, l1, -, -⟩ := c_ls W f hc hC
          unfold seN at e'
          rcases t3 with q | q
          · rw [if_pos q] at e'; cases e'
          · rw [if_neg (by omega), l1] at e'
            have e2 : (if cdN B c s = 8 then some (240 + 3 * l + (vaN B c s - 6)) else (thN A l c (cdN B c s)).map (fun t => 6 * t + vaN B c s)) = none := e'
            rw [if_pos q] at e2
            cases e2
        · rw [if_neg (by decide)] at h
          obtain ⟨e1, e2⟩ := ps hb h
          exact ⟨by rw [e1]; rfl, e2⟩
    · rw [if_neg qo] at h
      by_cases q3 : cdN B c s ≤ 3
      · rw [if_pos q3] at h
        obtain ⟨e1, e2⟩ := ps hb h
        refine ⟨?_, e2⟩
        rw [e1]
        rcases (show cdN B c s = 0 ∨ cdN B c s = 1 ∨ cdN B c s = 2 ∨ cdN B c s = 3 by omega) with q | q | q | q <;> rw [q] <;> rfl
      · rw [if_neg q3] at h
        exact rk_len (by omega) ht hb h
theorem ps_err {x : Int64} {st : List Int64} {y : Nat} (h : psJ x st = .error y) : y = 3 := by
  unfold psJ at h
  split at h
  · cases h; rfl
  · cases h
theorem rk_err {k : Nat} (hk : 14 ≤ k ∧ k ≤ 24) {st : List Int64} {y : Nat} (h : rkS k st = .error y) : y = 1 ∨ y = 2 ∨ y = 3 := by
  have ps : ∀ {x : Int64} {u : List Int64}, psJ x u = .error y → y = 1 ∨ y = 2 ∨ y = 3 := fun e => Or.inr (Or.inr (ps_err e))
  cases st with
  | nil => cases h
  | cons a s =>
    rcases (show k = 21 ∨ k = 22 ∨ k = 24 ∨ (14 ≤ k ∧ k ≤ 20) ∨ k = 23 by omega) with rfl | rfl | rfl | q
    · have h' : (if a = 0 then (Except.ok s : Except Nat (List Int64)) else .error 2) = .error y := h
      split at h'
      · cases h'
      · cases h'; exact Or.inr (Or.inl rfl)
    · have h' : (Except.ok (a :: a :: s) : Except Nat (List Int64)) = .error y := h
      cases h'
    · have h' : (Except.ok s : Except Nat (List Int64)) = .error y := h
      cases h'
    · cases s with
      | nil =>
        rcases (show k = 14 ∨ k = 15 ∨ k = 16 ∨ k = 17 ∨ k = 18 ∨ k = 19 ∨ k = 20 ∨ k = 23 by omega) with rfl | rfl | rfl | rfl | rfl | rfl | rfl | rfl
        all_goals
          have h' : (Except.ok [] : Except Nat (List Int64)) = .error y := h
          cases h'
      | cons b t =>
        rcases (show k = 14 ∨ k = 15 ∨ k = 16 ∨ k = 17 ∨ k = 18 ∨ k = 19 ∨ k = 20 ∨ k = 23 by omega) with rfl | rfl | rfl | rfl | rfl | rfl | rfl | rfl
        · exact ps (show psJ (b + a) t = .error y from h)
        · exact ps (show psJ (b - a) t = .error y from h)
        · have h' : (if b = 0 then psJ (b * a) t else if abJ a ≤ LM / abJ b then psJ (b * a) t else .error 3) = .error y := h
          split at h'
          · exact ps h'
          · split at h'
            · exact ps h'
            · cases h'; exact Or.inr (Or.inr rfl)
        · have h' : (if a = 0 then .error 1 else psJ (b / a) t) = .error y := h
          split at h'
          · cases h'; exact Or.inl rfl
          · exact ps h'
        · exact ps (show psJ (mnJ b a) t = .error y from h)
        · exact ps (show psJ (mxJ b a) t = .error y from h)
        · cases t with
          | nil =>
            have h' : (Except.ok [] : Except Nat (List Int64)) = .error y := h
            cases h'
          | cons c u => exact ps (show psJ (if c ≤ 0 then a else b) u = .error y from h)
        · have h' : (Except.ok (b :: a :: t) : Except Nat (List Int64)) = .error y := h
          cases h'
theorem wk_err {c s : Nat} (h25 : cdN B c s < 25) {st : List Int64} {y : Nat} (h : wk1 B A N c s st = .error y) : y = 1 ∨ y = 2 ∨ y = 3 := by
  have ps : ∀ {x : Int64} {u : List Int64}, psJ x u = .error y → y = 1 ∨ y = 2 ∨ y = 3 := fun e => Or.inr (Or.inr (ps_err e))
  unfold wk1 at h
  split at h
  · split at h
    · exact ps h
    · split at h
      · cases h
      · exact ps h
  · split at h
    · split at h
      · cases h
      · exact ps h
    · split at h
      · exact ps h
      · exact rk_err (by omega) h
/-- the depth before a step -/
theorem dp_s {f : Nat → Nat} (s : Nat) : dpN f (s + 1) = dpN f s - tkN (f s) + gvN (f s) := rfl
theorem wkR_len (W : WfB B) (f : WfA A T Ls) {c : Nat} (hc : c < 258) (hC : isC B A c = true) : ∀ n, n ≤ nsN B c → ∀ st, wkR B A N c n = .ok st → st.length = dpN (bC B (kiN c)) n ∧ BdS st := by
  intro n
  induction n with
  | zero => intro _ st h; cases h; exact ⟨rfl, fun x hx => by simp at hx⟩
  | succ n ih =>
    intro hn st h
    unfold wkR at h
    split at h
    · cases h
    · rename_i st1 e1
      obtain ⟨i1, i2⟩ := ih (by omega) st1 e1
      have hok := (W.2.2 (kiN c) ki9).2.1 n (by unfold nsN at hn; omega)
      split at h
      · cases h
      · rename_i r e2
        cases h
        have ht : tkN (cdN B c n) ≤ st1.length := by rw [i1]; exact hok.2.1
        obtain ⟨a, b⟩ := wk_len W f hc hC (by omega) ht i2 e2
        refine ⟨?_, b⟩
        rw [a, i1]
        rfl
set_option maxHeartbeats 400000 in
/-- the steps from s on -/
theorem work33 (W : WfB B) (hp : p ≤ 16) (f : WfA A T Ls) {c : Nat} (hc : c < 258) (hC : isC B A c = true) : ∀ (m n : Nat) (h : AH) (s : Nat) (st : List Int64), s + m = nsN B c → m < n → Cw h B A p N → wkR B A N c s = .ok st → Wk h st → aI h 49 3 = 0 →
    ∃ h', Fq h h' (fun a => a = 49 ∨ a = 50) ∧ ((∃ y k, f_X7_work_33 49 (nI c) (nI (nsN B c)) n h (nI s) = some (.inl (0, h')) ∧ wkR B A N c (nsN B c) = .error (y, k) ∧ aI h' 49 3 = nI y ∧ aI h' 49 4 = nI k ∧ k < 24) ∨ ∃ r, f_X7_work_33 49 (nI c) (nI (nsN B c)) n h (nI s) = some (.inr h') ∧ wkR B A N c (nsN B c) = .ok r ∧ Wk h' r) := by
  have h24 := n24 W c
  intro m
  induction m with
  | zero =>
    intro n h s st hk hn x e w h0
    obtain ⟨n, rfl⟩ : ∃ j, n = j + 1 := ⟨n - 1, by omega⟩
    refine ⟨h, Fq.rf _ _, Or.inr ⟨st, ?_, by rw [show nsN B c = s by omega]; exact e, w⟩⟩
    unfold f_X7_work_33
    rw [if_pos (nI_le (by omega) (by omega))]
  | succ m ih =>
    intro n h s st hk hn x e w h0
    obtain ⟨n, rfl⟩ : ∃ j, n = j + 1 := ⟨n - 1, by omega⟩
    have hs : s < nsN B c := by omega
    have h25 : cdN B c s < 25 := (ok_at W hc hs).c
    have hok := (W.2.2 (kiN c) ki9).2.1 s hs
    obtain ⟨i1, i2⟩ := wkR_len W f hc hC s (by omega) st e
    have ht : tkN (cdN B c s) ≤ st.length := by rw [i1]; exact hok.2.1
    have hg : st.length - tkN (cdN B c s) + gvN (cdN B c s) ≤ 8 := by rw [i1]; exact hok.2.2
    obtain ⟨h1, eh1⟩ : ∃ y, y = sI h 49 4 (nI s) := ⟨_, rfl⟩
    have f1 : Fq h h1 (fun a => a = 49 ∨ a = 50) := by rw [eh1]; exact Fq.si (Or.inl rfl)
    have x1 := x.fq hp f1 (fun a q => by omega)
    have S1 := x1.1
    have w1 : Wk h1 st := by rw [eh1]; exact ⟨by rw [sI_I, if_neg (by omega)]; exact w.1, w.2⟩
    have z1 : aI h1 49 3 = 0 := by rw [eh1, sI_I, if_neg (by omega)]; exact h0
    have s1 : aI h1 49 4 = nI s := by rw [eh1, sI_I, if_pos ⟨rfl, rfl⟩]
    have hu : f_X7_work_33 49 (nI c) (nI (nsN B c)) (n + 1) h (nI s) = Option.bind (if (if cdN B c s = 9 ∨ cdN B c s = 10 ∨ cdN B c s = 11 then (1 : Int32) else 0) = 0 then Option.bind (some (if 4 ≤ cdN B c s ∧ cdN B c s ≤ 13 ∧ ¬ (cdN B c s = 9 ∨ cdN B c s = 10 ∨ cdN B c s = 11) then (1 : Int32) else 0)) fun x18 => if x18 = 0 then if 3 < nI (cdN B c s) then Option.bind (f_X7_reckon h1 49 (nI (cdN B c s))) fun h21 => some h21 else Option.bind (f_X7_given h1 49 (nI c) (nI (cdN B c s)) (bV B (kiN c) s)) fun x22 => Option.bind (f_X7_push h1 49 x22) fun h25 => some h25
        else Option.bind (f_X7_lookAtOne h1 49 (nI c) (nI (cdN B c s)) (bV B (kiN c) s)) fun h27 => some h27 else Option.bind (gP h1 7 49 6) fun x28 => Option.bind (f_X4_listOf h1 x28 (nI c)) fun x29 => Option.bind (f_X7_lookAtAll h1 49 x29 (nI (cdN B c s)) (bV B (kiN c) s)) fun h32 => some h32) fun h17 => Option.bind (gI h17 7 49 3) fun x33 => if x33 = 0 then f_X7_work_33 49 (nI c) (nI (nsN B c)) n h17 (nI (s + 1)) else some (.inl (0, h17)) := by
      conv => lhs; unfold f_X7_work_33
      have hco : f_X0_codeOf h1 1 (nI c) (nI s) = some (nI (cdN B c s)) := q_codeOf S1 W x1.2.1 hc hs
      rw [if_neg (nI_ge hs (by omega)), pi_49 x.1, bs, ← eh1, g_49_0 S1, bs, hco, bs, bs, q_valueOf S1 W x1.2.1 hc hs, bs, q_isOverAll h1 h25, bs, q_isOverOne h1 h25, nI_1]
    have key : ∃ h2, Fw h1 h2 ∧ OutW h2 (wk1 B A N c s st) ∧ f_X7_work_33 49 (nI c) (nI (nsN B c)) (n + 1) h (nI s) = Option.bind (gI h2 7 49 3) fun x33 => if x33 = 0 then f_X7_work_33 49 (nI c) (nI (nsN B c)) n h2 (nI (s + 1)) else some (.inl (0, h2)) := by
      rw [hu]
      by_cases qa : cdN B c s = 9 ∨ cdN B c s = 10 ∨ cdN B c s = 11
      · obtain ⟨l, l1, l2, l3⟩ := c_ls W f hc hC
        obtain ⟨h2, e2, f2, o2⟩ := q_all W hp f x1 hc hC hs qa w1 z1 ht hg
        refine ⟨h2, f2, o2, ?_⟩
        rw [l3] at e2
        rw [if_pos qa, if_neg (by decide), x1.pl, bs, q_listOf x1.2.2.1 x1.2.2.2.1 hc, bs, l1, ov_s, e2, bs, bs]
      · by_cases qo : 4 ≤ cdN B c s ∧ cdN B c s ≤ 13 ∧ ¬ (cdN B c s = 9 ∨ cdN B c s = 10 ∨ cdN B c s = 11)
        · obtain ⟨h2, e2, f2, o2⟩ := q_one W hp f x1 hc hs qo w1 z1 ht hg
          refine ⟨h2, f2, o2, ?_⟩
          rw [if_neg qa, if_pos rfl, bs, if_pos qo, if_neg (by decide), e2, bs, bs]
        · by_cases q3 : cdN B c s ≤ 3
          · have hz : tkN (cdN B c s) = 0 ∧ gvN (cdN B c s) = 1 := by
              rcases (show cdN B c s = 0 ∨ cdN B c s = 1 ∨ cdN B c s = 2 ∨ cdN B c s = 3 by omega) with q | q | q | q <;> rw [q] <;> exact ⟨rfl, rfl⟩
            obtain ⟨h2, e2, f2, o2⟩ := q_push S1 w1 (by omega) z1 (giN B A c s)
            refine ⟨h2, f2, ?_, ?_⟩
            · unfold wk1
              rw [if_neg qa, if_neg qo, if_pos q3]
              exact o2
            · rw [if_neg qa, if_pos rfl, bs, if_neg qo, if_pos rfl, if_neg (show ¬ (3 : Int32) < nI (cdN B c s) from nI_nlt (a := 3) q3 (by decide)), q_given W f x1 hc hC hs q3, bs, e2, bs, bs]
          · obtain ⟨h2, e2, f2, o2⟩ := q_reckon S1 w1 i2 z1 (k := cdN B c s) (by omega) ht hg
            refine ⟨h2, f2, ?_, ?_⟩
            · unfold wk1
              rw [if_neg qa, if_neg qo, if_neg q3]
              exact o2
            · rw [if_neg qa, if_pos rfl, bs, if_neg qo, if_pos rfl, if_pos (show (3 : Int32) < nI (cdN B c s) from nI_lt (a := 3) (by omega) (by omega)), e2, bs, bs]
    obtain ⟨h2, f2, o2, e2⟩ := key
    have x2 := x1.fw hp f2
    rw [e2, gi_49 x2.1, bs]
    cases er : wk1 B A N c s st with
    | error y =>
      rw [er] at o2
      have o2' : aI h2 49 3 = nI y := o2
      have ey : wkR B A N c (s + 1) = .error (y, s) := by
        unfold wkR
        rw [e]
        simp only []
        rw [er]
      have eall : ∀ k, wkR B A N c (s + 1 + k) = .error (y, s) := by
        intro k
        induction k with
        | zero => exact ey
        | succ k ih2 =>
          show wkR B A N c (s + 1 + k + 1) = _
          unfold wkR
          rw [ih2]
      have hy : nI y ≠ 0 := by
        have hy3 : y = 1 ∨ y = 2 ∨ y = 3 := wk_err h25 er
        rcases hy3 with q | q | q <;> rw [q] <;> decide
      refine ⟨h2, f1.tr f2.1, Or.inl ⟨y, s, ?_, ?_, o2', by rw [f2.2]; exact s1, by omega⟩⟩
      · rw [o2', if_neg hy]
      · have := eall (nsN B c - (s + 1))
        rw [show s + 1 + (nsN B c - (s + 1)) = nsN B c by omega] at this
        exact this
    | ok r =>
      rw [er] at o2
      obtain ⟨o3, o4⟩ := o2
      have er2 : wkR B A N c (s + 1) = .ok r := by
        unfold wkR
        rw [e]
        simp only []
        rw [er]
      rw [o3, if_pos rfl]
      obtain ⟨h3, f3, r3⟩ := ih n h2 (s + 1) r (by omega) (by omega) x2 er2 o4 o3
      exact ⟨h3, (f1.tr f2.1).tr f3, r3⟩
end Work
