/-! Reads: which cells each cell reads -/
def Cx (h : AH) (B : BK) (A : AP) (p : Nat) : Prop := Sh h ∧ RepB h B ∧ WPl h p ∧ RepC h p A ∧ aP h 34 12 = some p
theorem Cx.fq {h h' : AH} {B : BK} {A : AP} {p : Nat} {P : Nat → Prop} (x : Cx h B A p) (hp : p ≤ 16) (f : Fq h h' P) (hP : ∀ a, P a → 25 ≤ a) : Cx h' B A p := by
  obtain ⟨S, R, w, RA, e⟩ := x
  have n : ∀ a, a < 25 → ¬ P a := fun a ha q => by have := hP a q; omega
  refine ⟨f.S S, f.B R (n 1 (by decide)) (n 2 (by decide)) (n 3 (by decide)) (n 4 (by decide)), ?_, f.R RA (fun a h1 h2 => n a (by omega)), by rw [f.p]; exact e⟩
  obtain ⟨-, e1, e2, e3, -⟩ := f
  unfold WPl
  rw [e1, e2, e3]
  exact w
theorem Cx.pl {h : AH} {B : BK} {A : AP} {p : Nat} (x : Cx h B A p) : gP h 5 34 12 = some p := gP_n (k_34 x.1) x.2.2.2.2
/-- the bits of the reads -/
def Bt (h : AH) (X : Nat → Nat → Bool) : Prop := ∀ c d, c < 258 → d < 320 → hb (aJ h 35) (5 * c) d = X c d
section Gather
variable {h : AH} {B : BK} {A : AP} {p T Ls : Nat}
theorem d64 {d : Nat} (hd : d < 2 ^ 31) : nI d / 64 = nI (d / 64) := pk_div (d := 64) hd (by decide) (by decide)
theorem q_addRead (W : WfB B) (x : Cx h B A p) {c d : Nat} (hc : c < 258) (hd : d < 258) {X : Nat → Nat → Bool} (b : Bt h X) : ∃ h', f_X5_addRead h 34 (nI c) (nI d) = some h' ∧ Fq h h' (fun a => a = 35) ∧ Bt h' (fun c' e => X c' e || (decide (c' = c) && decide (e = d) && isC B A d)) := by
  have S := x.1
  have e0 : f_X5_addRead h 34 (nI c) (nI d) = if isC B A d = true then some (sJ h 35 (5 * c + d / 64) (aJ h 35 (5 * c + d / 64) ||| b1 (d % 64))) else some h := by
    unfold f_X5_addRead
    rw [if_pos (k_34 S), if_neg (nI_nm (by omega)), g_34_0 S, bs, x.pl, bs, q_isCell S W x.2.1 x.2.2.1 x.2.2.2.1 hd, bs]
    cases e : isC B A d with
    | false => rfl
    | true =>
      rw [if_pos rfl, if_neg (by decide), g_34_1 S, bs, d64 (by omega), c5, ld_35 S (by omega), bs, q_bitOf h (by omega), bs, st_35 S (by omega), bs, bs]
      rfl
  cases e : isC B A d with
  | false =>
    rw [e] at e0
    refine ⟨h, e0, Fq.rf _ _, fun c' e' h1 h2 => ?_⟩
    rw [b c' e' h1 h2]
    simp
  | true =>
    rw [e] at e0
    refine ⟨_, e0, Fq.sj rfl, fun c' e' h1 h2 => ?_⟩
    have hg : ∀ i, aJ (sJ h 35 (5 * c + d / 64) (aJ h 35 (5 * c + d / 64) ||| b1 (d % 64))) 35 i = if i = 5 * c + d / 64 then aJ h 35 i ||| b1 (d % 64) else aJ h 35 i := by
      intro i
      rw [sJ_J]
      by_cases q : i = 5 * c + d / 64
      · subst q; rw [if_pos ⟨rfl, rfl⟩, if_pos rfl]
      · rw [if_neg (fun y => q y.2), if_neg q]
    by_cases q : c' = c
    · subst q
      rw [hb_set hg, b c' e' h1 h2]
      simp
    · rw [hb_set_ne (by omega) hg h2 q, b c' e' h1 h2]
      simp [q]
/-- a row of reads -/
def adX (B : BK) (A : AP) (X : Nat → Nat → Bool) (c : Nat) (l : List Nat) : Nat → Nat → Bool := fun c' e => X c' e || (decide (c' = c) && l.contains e && isC B A e)
theorem adX_nil (X : Nat → Nat → Bool) (c : Nat) : adX B A X c [] = X := by
  funext c' e
  simp [adX]
theorem adX_app (X : Nat → Nat → Bool) (c : Nat) (l m : List Nat) : adX B A (adX B A X c l) c m = adX B A X c (l ++ m) := by
  funext c' e
  unfold adX
  have : (l ++ m).contains e = (l.contains e || m.contains e) := by
    rw [Bool.eq_iff_iff]
    simp
  rw [this]
  cases X c' e <;> cases decide (c' = c) <;> cases l.contains e <;> cases m.contains e <;> cases isC B A e <;> rfl
theorem adX_one (X : Nat → Nat → Bool) (c d : Nat) : (fun c' e => X c' e || (decide (c' = c) && decide (e = d) && isC B A d)) = adX B A X c [d] := by
  funext c' e
  unfold adX
  by_cases q : e = d
  · subst q; simp
  · simp [q]
theorem q_gather71 (W : WfB B) (f : WfA A T Ls) (hp : p ≤ 16) {c l v : Nat} (hc : c < 258) (hl : l < 6) (hv : v < 6) (l2 l3 : Int32) : ∀ (m n : Nat) (h : AH) (X : Nat → Nat → Bool) (k : Nat), k + m = qS A l → m < n → Cx h B A p → Bt h X →
    ∃ h', f_X5_gather_71 34 (nI c) l2 l3 (nI v) (nI l) n h (nI k) = some h' ∧ Fq h h' (fun a => a = 35) ∧ Bt h' (adX B A X c (((List.range (qS A l)).drop k).map (fun k => 6 * qR A l k + v))) := by
  have hlen := f.len l
  intro m
  induction m with
  | zero =>
    intro n h X k hk hn x b
    obtain ⟨n, rfl⟩ : ∃ j, n = j + 1 := ⟨n - 1, by omega⟩
    refine ⟨h, ?_, Fq.rf _ _, ?_⟩
    · unfold f_X5_gather_71
      rw [x.pl, bs, x.2.2.1.p 6 (by decide), bs, x.2.2.1.ld 6 (by decide) (show l < eP 6 from hl), bs, show aI h (p + 1 + 6) l = _ from x.2.2.2.1.2.2.2.2.2.2.1 l hl, if_pos (nI_le (by omega) (by omega))]
    · rw [List.drop_eq_nil_of_le (by simp; omega)]
      rw [List.map_nil, adX_nil]
      exact b
  | succ m ih =>
    intro n h X k hk hn x b
    obtain ⟨n, rfl⟩ : ∃ j, n = j + 1 := ⟨n - 1, by omega⟩
    have ht := f.t40 (l := l) (k := k) (by omega)
    obtain ⟨h1, e1, f1, b1⟩ := q_addRead W x hc (d := 6 * qR A l k + v) (by omega) b
    obtain ⟨h2, e2, f2, b2⟩ := ih n h1 _ (k + 1) (by omega) (by omega) (x.fq hp f1 (fun a q => by omega)) b1
    refine ⟨h2, ?_, f1.tr f2, ?_⟩
    · unfold f_X5_gather_71
      rw [x.pl, bs, x.2.2.1.p 6 (by decide), bs, x.2.2.1.ld 6 (by decide) (show l < eP 6 from hl), bs, show aI h (p + 1 + 6) l = _ from x.2.2.2.1.2.2.2.2.2.2.1 l hl, if_neg (nI_ge (by omega) (by omega)), bs, q_standsAt x.2.2.1 x.2.2.2.1 f hl (by omega), bs]
      unfold atA
      rw [if_pos (by omega), q_shadowOf, bs, e1, bs, nI_1, e2]
    · rw [adX_one, adX_app] at b2
      rw [List.drop_eq_getElem_cons (i := k) (by simp; omega), List.map_cons]
      simpa using b2
/-- one step -/
theorem q_gather23 (W : WfB B) (f : WfA A T Ls) (hp : p ≤ 16) {c : Nat} (hc : c < 258) (hC : isC B A c = true) : ∀ (m n : Nat) (h : AH) (X : Nat → Nat → Bool) (s : Nat), s + m = nsN B c → m < n → Cx h B A p → Bt h (adX B A X c (sdL B A c s)) →
    ∃ h', f_X5_gather_23 34 (nI c) (nI (nsN B c)) n h (nI s) = some h' ∧ Fq h h' (fun a => a = 35) ∧ Bt h' (adX B A X c (sdL B A c (nsN B c))) := by
  have h24 := n24 W c
  intro m
  induction m with
  | zero =>
    intro n h X s hk hn x b
    obtain ⟨n, rfl⟩ : ∃ j, n = j + 1 := ⟨n - 1, by omega⟩
    refine ⟨h, ?_, Fq.rf _ _, ?_⟩
    · unfold f_X5_gather_23
      rw [if_pos (nI_le (by omega) (by omega))]
    · rw [show nsN B c = s by omega]
      exact b
  | succ m ih =>
    intro n h X s hk hn x b
    obtain ⟨n, rfl⟩ : ∃ j, n = j + 1 := ⟨n - 1, by omega⟩
    have hs : s < nsN B c := by omega
    have S := x.1
    have h25 : cdN B c s < 25 := (ok_at W hc hs).c
    have key : ∃ h', Fq h h' (fun a => a = 35) ∧ Bt h' (adX B A X c (sdL B A c (s + 1))) ∧ f_X5_gather_23 34 (nI c) (nI (nsN B c)) (n + 1) h (nI s) = f_X5_gather_23 34 (nI c) (nI (nsN B c)) n h' (nI (s + 1)) := by
      have hu : f_X5_gather_23 34 (nI c) (nI (nsN B c)) (n + 1) h (nI s) = Option.bind (if (if cdN B c s = 9 ∨ cdN B c s = 10 ∨ cdN B c s = 11 then (1 : Int32) else 0) = 0 then
          Option.bind (some (if 4 ≤ cdN B c s ∧ cdN B c s ≤ 13 ∧ ¬ (cdN B c s = 9 ∨ cdN B c s = 10 ∨ cdN B c s = 11) then (1 : Int32) else 0)) fun x16 => if x16 = 0 then some h else Option.bind (gP h 5 34 12) fun x18 => Option.bind (f_X4_shadowSeen h x18 (nI c) (nI (cdN B c s)) (bV B (kiN c) s)) fun x19 => Option.bind (f_X5_addRead h 34 (nI c) x19) fun h22 => some h22
          else Option.bind (gP h 5 34 12) fun x23 => Option.bind (f_X4_listOf h x23 (nI c)) fun x24 => Option.bind (f_X5_gather_71 34 (nI c) (nI (nsN B c)) (nI s) (bV B (kiN c) s) x24 FU h 0) fun h36 => some h36) fun h15 => f_X5_gather_23 34 (nI c) (nI (nsN B c)) n h15 (nI (s + 1)) := by
        conv => lhs; unfold f_X5_gather_23
        have hco : f_X0_codeOf h 1 (nI c) (nI s) = some (nI (cdN B c s)) := q_codeOf S W x.2.1 hc hs
        rw [if_neg (nI_ge hs (by omega)), g_34_0 S, bs, hco, bs, bs, q_valueOf S W x.2.1 hc hs, bs, q_isOverAll h h25, bs, q_isOverOne h h25, nI_1]
      rw [hu, sdL_s]
      by_cases qa : cdN B c s = 9 ∨ cdN B c s = 10 ∨ cdN B c s = 11
      · obtain ⟨v1, v2, v3⟩ := ok_all W hc hs qa
        obtain ⟨l, l1, l2, l3⟩ := c_ls W f hc hC
        have hlen := f.len l
        obtain ⟨h1, e1, f1, g1⟩ := q_gather71 W f hp hc l2 v2 (nI (nsN B c)) (nI s) (qS A l) FU h _ 0 (by omega) (by unfold FU; omega) x b
        refine ⟨h1, f1, ?_, ?_⟩
        · rw [adX_app] at g1
          unfold sdS
          rw [if_pos qa, l3]
          exact g1
        · rw [if_pos qa, if_neg (by decide), x.pl, bs, q_listOf x.2.2.1 x.2.2.2.1 hc, bs, l1, ov_s, v1, show (0 : Int32) = nI 0 from rfl, e1, bs, bs]
      · by_cases qo : 4 ≤ cdN B c s ∧ cdN B c s ≤ 13 ∧ ¬ (cdN B c s = 9 ∨ cdN B c s = 10 ∨ cdN B c s = 11)
        · obtain ⟨v1, v2, v3, -, -⟩ := ok_one W hc hs qo
          have hseen : f_X4_shadowSeen h p (nI c) (nI (cdN B c s)) (bV B (kiN c) s) = some (ov (seN A c (cdN B c s) (vaN B c s))) := by rw [v1]; exact q_seen x.2.2.1 x.2.2.2.1 f hc v3
          cases e : seN A c (cdN B c s) (vaN B c s) with
          | none =>
            refine ⟨h, Fq.rf _ _, ?_, ?_⟩
            · have e2 : sdS B A c s = [] := by unfold sdS; rw [if_neg qa, if_pos qo, e]; rfl
              rw [e2, List.append_nil]
              exact b
            · rw [if_neg qa, if_pos rfl, bs, if_pos qo, if_neg (by decide), x.pl, bs, hseen, e, ov_n, bs]
              unfold f_X5_addRead
              rw [if_pos (k_34 S), if_pos rfl, bs, bs, bs]
          | some d =>
            have e2 : sdS B A c s = [d] := by unfold sdS; rw [if_neg qa, if_pos qo, e]; rfl
            have hd : d < 258 := sd_lt W f hc hs (by rw [e2]; exact List.mem_singleton.mpr rfl)
            obtain ⟨h1, e1, f1, g1⟩ := q_addRead W x hc hd b
            refine ⟨h1, f1, ?_, ?_⟩
            · rw [adX_one, adX_app] at g1
              rw [e2]
              exact g1
            · rw [if_neg qa, if_pos rfl, bs, if_pos qo, if_neg (by decide), x.pl, bs, hseen, e, ov_s, bs, e1, bs, bs]
        · refine ⟨h, Fq.rf _ _, ?_, ?_⟩
          · have e2 : sdS B A c s = [] := by unfold sdS; rw [if_neg qa, if_neg qo]
            rw [e2, List.append_nil]
            exact b
          · rw [if_neg qa, if_pos rfl, bs, if_neg qo, if_pos rfl, bs]
    obtain ⟨h1, f1, g1, e1⟩ := key
    obtain ⟨h2, e2, f2, g2⟩ := ih n h1 X (s + 1) (by omega) (by omega) (x.fq hp f1 (fun a q => by omega)) g1
    exact ⟨h2, by rw [e1, e2], f1.tr f2, g2⟩
theorem q_gather (W : WfB B) (f : WfA A T Ls) (hp : p ≤ 16) {c : Nat} (hc : c < 258) (hC : isC B A c = true) (x : Cx h B A p) {X : Nat → Nat → Bool} (b : Bt h X) : ∃ h', f_X5_gather h 34 (nI c) = some h' ∧ Fq h h' (fun a => a = 35) ∧ Bt h' (fun c' e => X c' e || (decide (c' = c) && rdB B A c e)) := by
  have S := x.1
  have h24 := n24 W c
  unfold f_X5_gather
  rw [if_pos (k_34 S), x.pl, bs, q_isFrozenCell x.2.2.1 x.2.2.2.1 f hc, bs]
  by_cases q : c < 240 ∧ fzA A (owN c) = true
  · refine ⟨h, ?_, Fq.rf _ _, fun c' e h1 h2 => ?_⟩
    · rw [if_pos q, if_neg (by decide)]
    · have : fzC A c = true := by unfold fzC; simp [q.1, q.2]
      rw [b c' e h1 h2]
      simp [rdB, this]
  · obtain ⟨h1, e1, f1, g1⟩ := q_gather23 W f hp hc hC (nsN B c) FU h X 0 (by omega) (by unfold FU; omega) x (by
      rw [show sdL B A c 0 = [] from rfl, adX_nil]; exact b)
    refine ⟨h1, ?_, f1, fun c' e h1 h2 => ?_⟩
    · rw [if_neg q, if_pos rfl, g_34_0 S, bs, q_stepsOf S x.2.1 hc, bs, show nI (bN B (kiN c)) = nI (nsN B c) from rfl, show (0 : Int32) = nI 0 from rfl, e1, bs]
    · have hz : fzC A c = false := by
        unfold fzC
        by_cases q1 : c < 240
        · cases e2 : fzA A (owN c) with
          | false => simp
          | true => exact absurd ⟨q1, e2⟩ q
        · simp [q1]
      rw [g1 c' e h1 h2]
      have key : ((sdL B A c (nsN B c)).contains e && isC B A e) = rdB B A c e := by
        unfold rdB
        rw [hz, hC]
        cases q2 : (sdL B A c (nsN B c)).contains e with
        | true =>
          have q3 : e < 258 := sdL_lt W f hc (Nat.le_refl _) (by simpa using q2)
          simp [q3]
        | false => simp
      show (X c' e || (decide (c' = c) && (sdL B A c (nsN B c)).contains e && isC B A e)) = _
      rw [Bool.and_assoc, key]
end Gather
