/-! Reads: the ring -/
theorem cpJ_n {h : AH} {a b n : Nat} (ka : aK h a = 11) (kb : aK h b = 11) (ha : n ≤ aE h a) (hb : n ≤ aE h b) (hn : n < 2 ^ 31) : cpJ h a 0 b 0 (nI n) = some (rJ h b (va_cpy (aJ h a) (aJ h b) 0 0 n)) := by
  unfold cpJ
  have z : (0 : Int32).toNatClampNeg = 0 := by decide
  rw [if_pos ⟨⟨ka, kb⟩, ⟨by decide, by decide, nI_nn hn⟩, by rw [z, nI_clamp hn]; omega, by rw [z, nI_clamp hn]; omega⟩, z, nI_clamp hn]
theorem cpyJ_at {f g : Nat → Int64} {n i : Nat} (hi : i < n) : va_cpy f g 0 0 n i = f i := by simp [va_cpy, hi]
section FindRing
variable {B : BK} {A : AP} {p T Ls : Nat}
theorem mea43 (W : WfB B) (hp : p ≤ 16) {D : List Nat} (g : GdG (isC B A) (rdB B A) D) {s : Nat} (hs : s ∉ D) (hs8 : s < 258) : ∀ (m n : Nat) (h : AH) (r : Nat) (y : Int32), r + m = 257 → m < n → Cx h B A p → Bt h (rdB B A) → (∀ d, d < 320 → hb (aJ h 36) 0 d = D.contains d) → (∀ d, d < 320 → hb (aJ h 38) 0 d = (decide (d < 258) && decide (dsG (isC B A) (rdB B A) s d = some r))) → (∀ c, c < 258 → aI h 42 c = ov (lwO (dsG (isC B A) (rdB B A) s c) (r + 1))) → (y = 0 → ∀ c, c < 258 → dsG (isC B A) (rdB B A) s c ≠ some r) →
    ∃ h', f_X5_measure_43 34 n h y (nI (r + 1)) = some h' ∧ Fq h h' (fun a => a = 37 ∨ a = 38 ∨ a = 42) ∧ (∀ c, c < 258 → aI h' 42 c = ov (dsG (isC B A) (rdB B A) s c)) := by
  intro m
  induction m with
  | zero =>
    intro n h r y hr hn x b b2 b3 b4 hy
    obtain ⟨n, rfl⟩ : ∃ j, n = j + 1 := ⟨n - 1, by omega⟩
    refine ⟨h, ?_, Fq.rf _ _, fun c hc => ?_⟩
    · unfold f_X5_measure_43
      rw [if_pos (show (258 : Int32) ≤ nI (r + 1) from nI_le (a := 258) (by omega) (by omega))]
    · rw [b4 c hc]
      congr 1
      unfold lwO
      cases e : dsG (isC B A) (rdB B A) s c with
      | none => rfl
      | some k =>
        have := (ds_s e).1
        have q : k < r + 1 := by omega
        simp only [q, if_true]
  | succ m ih =>
    intro n h r y hr hn x b b2 b3 b4 hy
    obtain ⟨n, rfl⟩ : ∃ j, n = j + 1 := ⟨n - 1, by omega⟩
    have S := x.1
    by_cases q0 : y = 0
    · refine ⟨h, ?_, Fq.rf _ _, fun c hc => ?_⟩
      · unfold f_X5_measure_43
        rw [if_neg (show ¬ (258 : Int32) ≤ nI (r + 1) from nI_ge (b := 258) (by omega) (by decide)), if_pos q0]
      · rw [b4 c hc]
        congr 1
        unfold lwO
        cases e : dsG (isC B A) (rdB B A) s c with
        | none => rfl
        | some k =>
          by_cases q : k < r + 1
          · simp only [q, if_true]
          · obtain ⟨d, d1, d2⟩ := ex_lv (ds_s e).2 hc r (by omega)
            exact absurd (ds_i d1 d2) (hy q0 d d1)
    · obtain ⟨h1, e1, f1, g1, -⟩ := q_fillJ (x := 0) (k_37 S) (by rw [e_37 S]; decide)
      have x1 := x.fq hp f1 (fun a q => by omega)
      obtain ⟨h2, y2, e2, f2, g2, g3, g4⟩ := mea67 W hp g (r := r) hs (by omega) 258 FU h1 0 0 rfl (by unfold FU; omega) (fun _ c hc => by omega) x1 (fun c d p1 p2 => by rw [f1.j (by omega)]; exact b c d p1 p2) (fun d hd => by rw [f1.j (by omega)]; exact b2 d hd) (fun d hd => by rw [f1.j (by omega)]; exact b3 d hd) (fun c hc => by rw [f1.i (by omega), b4 c hc, if_neg (by omega)]) (fun d hd => by
        unfold hb
        rw [g1 _ (by rw [e_37 S]; omega), gb_0]
        simp)
      have x2 := x1.fq hp f2 (fun a q => by omega)
      obtain ⟨h3, eh3⟩ : ∃ z, z = rJ h2 38 (va_cpy (aJ h2 37) (aJ h2 38) 0 0 5) := ⟨_, rfl⟩
      have f3 : Fq h2 h3 (fun a => a = 38) := by rw [eh3]; exact Fq.rj rfl
      have x3 := x2.fq hp f3 (fun a q => by omega)
      obtain ⟨h4, e4, f4, g5⟩ := ih n h3 (r + 1) y2 (by omega) (by omega) x3 (fun c d p1 p2 => by rw [f3.j (by omega), f2.j (by omega), f1.j (by omega)]; exact b c d p1 p2) (fun d hd => by rw [f3.j (by omega), f2.j (by omega), f1.j (by omega)]; exact b2 d hd) (fun d hd => by
        rw [← g3 d hd]
        unfold hb
        rw [eh3, rJ_J, if_pos rfl, cpyJ_at (by omega)]) (fun c hc => by rw [f3.i (by omega)]; exact g2 c hc) g4
      refine ⟨h4, ?_, (((f1.mono (fun a q => by omega)).tr (f2.mono (fun a q => by omega))).tr (f3.mono (fun a q => by omega))).tr f4, g5⟩
      unfold f_X5_measure_43
      have e2' : f_X5_measure_67 34 (nI (r + 1)) FU h1 0 0 = some (y2, h2) := e2
      rw [if_neg (show ¬ (258 : Int32) ≤ nI (r + 1) from nI_ge (b := 258) (by omega) (by decide)), if_neg q0, g_34_3 S, bs, e1, bs, e2', bs]
      show (Option.bind (gP h2 5 34 3) fun x34 => Option.bind (gP h2 5 34 4) fun x35 => Option.bind (cpJ h2 x34 0 x35 0 5) fun h36 => f_X5_measure_43 34 n h36 y2 (nI (r + 1) + 1)) = _
      rw [g_34_3 x2.1, bs, g_34_4 x2.1, bs, show (5 : Int32) = nI 5 from rfl, cpJ_n (k_37 x2.1) (k_38 x2.1) (by rw [e_37 x2.1]; decide) (by rw [e_38 x2.1]; decide) (by decide), bs, ← eh3, nI_1, e4]
theorem q_measure {h : AH} (W : WfB B) (hp : p ≤ 16) {D : List Nat} (g : GdG (isC B A) (rdB B A) D) {s : Nat} (hs : s ∉ D) (hs8 : s < 258) (x : Cx h B A p) (b : Bt h (rdB B A)) (b2 : ∀ d, d < 320 → hb (aJ h 36) 0 d = D.contains d) :
    ∃ h', f_X5_measure h 34 (nI s) = some h' ∧ Fq h h' (fun a => a = 37 ∨ a = 38 ∨ a = 42) ∧ (∀ c, c < 258 → aI h' 42 c = ov (dsG (isC B A) (rdB B A) s c)) := by
  have S := x.1
  obtain ⟨h1, e1, f1, g1, -⟩ := q_fillI (x := -1) (k_42 S) (by rw [e_42 S]; decide)
  have x1 := x.fq hp f1 (fun a q => by omega)
  obtain ⟨h2, eh2⟩ : ∃ z, z = sI h1 42 s 0 := ⟨_, rfl⟩
  have f2 : Fq h1 h2 (fun a => a = 42) := by rw [eh2]; exact Fq.si rfl
  have x2 := x1.fq hp f2 (fun a q => by omega)
  obtain ⟨h3, e3, f3, g3, -⟩ := q_fillJ (x := 0) (k_38 x2.1) (by rw [e_38 x2.1]; decide)
  have x3 := x2.fq hp f3 (fun a q => by omega)
  obtain ⟨h4, eh4⟩ : ∃ z, z = sJ h3 38 (s / 64) (aJ h3 38 (s / 64) ||| b1 (s % 64)) := ⟨_, rfl⟩
  have f4 : Fq h3 h4 (fun a => a = 38) := by rw [eh4]; exact Fq.sj rfl
  have x4 := x3.fq hp f4 (fun a q => by omega)
  have d0 : ∀ c, c < 258 → (dsG (isC B A) (rdB B A) s c = some 0 ↔ c = s) := fun c hc => by
    constructor
    · intro e; exact ex_0 (ds_s e).2
    · intro e; exact ds_i hc ⟨dk_0.mpr e, fun j hj => by omega⟩
  obtain ⟨h5, e5, f5, g5⟩ := mea43 W hp g hs hs8 257 FU h4 0 1 rfl (by unfold FU; omega) x4 (fun c d p1 p2 => by rw [f4.j (by omega), f3.j (by omega), f2.j (by omega), f1.j (by omega)]; exact b c d p1 p2) (fun d hd => by rw [f4.j (by omega), f3.j (by omega), f2.j (by omega), f1.j (by omega)]; exact b2 d hd) (fun d hd => by
    have hg : ∀ j, aJ h4 38 j = if j = 0 + s / 64 then aJ h3 38 j ||| b1 (s % 64) else aJ h3 38 j := by
      intro j
      rw [eh4, sJ_J, Nat.zero_add]
      by_cases q : j = s / 64
      · subst q; rw [if_pos ⟨rfl, rfl⟩, if_pos rfl]
      · rw [if_neg (fun y => q y.2), if_neg q]
    rw [hb_set hg]
    have z : hb (aJ h3 38) 0 d = false := by
      unfold hb
      rw [g3 _ (by rw [e_38 x2.1]; omega), gb_0]
    rw [z]
    by_cases q : d < 258
    · rw [Bool.eq_iff_iff]
      simp [q, d0 d q]
    · have : d ≠ s := by omega
      simp [q, this]) (fun c hc => by
    rw [f4.i (by omega), f3.i (by omega), eh2, sI_I]
    by_cases q : c = s
    · rw [if_pos ⟨rfl, q⟩, (lw_e ((d0 c hc).mpr q)).1]
      rfl
    · rw [if_neg (fun y => q y.2), g1 c (by rw [e_42 S]; exact hc)]
      have : lwO (dsG (isC B A) (rdB B A) s c) (0 + 1) = none := lw_n.mpr (fun k hk => by
        rcases Nat.eq_zero_or_pos k with z | z
        · subst z; exact absurd ((d0 c hc).mp hk) q
        · omega)
      rw [this]
      rfl) (fun q => absurd q (by decide))
  refine ⟨h5, ?_, ((((f1.mono (fun a q => by omega)).tr (f2.mono (fun a q => by omega))).tr (f3.mono (fun a q => by omega))).tr (f4.mono (fun a q => by omega))).tr f5, g5⟩
  unfold f_X5_measure
  have e5' : f_X5_measure_43 34 FU h4 1 1 = some h5 := e5
  rw [if_pos (k_34 S), g_34_8 S, bs, e1, bs, g_34_8 x1.1, bs, st_42 x1.1 hs8, bs, ← eh2, g_34_4 x2.1, bs, e3, bs, g_34_4 x3.1, bs, d64 (by omega), ld_38 x3.1 (by omega), bs, q_bitOf _ (by omega), bs, st_38 x3.1 (by omega), bs, ← eh4, e5', bs]
/-- the nearer of two -/
theorem q_nearer {h : AH} (S : Sh h) {f : Nat → Option Nat} (hf : ∀ c k, f c = some k → k < 258) (b4 : ∀ c, c < 258 → aI h 42 c = ov (f c)) {b : Option Nat} (hb : ∀ y, b = some y → y < 258 ∧ ∃ k, f y = some k) {d : Nat} (hd : d < 258) : f_X5_nearer h 34 (ov b) (nI d) = some (ov (nbG f b d)) ∧ ∀ y, nbG f b d = some y → y < 258 ∧ ∃ k, f y = some k := by
  unfold f_X5_nearer nbG
  rw [if_pos (k_34 S), if_neg (nI_nm (by omega)), g_34_8 S, bs, ld_42 S hd, bs, b4 d hd]
  cases e : f d with
  | none => exact ⟨by rw [ov_n, if_pos rfl], hb⟩
  | some k =>
    have hk := hf d k e
    rw [ov_s, if_neg (nI_nm (by omega))]
    cases b with
    | none => exact ⟨by rw [ov_n, if_pos rfl, bs]; rfl, fun y hy => by cases hy; exact ⟨hd, k, e⟩⟩
    | some x =>
      obtain ⟨hx, m, hm⟩ := hb x rfl
      have hm8 := hf x m hm
      rw [ov_s, if_neg (nI_nm (by omega)), bs, ld_42 S hd, bs, b4 d hd, e, ov_s, bs, ld_42 S hx, bs, b4 x hx, hm, ov_s]
      simp only [hm]
      by_cases q : k < m
      · rw [if_neg (nI_ge q (by omega)), if_pos q, bs]
        exact ⟨rfl, fun y hy => by cases hy; exact ⟨hd, k, e⟩⟩
      · rw [if_pos (nI_le (by omega) (by omega)), if_neg q, bs]
        exact ⟨rfl, hb⟩
theorem near65 {h : AH} (x : Cx h B A p) (fw : WfA A T Ls) {f : Nat → Option Nat} (hf : ∀ c k, f c = some k → k < 258) (b4 : ∀ c, c < 258 → aI h 42 c = ov (f c)) {l v : Nat} (hl : l < 6) (hv : v < 6) (l1 l3 l4 : Int32) : ∀ (m n k : Nat) (b : Option Nat), k + m = qS A l → m < n → (∀ y, b = some y → y < 258 ∧ ∃ k, f y = some k) →
    f_X5_nearestRead_65 34 l1 l3 l4 (nI v) (nI l) n h (ov b) (nI k) = some (ov ((((List.range (qS A l)).drop k).map (fun k => 6 * qR A l k + v)).foldl (nbG f) b)) ∧ ∀ y, (((List.range (qS A l)).drop k).map (fun k => 6 * qR A l k + v)).foldl (nbG f) b = some y → y < 258 ∧ ∃ k, f y = some k := by
  have hlen := fw.len l
  intro m
  induction m with
  | zero =>
    intro n k b hk hn hb
    obtain ⟨n, rfl⟩ : ∃ j, n = j + 1 := ⟨n - 1, by omega⟩
    rw [List.drop_eq_nil_of_le (by simp; omega), List.map_nil, List.foldl_nil]
    refine ⟨?_, hb⟩
    unfold f_X5_nearestRead_65
    rw [x.pl, bs, x.2.2.1.p 6 (by decide), bs, x.2.2.1.ld 6 (by decide) (show l < eP 6 from hl), bs, show aI h (p + 1 + 6) l = _ from x.2.2.2.1.2.2.2.2.2.2.1 l hl, if_pos (nI_le (by omega) (by omega))]
  | succ m ih =>
    intro n k b hk hn hb
    obtain ⟨n, rfl⟩ : ∃ j, n = j + 1 := ⟨n - 1, by omega⟩
    have ht := fw.t40 (l := l) (k := k) (by omega)
    obtain ⟨e1, g1⟩ := q_nearer x.1 hf b4 hb (d := 6 * qR A l k + v) (by omega)
    obtain ⟨e2, g2⟩ := ih n (k + 1) _ (by omega) (by omega) g1
    rw [List.drop_eq_getElem_cons (i := k) (by simp; omega), List.map_cons, List.foldl_cons]
    simp only [List.getElem_range]
    refine ⟨?_, g2⟩
    rw [← e2]
    conv => lhs; unfold f_X5_nearestRead_65
    rw [x.pl, bs, x.2.2.1.p 6 (by decide), bs, x.2.2.1.ld 6 (by decide) (show l < eP 6 from hl), bs, show aI h (p + 1 + 6) l = _ from x.2.2.2.1.2.2.2.2.2.2.1 l hl, if_neg (nI_ge (by omega) (by omega)), bs, q_standsAt x.2.2.1 x.2.2.2.1 fw hl (by omega), bs]
    unfold atA
    rw [if_pos (by omega), q_shadowOf, bs, e1, bs, nI_1]
theorem near14 {h : AH} (W : WfB B) (x : Cx h B A p) (fw : WfA A T Ls) {f : Nat → Option Nat} (hf : ∀ c k, f c = some k → k < 258) (b4 : ∀ c, c < 258 → aI h 42 c = ov (f c)) {c : Nat} (hc : c < 258) (hC : isC B A c = true) : ∀ (m n s : Nat), s + m = nsN B c → m < n → (∀ y, (sdL B A c s).foldl (nbG f) none = some y → y < 258 ∧ ∃ k, f y = some k) →
    f_X5_nearestRead_14 34 (nI c) (nI (nsN B c)) n h (ov ((sdL B A c s).foldl (nbG f) none)) (nI s) = some (ov (nrG f (sdL B A c (nsN B c)))) := by
  have h24 := n24 W c
  intro m
  induction m with
  | zero =>
    intro n s hk hn hb
    obtain ⟨n, rfl⟩ : ∃ j, n = j + 1 := ⟨n - 1, by omega⟩
    unfold f_X5_nearestRead_14 nrG
    rw [if_pos (nI_le (by omega) (by omega)), show nsN B c = s by omega]
  | succ m ih =>
    intro n s hk hn hb
    obtain ⟨n, rfl⟩ : ∃ j, n = j + 1 := ⟨n - 1, by omega⟩
    have hs : s < nsN B c := by omega
    have S := x.1
    have h25 : cdN B c s < 25 := (ok_at W hc hs).c
    obtain ⟨bb, ebb⟩ : ∃ z, z = (sdL B A c s).foldl (nbG f) none := ⟨_, rfl⟩
    have key : f_X5_nearestRead_14 34 (nI c) (nI (nsN B c)) (n + 1) h (ov bb) (nI s) = f_X5_nearestRead_14 34 (nI c) (nI (nsN B c)) n h (ov ((sdL B A c (s + 1)).foldl (nbG f) none)) (nI (s + 1)) ∧ ∀ y, (sdL B A c (s + 1)).foldl (nbG f) none = some y → y < 258 ∧ ∃ k, f y = some k := by
      have hu : f_X5_nearestRead_14 34 (nI c) (nI (nsN B c)) (n + 1) h (ov bb) (nI s) = Option.bind (if (if cdN B c s = 9 ∨ cdN B c s = 10 ∨ cdN B c s = 11 then (1 : Int32) else 0) = 0 then
          Option.bind (some (if 4 ≤ cdN B c s ∧ cdN B c s ≤ 13 ∧ ¬ (cdN B c s = 9 ∨ cdN B c s = 10 ∨ cdN B c s = 11) then (1 : Int32) else 0)) fun x16 => if x16 = 0 then some (ov bb) else Option.bind (gP h 5 34 12) fun x18 => Option.bind (f_X4_shadowSeen h x18 (nI c) (nI (cdN B c s)) (bV B (kiN c) s)) fun x19 => Option.bind (f_X5_nearer h 34 (ov bb) x19) fun h22 => some h22
          else Option.bind (gP h 5 34 12) fun x23 => Option.bind (f_X4_listOf h x23 (nI c)) fun x24 => Option.bind (f_X5_nearestRead_65 34 (nI c) (nI (nsN B c)) (nI s) (bV B (kiN c) s) x24 FU h (ov bb) 0) fun h36 => some h36) fun h15 => f_X5_nearestRead_14 34 (nI c) (nI (nsN B c)) n h h15 (nI (s + 1)) := by
        conv => lhs; unfold f_X5_nearestRead_14
        have hco : f_X0_codeOf h 1 (nI c) (nI s) = some (nI (cdN B c s)) := q_codeOf S W x.2.1 hc hs
        rw [if_neg (nI_ge hs (by omega)), g_34_0 S, bs, hco, bs, bs, q_valueOf S W x.2.1 hc hs, bs, q_isOverAll h h25, bs, q_isOverOne h h25, nI_1]
      rw [hu, sdL_s, List.foldl_append, ← ebb]
      rw [← ebb] at hb
      by_cases qa : cdN B c s = 9 ∨ cdN B c s = 10 ∨ cdN B c s = 11
      · obtain ⟨v1, v2, v3⟩ := ok_all W hc hs qa
        obtain ⟨l, l1, l2, l3⟩ := c_ls W fw hc hC
        have hlen := fw.len l
        obtain ⟨e1, g1⟩ := near65 x fw hf b4 l2 v2 (nI c) (nI (nsN B c)) (nI s) (qS A l) FU 0 bb (by omega) (by unfold FU; omega) hb
        have e2 : sdS B A c s = ((List.range (qS A l)).drop 0).map (fun k => 6 * qR A l k + vaN B c s) := by
          unfold sdS
          rw [if_pos qa, l3]
          rfl
        rw [e2]
        refine ⟨?_, g1⟩
        rw [if_pos qa, if_neg (by decide), x.pl, bs, q_listOf x.2.2.1 x.2.2.2.1 hc, bs, l1, ov_s, v1, show (0 : Int32) = nI 0 from rfl, e1, bs, bs]
      · by_cases qo : 4 ≤ cdN B c s ∧ cdN B c s ≤ 13 ∧ ¬ (cdN B c s = 9 ∨ cdN B c s = 10 ∨ cdN B c s = 11)
        · obtain ⟨v1, v2, v3, -, -⟩ := ok_one W hc hs qo
          have hseen : f_X4_shadowSeen h p (nI c) (nI (cdN B c s)) (bV B (kiN c) s) = some (ov (seN A c (cdN B c s) (vaN B c s))) := by rw [v1]; exact q_seen x.2.2.1 x.2.2.2.1 fw hc v3
          cases e : seN A c (cdN B c s) (vaN B c s) with
          | none =>
            have e2 : sdS B A c s = [] := by unfold sdS; rw [if_neg qa, if_pos qo, e]; rfl
            rw [e2, List.foldl_nil]
            refine ⟨?_, hb⟩
            rw [if_neg qa, if_pos rfl, bs, if_pos qo, if_neg (by decide), x.pl, bs, hseen, e, ov_n, bs]
            unfold f_X5_nearer
            rw [if_pos (k_34 S), if_pos rfl, bs, bs]
          | some d =>
            have e2 : sdS B A c s = [d] := by unfold sdS; rw [if_neg qa, if_pos qo, e]; rfl
            have hd : d < 258 := sd_lt W fw hc hs (by rw [e2]; exact List.mem_singleton.mpr rfl)
            obtain ⟨e1, g1⟩ := q_nearer S hf b4 hb hd
            rw [e2, List.foldl_cons, List.foldl_nil]
            refine ⟨?_, g1⟩
            rw [if_neg qa, if_pos rfl, bs, if_pos qo, if_neg (by decide), x.pl, bs, hseen, e, ov_s, bs, e1, bs, bs]
        · have e2 : sdS B A c s = [] := by unfold sdS; rw [if_neg qa, if_neg qo]
          rw [e2, List.foldl_nil]
          refine ⟨?_, hb⟩
          rw [if_neg qa, if_pos rfl, bs, if_neg qo, if_pos rfl, bs]
    obtain ⟨k1, k2⟩ := key
    rw [← ebb, k1]
    exact ih n (s + 1) (by omega) (by omega) k2
theorem q_nearestRead {h : AH} (W : WfB B) (x : Cx h B A p) (fw : WfA A T Ls) {f : Nat → Option Nat} (hf : ∀ c k, f c = some k → k < 258) (b4 : ∀ c, c < 258 → aI h 42 c = ov (f c)) {c : Nat} (hc : c < 258) (hC : isC B A c = true) : f_X5_nearestRead h 34 (nI c) = some (ov (nrG f (sdL B A c (nsN B c)))) := by
  have h24 := n24 W c
  have S := x.1
  unfold f_X5_nearestRead
  have e := near14 W x fw hf b4 hc hC (nsN B c) FU 0 (by omega) (by unfold FU; omega) (fun y e => by cases e)
  rw [if_pos (k_34 S), g_34_0 S, bs, q_stepsOf S x.2.1 hc, bs, show nI (bN B (kiN c)) = nI (nsN B c) from rfl]
  have e' : f_X5_nearestRead_14 34 (nI c) (nI (nsN B c)) FU h (-1) 0 = some (ov (nrG f (sdL B A c (nsN B c)))) := e
  rw [e', bs]
/-- THE RING -/
def nxA (B : BK) (A : AP) (s c : Nat) : Option Nat := nrG (dsG (isC B A) (rdB B A) s) (sdL B A c (nsN B c))
def rgA (B : BK) (A : AP) : List Nat := match rbG (isC B A) (rdB B A) with
  | none => []
  | some s => rgG (nxA B A s) s 258 s
theorem ds_C {s c k : Nat} (hs : isC B A s = true) (h : dsG (isC B A) (rdB B A) s c = some k) : isC B A c = true := by
  cases k with
  | zero => rw [ex_0 (ds_s h).2]; exact hs
  | succ k =>
    obtain ⟨d, -, p2, -⟩ := ex_s (ds_s h).2
    exact rd_C p2
theorem find27 (W : WfB B) (fw : WfA A T Ls) (hp : p ≤ 16) {s : Nat} (hs8 : s < 258) (hsC : isC B A s = true) : ∀ (m n : Nat) (h : AH) (i c : Nat) (F : List Nat), i + m = 258 → m < n → F.length = i → c < 258 → isC B A c = true → Cx h B A p → (∀ c, c < 258 → aI h 42 c = ov (dsG (isC B A) (rdB B A) s c)) → Rw h 45 F →
    ∃ h', (f_X5_findRing_27 34 (nI s) n h (nI c) (nI i) = some (.inl h') ∨ f_X5_findRing_27 34 (nI s) n h (nI c) (nI i) = some (.inr h')) ∧ Fq h h' (fun a => a = 45 ∨ a = 46) ∧ Rw h' 45 (F ++ rgG (nxA B A s) s m c) := by
  have hf : ∀ c k, dsG (isC B A) (rdB B A) s c = some k → k < 258 := fun c k e => (ds_s e).1
  intro m
  induction m with
  | zero =>
    intro n h i c F hi hn hF hc hC x b4 w
    obtain ⟨n, rfl⟩ : ∃ j, n = j + 1 := ⟨n - 1, by omega⟩
    refine ⟨h, Or.inr ?_, Fq.rf _ _, ?_⟩
    · unfold f_X5_findRing_27
      rw [if_pos (show (258 : Int32) ≤ nI i from nI_le (a := 258) (by omega) (by omega))]
    · show Rw h 45 (F ++ [])
      rw [List.append_nil]
      exact w
  | succ m ih =>
    intro n h i c F hi hn hF hc hC x b4 w
    obtain ⟨n, rfl⟩ : ∃ j, n = j + 1 := ⟨n - 1, by omega⟩
    have S := x.1
    obtain ⟨h1, e1, f1, w1⟩ := q_add (S.r (r := 45) (by decide)) w hc (by omega)
    have x1 := x.fq hp f1 (fun a q => by omega)
    have b4' : ∀ c, c < 258 → aI h1 42 c = ov (dsG (isC B A) (rdB B A) s c) := fun c hc => by rw [f1.i (by omega)]; exact b4 c hc
    have e2 := q_nearestRead W x1 fw hf b4' hc hC
    have hu : f_X5_findRing_27 34 (nI s) (n + 1) h (nI c) (nI i) = if ov (nxA B A s c) = nI s then some (.inl h1) else if ov (nxA B A s c) = -1 then some (.inl h1) else f_X5_findRing_27 34 (nI s) n h1 (ov (nxA B A s c)) (nI (i + 1)) := by
      conv => lhs; unfold f_X5_findRing_27
      rw [if_neg (show ¬ (258 : Int32) ≤ nI i from nI_ge (b := 258) (by omega) (by decide)), g_34_10 S, bs, e1, bs, e2, bs, nI_1]
      rfl
    rw [hu]
    show ∃ h', _ ∧ _ ∧ Rw h' 45 (F ++ c :: (match nxA B A s c with
      | none => []
      | some d => if d = s then [] else rgG (nxA B A s) s m d))
    cases e : nxA B A s c with
    | none =>
      refine ⟨h1, Or.inl ?_, f1, w1⟩
      rw [ov_n]
      by_cases q : -1 = nI s
      · rw [if_pos q]
      · rw [if_neg q, if_pos rfl]
    | some d =>
      obtain ⟨d1, k, d2, -⟩ := nr_in e
      have hd8 : d < 258 := sdL_lt W fw hc (Nat.le_refl _) d1
      rw [ov_s]
      simp only []
      by_cases q : d = s
      · rw [if_pos (by rw [q]), if_pos q]
        exact ⟨h1, Or.inl rfl, f1, w1⟩
      · rw [if_neg (fun e => q ((nI_eq (by omega) (by omega)).mp e)), if_neg (nI_nm (by omega)), if_neg q]
        obtain ⟨h2, e3, f2, w2⟩ := ih n h1 (i + 1) d (F ++ [c]) (by omega) (by omega) (by rw [List.length_append, hF]; rfl) hd8 (ds_C hsC d2) x1 b4' w1
        exact ⟨h2, e3, f1.tr f2, by rw [List.append_cons]; exact w2⟩
theorem q_findRing {h : AH} (W : WfB B) (fw : WfA A T Ls) (hp : p ≤ 16) {D : List Nat} (g : GdG (isC B A) (rdB B A) D) (x : Cx h B A p) (b : Bt h (rdB B A)) (b2 : ∀ d, d < 320 → hb (aJ h 36) 0 d = D.contains d) :
    ∃ h', f_X5_findRing h 34 = some h' ∧ Fq h h' (fun a => a = 37 ∨ a = 38 ∨ a = 42 ∨ a = 45 ∨ a = 46 ∨ a = 47 ∨ a = 48) ∧ Rw h' 45 (rgA B A) := by
  have S := x.1
  obtain ⟨h1, e1, f1, w1⟩ := q_clear (S.r (r := 45) (by decide))
  have x1 := x.fq hp f1 (fun a q => by omega)
  have b' : Bt h1 (rdB B A) := fun c d p1 p2 => by rw [f1.j (by omega)]; exact b c d p1 p2
  have b2' : ∀ d, d < 320 → hb (aJ h1 36) 0 d = D.contains d := fun d hd => by rw [f1.j (by omega)]; exact b2 d hd
  obtain ⟨h2, e2, f2⟩ := q_firstInRing W hp g x1 b' b2'
  have x2 := x1.fq hp f2 (fun a q => by omega)
  have w2 := f2.w w1 (by omega) (by omega)
  have hu : f_X5_findRing h 34 = if ov (rbG (isC B A) (rdB B A)) = -1 then some h2 else Option.bind (f_X5_measure h2 34 (ov (rbG (isC B A) (rdB B A)))) fun h7 => Option.bind (f_X5_findRing_27 34 (ov (rbG (isC B A) (rdB B A))) FU h7 (ov (rbG (isC B A) (rdB B A))) 0) fun w => match w with
      | .inl r9 => some r9
      | .inr h13 => some h13 := by
    unfold f_X5_findRing
    rw [if_pos (k_34 S), g_34_10 S, bs, e1, bs, e2, bs]
    rfl
  rw [hu]
  unfold rgA
  cases e : rbG (isC B A) (rdB B A) with
  | none =>
    refine ⟨h2, by rw [ov_n, if_pos rfl], (f1.mono (fun a q => by omega)).tr (f2.mono (fun a q => by omega)), w2⟩
  | some s =>
    obtain ⟨s1, s2, -⟩ := fn_s e
    rw [Bool.and_eq_true] at s2
    obtain ⟨h3, e3, f3, g3⟩ := q_measure W hp g (ir_lf g s2.2) s1 x2 (fun c d p1 p2 => by rw [f2.j (by omega)]; exact b' c d p1 p2) (fun d hd => by rw [f2.j (by omega)]; exact b2' d hd)
    have x3 := x2.fq hp f3 (fun a q => by omega)
    obtain ⟨h4, e4, f4, w4⟩ := find27 W fw hp s1 s2.1 258 FU h3 0 s [] rfl (by unfold FU; omega) rfl s1 s2.1 x3 g3 (f3.w w2 (by omega) (by omega))
    rw [List.nil_append] at w4
    refine ⟨h4, ?_, (((f1.mono (fun a q => by omega)).tr (f2.mono (fun a q => by omega))).tr (f3.mono (fun a q => by omega))).tr (f4.mono (fun a q => by omega)), w4⟩
    rw [ov_s, if_neg (nI_nm (by omega)), e3, bs, show (0 : Int32) = nI 0 from rfl]
    rcases e4 with e4 | e4
    · rw [e4, bs]
    · rw [e4, bs]
end FindRing
