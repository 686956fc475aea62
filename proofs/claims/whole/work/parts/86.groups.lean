/-! the class: begin, end, drop, undo, open -/
def seG (S : SX) (g : Bool) (A : AP) : SX := (tB S, tC S, A, tP S, tN S, tW S, tR S, tQ S, tO S, g, 0, tU S, tF S, tH S)
def unS (S : SX) (K : List PN) (x : PN) : SX := (tB S, tC S, x.1, x.1, x.2, [], tR S, tQ S, tO S, tG S, tM S, tU S, tF S, K)
def opY (S : SX) (F : Nat → Int64) (w : List Nat) : SX := (tB S, tC S, tA S, tP S, F, w, [], (0, -1, -1, -1), true, tG S, tM S, tU S + w.length, tF S, tH S)
def opN (S : SX) (r : Except (Option (Nat × Nat × Nat)) ((Nat → Int64) × List Nat)) : SX := (tB S, tC S, tA S, tP S, tN S, tW S, rgS (tB S) (tA S) r, caS r, tO S, tG S, tM S, tU S, tF S + 1, tH S)
def chC (B : BK) (P : AP) (N : Nat → Int64) (x : PN) (n : Nat) : Nat := (List.range n).countP (fun c => decide (isC B P c ≠ isC B x.1 c) || decide (N c ≠ x.2 c))
def oBegin (S : SX) : Except Nat Unit × SX := if tO S = false ∨ tG S = true then (.error 0, S) else (.ok (), seG S true (tA S))
def oEnd (S : SX) : Except Nat Int32 × SX := if tO S = false ∨ tG S = false then (.error 0, S) else mvO (seG S false (tA S)) (tA S)
def oDrop (S : SX) : Except Nat Int32 × SX := if tO S = false ∨ tG S = false then (.error 0, S) else (.ok (nI (tM S)), seG S false (tP S))
def oUndo (S : SX) : Except Nat Int32 × SX := if tO S = false ∨ tG S = true then (.error 0, S) else match (tH S).getLast? with
  | none => (.ok (-1), S)
  | some x => (.ok (nI (chC (tB S) (tP S) (tN S) x 258)), unS S (tH S).dropLast x)
def oOpen (S : SX) : Except Nat Int32 × SX := if tO S = true then (.error 0, S) else match jdA (tB S) (tP S) (tA S) (tN S) true with
  | .ok (F, w) => (.ok (nI w.length), opY S F w)
  | .error e => (.ok (anS (.error e)), opN S (.error e))
def CallU (h : AH) (r : Option (Except Nat Unit × AH)) (o : Except Nat Unit × SX) : Prop := ∃ h', r = some (o.1, h') ∧ InvC h' o.2 ∧ WfS o.2 ∧ Fk h h' (fun a => a < 53)
section Groups
variable {h : AH} {S : SX}
/-- fields of the class itself -/
theorem InvC.f0 {h1 : AH} {S' : SX} (x : InvC h S) (f : Fr h h1 (fun a => a = 0)) (e : (aI h1 0 8 = bI (tO S') ∧ aI h1 0 9 = bI (tG S') ∧ aI h1 0 10 = nI (tM S') ∧ aI h1 0 11 = nI (tU S') ∧ aI h1 0 12 = nI (tF S'))) (e1 : tB S' = tB S) (e2 : tC S' = tC S) (e3 : tA S' = tA S) (e4 : tP S' = tP S) (e5 : tN S' = tN S) (e6 : orS S' = orS S) (e7 : tW S' = tW S) (e8 : tR S' = tR S) (e9 : tQ S' = tQ S) (e10 : tH S' = tH S) : InvC h1 S' := by
  obtain ⟨a1, a2, a3, a4, a5, a6, a7, a8, a9, a10, a11, a12⟩ := x
  unfold InvC
  rw [e1, e2, e3, e4, e5, e6, e7, e8, e9, e10]
  exact ⟨f.S a1, f.B a2 (by omega) (by omega) (by omega) (by omega), a3.fr (f.i (by omega)) (f.i (by omega)) (f.i (by omega)), f.R a4 (fun a q1 q2 => by omega), f.R a5 (fun a q1 q2 => by omega), fun d hd => by rw [f.j (by omega)]; exact a6 d hd, f.w a7 (by omega) (by omega), f.w a8 (by omega) (by omega), f.w a9 (by omega) (by omega), a10.fr (f.i (by omega)), e, a12.fr f (by omega) (by omega) (fun a q1 q2 => by omega)⟩
theorem wf_G {g : Bool} (W : WfS S) (hO : tO S = true) : WfS (seG S g (tA S)) := by
  obtain ⟨w1, w2, w3, w4, w5, w6, w7, w8, w9, w10⟩ := W
  exact ⟨w1, w2, w3, w4, w5, w6, w7, fun q => absurd (show tO S = false from q) (by rw [hO]; decide), fun _ => rfl, w10⟩
theorem q_begin (W : WfS S) (x : InvC h S) : CallU h (f_X8_begin h 0) (oBegin S) := by
  have Sx := x.1
  unfold f_X8_begin oBegin
  rw [if_pos (k_0 Sx), n_closed x, bs]
  by_cases qo : tO S = false
  · rw [if_neg (by rw [qo]; decide), if_pos (Or.inl qo)]
    exact ⟨nx h, rfl, x.nx, W, Fk.nx⟩
  have hO := o_ne qo
  rw [if_pos hO]
  simp only []
  rw [gi_0 Sx, bs, x.o9]
  cases eg : tG S with
  | true =>
    rw [if_neg (by decide), if_pos (Or.inr rfl)]
    exact ⟨nx h, rfl, x.nx, W, Fk.nx⟩
  | false =>
    rw [if_pos (by decide), if_neg (fun q => q.elim qo (by decide)), pz_0 Sx 9 (Or.inr rfl), bs]
    have f1 : Fr h (sI h 0 9 1) (fun a => a = 0) := Fr.si rfl
    have hm : tM S = 0 := W.2.2.2.2.2.2.2.2.1 eg
    refine ⟨sI h 0 9 1, rfl, x.f0 f1 ⟨?_, ?_, ?_, ?_, ?_⟩ rfl rfl rfl rfl rfl rfl rfl rfl rfl rfl, wf_G W hO, f1.k.mono (fun a _ q => by omega)⟩
    · rw [sI_I, if_neg (by decide)]; exact x.o8
    · rw [sI_I, if_pos ⟨rfl, rfl⟩]; rfl
    · rw [sI_I, if_neg (by decide), x.o10, hm]; rfl
    · rw [sI_I, if_neg (by decide)]; exact x.o11
    · rw [sI_I, if_neg (by decide)]; exact x.o12
theorem n_group (x : InvC h S) : f_X8_needGroup h 0 = some (if tO S = false ∨ tG S = false then (.error 0, nx h) else (.ok (), h)) := by
  have Sx := x.1
  unfold f_X8_needGroup
  rw [if_pos (k_0 Sx), gi_0 Sx, bs, x.o8]
  cases e1 : tO S with
  | false => rfl
  | true =>
    rw [if_neg (by decide), gi_0 Sx, bs, x.o9]
    cases e2 : tG S with
    | false => rfl
    | true => rfl
/-- the group is no more -/
theorem ungroup (W : WfS S) (x : InvC h S) : Fr h (sI (sI h 0 9 0) 0 10 0) (fun a => a = 0) ∧ InvC (sI (sI h 0 9 0) 0 10 0) (seG S false (tA S)) := by
  have f1 : Fr h (sI (sI h 0 9 0) 0 10 0) (fun a => a = 0) := Fr.tr (S := fun a => a = 0) (Fr.si rfl) (Fr.si rfl)
  refine ⟨f1, x.f0 f1 ⟨?_, ?_, ?_, ?_, ?_⟩ rfl rfl rfl rfl rfl rfl rfl rfl rfl rfl⟩
  · rw [sI_I, if_neg (by decide), sI_I, if_neg (by decide)]; exact x.o8
  · rw [sI_I, if_neg (by decide), sI_I, if_pos ⟨rfl, rfl⟩]; rfl
  · rw [sI_I, if_pos ⟨rfl, rfl⟩]; rfl
  · rw [sI_I, if_neg (by decide), sI_I, if_neg (by decide)]; exact x.o11
  · rw [sI_I, if_neg (by decide), sI_I, if_neg (by decide)]; exact x.o12
theorem q_end (W : WfS S) (x : InvC h S) : CallOk h (f_X8_end h 0) (oEnd S) := by
  have Sx := x.1
  unfold f_X8_end oEnd
  rw [if_pos (k_0 Sx), n_group x, bs]
  by_cases q : tO S = false ∨ tG S = false
  · rw [if_pos q, if_pos q]; exact call_e W x 0
  have hO : tO S = true := o_ne (fun e => q (Or.inl e))
  obtain ⟨f1, x1⟩ := ungroup W x
  have S1 : Sh (sI h 0 9 0) := Sx.sI
  rw [if_neg q, if_neg q]
  simp only []
  rw [pz_0 Sx 9 (Or.inl rfl), bs, pi_0 S1, bs]
  obtain ⟨h2, e2, x2, f2⟩ := q_settle (S := seG S false (tA S)) (A := tA S) (wf_G W hO) hO x1 W.2.2.1
  rw [e2, bs]
  exact ⟨h2, rfl, x2, wf_settle (wf_G W hO) hO W.2.2.1 W.2.2.2.1, (f1.k.mono (fun a _ q => by omega)).tr f2⟩
theorem q_drop (W : WfS S) (x : InvC h S) : CallOk h (f_X8_drop h 0) (oDrop S) := by
  have Sx := x.1
  unfold f_X8_drop oDrop
  rw [if_pos (k_0 Sx), n_group x, bs]
  by_cases q : tO S = false ∨ tG S = false
  · rw [if_pos q, if_pos q]; exact call_e W x 0
  have hO : tO S = true := o_ne (fun e => q (Or.inl e))
  obtain ⟨f1, x1⟩ := ungroup W x
  have S1 : Sh (sI h 0 9 0) := Sx.sI
  have S2 := x1.1
  rw [if_neg q, if_neg q]
  simp only []
  rw [gi_0 Sx, bs, x.o10, pz_0 Sx 9 (Or.inl rfl), bs, pi_0 S1, bs, g_0_1 S2, bs, g_0_2 S2, bs]
  obtain ⟨h3, e3, f3, r3⟩ := q_cp716 S2 x1.2.2.2.2.1 (fun l => W.2.2.2.2.1.len l)
  rw [e3, bs]
  have x3 := x1.mv f3 r3
  obtain ⟨w1, w2, w3, w4, w5, w6, w7, w8, w9, w10⟩ := W
  exact ⟨h3, rfl, x3, ⟨w1, w2, w5, w6, w5, w6, w7, fun q => absurd (show tO S = false from q) (by rw [hO]; decide), fun _ => rfl, w10⟩, (f1.k.mono (fun a _ q => by omega)).tr (f3.k.mono (fun a _ q => by omega))⟩
theorem ch_go {B : BK} {P : AP} {N : Nat → Int64} {x : PN} {m : Nat} (W : WfB B) (Sx : Sh h) (RB : RepB h B) (RP : RepC h 16 P) (hN : ∀ d, d < 258 → aJ h 25 d = N d) (wm : MoS h m) (rm : MoR h m x) : ∀ (k n i : Nat), i + k = 258 → k < n → f_X8_changesTo_4 0 m n h (nI (chC B P N x i)) (nI i) = some (nI (chC B P N x 258)) := by
  intro k
  induction k with
  | zero =>
    intro n i hi hn
    obtain ⟨n, rfl⟩ : ∃ j, n = j + 1 := ⟨n - 1, by omega⟩
    unfold f_X8_changesTo_4
    rw [if_pos (show (258 : Int32) ≤ nI i from nI_le (a := 258) (by omega) (by omega)), show i = 258 by omega]
  | succ k ih =>
    intro n i hi hn
    obtain ⟨n, rfl⟩ : ∃ j, n = j + 1 := ⟨n - 1, by omega⟩
    have hi8 : i < 258 := by omega
    rw [← ih n (i + 1) (by omega) (by omega)]
    have hs : chC B P N x (i + 1) = chC B P N x i + (if (decide (isC B P i ≠ isC B x.1 i) || decide (N i ≠ x.2 i)) = true then 1 else 0) := by
      unfold chC
      rw [List.range_succ, List.countP_append, List.countP_singleton]
    have g0 : gP h 2 m 0 = some (m + 1) := gP_n wm.2.2.1 wm.2.2.2.1
    have g1 : gP h 2 m 1 = some (m + 10) := gP_n wm.2.2.1 wm.2.2.2.2.1
    have l1 : ldJ h (m + 10) (nI i) = some (x.2 i) := by
      rw [ldJ_n wm.2.2.2.2.2.2.1 (by rw [wm.2.2.2.2.2.2.2]; exact hi8) (by rw [wm.2.2.2.2.2.2.2]; decide), rm.2 i hi8]
    conv => lhs; unfold f_X8_changesTo_4
    rw [if_neg (show ¬ (258 : Int32) ≤ nI i from nI_ge (b := 258) hi8 (by decide)), g_0_0 Sx, bs, g_0_2 Sx, bs, q_isCell Sx W RB (S_16 Sx) RP hi8, bs, bs, g0, bs, q_isCell Sx W RB wm.2.2.2.2.2.1 rm.1 hi8, bs, g_0_3 Sx, nI_1 i, hs]
    by_cases q : isC B P i = isC B x.1 i
    · rw [if_pos (by rw [q]), bs, if_pos rfl, bs, ld_25 Sx hi8, bs, g1, bs, l1, bs, hN i hi8]
      by_cases q2 : N i = x.2 i
      · rw [if_pos ((cmp_eq _ _).mpr q2), bs]
        simp [q, q2]
      · rw [if_neg (fun e => q2 ((cmp_eq _ _).mp e)), bs]
        simp [q, q2]
        rw [nI_1]
    · have q3 : ¬ (if isC B P i = true then (1 : Int32) else 0) = (if isC B x.1 i = true then 1 else 0) := by
        intro e
        apply q
        revert e
        cases isC B P i <;> cases isC B x.1 i <;> decide
      rw [if_neg q3, bs, if_neg (by decide), bs]
      simp [q]
      rw [nI_1]
theorem q_undo (W : WfS S) (x : InvC h S) : CallOk h (f_X8_undo h 0) (oUndo S) := by
  have Sx := x.1
  unfold f_X8_undo oUndo
  rw [if_pos (k_0 Sx), n_closed x, bs]
  by_cases qo : tO S = false
  · rw [if_neg (by rw [qo]; decide), if_pos (Or.inl qo)]; exact call_e W x 0
  have hO := o_ne qo
  rw [if_pos hO]
  simp only []
  rw [gi_0 Sx, bs, x.o9]
  cases eg : tG S with
  | true => rw [if_neg (by decide), if_pos (Or.inr rfl)]; exact call_e W x 0
  | false =>
    rw [if_pos (by decide), if_neg (fun q => q.elim qo (by decide)), g_0_7 Sx, bs]
    obtain ⟨-, a2, a3, a4, a5, a6, a7, a8, a9, a10, a11, a12⟩ := x
    rcases q_takeLatest Sx a12 with ⟨e1, e2⟩ | ⟨K, y, m, h1, e1, e2, f1, p1, wm, rm⟩
    · rw [e2, bs, e1]
      exact ⟨h, rfl, ⟨Sx, a2, a3, a4, a5, a6, a7, a8, a9, a10, a11, a12⟩, W, Fk.rf _ _⟩
    have f1g := f1.g
    have S1 := f1.S Sx
    have oky : okP (tB S) y := (W.2.2.2.2.2.2.1 hO).2 y (by rw [e1]; exact List.mem_append.mpr (Or.inr (List.mem_singleton.mpr rfl)))
    have fy : WfA y.1 (bT (tB S)) (bL (tB S)) := oky.1
    have hm77 := wm.1
    have a2' := f1g.B a2 (by omega) (by omega) (by omega) (by omega)
    have a5' := f1g.R a5 (fun a q1 q2 => by omega)
    have hch : f_X8_changesTo h1 0 m = some (nI (chC (tB S) (tP S) (tN S) y 258)) := by
      unfold f_X8_changesTo
      have := ch_go (x := y) (N := tN S) W.1 S1 a2' a5' (fun d hd => by rw [f1.j (by omega)]; exact a6 d hd) wm rm 258 FU 0 rfl (by unfold FU; omega)
      have e : f_X8_changesTo_4 0 m FU h1 0 0 = some (nI (chC (tB S) (tP S) (tN S) y 258)) := this
      rw [if_pos (k_0 S1), e, bs]
    have g0 : gP h1 2 m 0 = some (m + 1) := gP_n wm.2.2.1 wm.2.2.2.1
    obtain ⟨h2, e3, f2, c2⟩ := q_copyFrom (S_16 S1) wm.2.2.2.2.2.1 (by omega)
    have f2g := f2.g
    have S2 := f2g.S S1
    have r2 : RepC h2 16 y.1 := rep_of rm.1 c2 (fun l => fy.len l)
    obtain ⟨h3, e4, f3, r3⟩ := q_cp716 S2 r2 (fun l => fy.len l)
    have S3 := f3.S S2
    have wm3 : MoS h3 m := (wm.fr f2g (fun a q1 q2 => by omega)).fr f3 (fun a q1 q2 => by omega)
    have rm3 : MoR h3 m y := (rm.fr f2g (fun a q1 q2 => by omega)).fr f3 (fun a q1 q2 => by omega)
    have g1 : gP h3 2 m 1 = some (m + 10) := gP_n wm3.2.2.1 wm3.2.2.2.2.1
    obtain ⟨h4, eh4⟩ : ∃ z, z = rJ h3 25 (va_cpy (aJ h3 (m + 10)) (aJ h3 25) 0 0 258) := ⟨_, rfl⟩
    have c4 : cpJ h3 (m + 10) 0 25 0 258 = some h4 := by
      rw [eh4]
      exact cpJ_n (n := 258) wm3.2.2.2.2.2.2.1 (k_25 S3) (by rw [wm3.2.2.2.2.2.2.2]; decide) (by rw [e_25 S3]; decide) (by decide)
    have f4 : Fr h3 h4 (fun a => a = 25) := by rw [eh4]; exact Fr.rj rfl
    have S4 := f4.S S3
    have F14 : Fr h1 h4 (fun a => (7 < a ∧ a ≤ 15) ∨ (16 < a ∧ a ≤ 24) ∨ a = 25) := ((f2g.mono (fun a q => by omega)).tr (f3.mono (fun a q => by omega))).tr (f4.mono (fun a q => by omega))
    have n4 : ∀ d, d < 258 → aJ h4 25 d = y.2 d := fun d hd => by
      rw [eh4, rJ_J, if_pos rfl, cpyJ_at hd]
      exact rm3.2 d hd
    have a2'' := F14.B a2' (by omega) (by omega) (by omega) (by omega)
    have r4 : RepC h4 16 y.1 := f4.R (f3.R r2 (fun a q1 q2 => by omega)) (fun a q1 q2 => by omega)
    obtain ⟨h5, b5, e5, f5, x5, bt5, w43, cm5, -⟩ := q_arrange S4 W.1 a2'' fy (S_16 S4) r4 (by decide)
    have F45 : Fr h4 h5 (fun a => a = 34 ∨ a = 35 ∨ a = 36 ∨ a = 39 ∨ a = 40 ∨ a = 41 ∨ a = 43 ∨ a = 44) := by
      have q1 : Fr h4 (sP h4 34 12 (some 16)) (fun a => a = 34 ∨ a = 35 ∨ a = 36 ∨ a = 39 ∨ a = 40 ∨ a = 41 ∨ a = 43 ∨ a = 44) := Fr.sp (Or.inl rfl) (by decide)
      exact q1.tr f5.g
    have S5 := x5.1
    obtain ⟨h6, e6, f6, w6⟩ := q_rcopy (S5.r (r := 26) (by decide)) (S5.r (r := 43) (by decide)) w43 (by decide)
    have S6 := f6.S S5
    obtain ⟨h7, e7, f7, w7⟩ := q_clear (S6.r (r := 28) (by decide))
    have FF : Fr h h7 (fun a => a = 51 ∨ (7 < a ∧ a ≤ 15) ∨ (16 < a ∧ a ≤ 24) ∨ a = 25 ∨ (34 ≤ a ∧ a ≤ 44) ∨ a = 26 ∨ a = 27 ∨ a = 28) := (((f1g.mono (fun a q => by omega)).tr (F14.mono (fun a q => by omega))).tr (F45.mono (fun a q => by omega))).tr ((f6.g.mono (fun a q => by omega)).tr (f7.g.mono (fun a q => by omega)))
    have F17 : Fr h1 h7 (fun a => (7 < a ∧ a ≤ 15) ∨ (16 < a ∧ a ≤ 24) ∨ a = 25 ∨ (34 ≤ a ∧ a ≤ 44) ∨ a = 26 ∨ a = 27 ∨ a = 28) := ((F14.mono (fun a q => by omega)).tr (F45.mono (fun a q => by omega))).tr ((f6.g.mono (fun a q => by omega)).tr (f7.g.mono (fun a q => by omega)))
    have hl : (tH S).getLast? = some y := by rw [e1]; simp
    have hd : (tH S).dropLast = K := by rw [e1]; simp
    rw [e2, bs, hl, hd]
    simp only []
    rw [hch, bs, g_0_2 S1, bs, g0, bs, e3, bs, g_0_1 S2, bs, g_0_2 S2, bs, e4, bs, g1, bs, g_0_3 S3, bs, c4, bs, g_0_6 S4, bs, g_30_1 S4, bs, g_0_2 S4, bs, e5, bs]
    simp only []
    rw [g_0_4 S5, bs, g_0_6 S5, bs, g_30_1 S5, bs, g_34_9 S5, bs, e6, bs, g_0_5 S6, bs, e7, bs]
    refine ⟨h7, rfl, ⟨FF.S Sx, FF.B a2 (by omega) (by omega) (by omega) (by omega), a3.fr (FF.i (by omega)) (FF.i (by omega)) (FF.i (by omega)), ?_, ?_, fun d hd => ?_, ?_, w7, FF.w a9 (by omega) (by omega), a10.fr (FF.i (by omega)), ?_, p1.fr F17 (by omega) (by omega) (fun a q1 q2 => by omega)⟩, ?_, FF.k.mono (fun a _ q => by omega)⟩
    · exact f7.R (f6.R (F45.R (f4.R r3 (fun a q1 q2 => by omega)) (fun a q1 q2 => by omega)) (fun a q1 q2 => by omega)) (fun a q1 q2 => by omega)
    · exact f7.R (f6.R (F45.R r4 (fun a q1 q2 => by omega)) (fun a q1 q2 => by omega)) (fun a q1 q2 => by omega)
    · rw [f7.j (by omega), f6.j (by omega), F45.j (by omega)]; exact n4 d hd
    · have : orS (unS S K y) = orA (isC (tB S) y.1) (rdB (tB S) y.1) := if_pos hO
      rw [this]
      exact f7.w w6 (by omega) (by omega)
    · rw [FF.i (by omega)]; exact a11
    · obtain ⟨w1, w2, w3, w4, w5, w6, w7, w8, w9, w10⟩ := W
      refine ⟨w1, w2, fy, oky.2.1, fy, oky.2.1, fun _ => ⟨oky, fun z hz => (w7 hO).2 z (by rw [e1]; exact List.mem_append.mpr (Or.inl hz))⟩, fun q => absurd (show tO S = false from q) (by rw [hO]; decide), w9, ?_⟩
      rw [e1, List.length_append] at w10
      show K.length ≤ 60
      omega
end Groups
