/-! calls: what they share -/
def dcN (x : Int32) (n : Nat) : Option Nat := if x < 0 then none else if x.toNatClampNeg < n then some x.toNatClampNeg else none
theorem dc_or (x : Int32) {n : Nat} (hn : n < 2 ^ 31) : (dcN x n = none ∧ (x < 0 ∨ (¬ x < 0 ∧ nI n ≤ x ∧ ¬ x < nI n))) ∨ ∃ k, k < n ∧ x = nI k ∧ dcN x n = some k ∧ ¬ x < 0 ∧ x < nI n ∧ ¬ nI n ≤ x := by
  unfold dcN
  by_cases q : x < 0
  · exact Or.inl ⟨if_pos q, Or.inl q⟩
  · obtain ⟨j, hj, e⟩ := nI_of q
    subst e
    rw [if_neg q, nI_clamp hj]
    by_cases q2 : j < n
    · exact Or.inr ⟨j, q2, rfl, if_pos q2, q, nI_lt q2 hn, nI_ge q2 hn⟩
    · exact Or.inl ⟨if_neg q2, Or.inr ⟨q, nI_le (by omega) hj, nI_nlt (by omega) hj⟩⟩
def CallOk (h : AH) (r : Option (Except Nat Int32 × AH)) (o : Except Nat Int32 × SX) : Prop := ∃ h', r = some (o.1, h') ∧ InvC h' o.2 ∧ WfS o.2 ∧ Fk h h' (fun a => a < 53)
theorem Sh.nx {h : AH} (S : Sh h) : Sh (nx h) := ⟨by show 77 ≤ aN h + 1; have := S.1; omega, S.2⟩
theorem Fk.nx {h : AH} {P : Nat → Prop} : Fk h (nx h) P := ⟨Nat.le_succ _, fun S => S.nx, fun _ _ _ => ⟨rfl, rfl, rfl⟩⟩
section Calls
variable {h : AH} {S : SX}
theorem call_e (W : WfS S) (x : InvC h S) (k : Nat) : CallOk h (some (.error k, nx h)) (.error k, S) := ⟨nx h, rfl, x.nx, W, Fk.nx⟩
theorem call_s (W : WfS S) (x : InvC h S) (v : Int32) : CallOk h (some (.ok v, h)) (.ok v, S) := ⟨h, rfl, x, W, Fk.rf _ _⟩
theorem InvC.mv {h1 : AH} {A : AP} (x : InvC h S) (f : Fr h h1 (fun a => 7 < a ∧ a ≤ 15)) (R : RepC h1 7 A) : InvC h1 (seA S A) := by
  obtain ⟨a1, a2, a3, a4, a5, a6, a7, a8, a9, a10, a11, a12⟩ := x
  refine ⟨f.S a1, f.B a2 (by omega) (by omega) (by omega) (by omega), a3.fr (f.i (by omega)) (f.i (by omega)) (f.i (by omega)), R, f.R a5 (fun a q1 q2 => by omega), fun d hd => by rw [f.j (by omega)]; exact a6 d hd, f.w a7 (by omega) (by omega), f.w a8 (by omega) (by omega), f.w a9 (by omega) (by omega), a10.fr (f.i (by omega)), ?_, a12.fr f (by omega) (by omega) (fun a q1 q2 => by omega)⟩
  rw [f.i (by omega)]
  exact a11
def mvO (S : SX) (A : AP) : Except Nat Int32 × SX := (.ok (stS S A).1, (stS S A).2)
theorem call_m (W : WfS S) (hO : tO S = true) (x : InvC h S) {h1 : AH} {A : AP} (f : Fr h h1 (fun a => 7 < a ∧ a ≤ 15)) (R : RepC h1 7 A) (fA : WfA A (bT (tB S)) (bL (tB S))) (zA : zfA A) : CallOk h (Option.bind (f_X8_settle h1 0) fun w => match w with
    | (x22, h23) => some (.ok x22, h23)) (mvO S A) := by
  obtain ⟨h2, e2, x2, f2⟩ := q_settle W hO (x.mv f R) fA
  exact ⟨h2, by rw [e2, bs]; rfl, x2, wf_settle W hO fA zA, (f.k.mono (fun a _ q => by omega)).tr f2⟩
theorem n_thing (W : WfS S) (x : InvC h S) (a : Int32) : (dcN a (bT (tB S)) = none ∧ f_X8_needThing h 0 a = some (.error 2, nx h)) ∨ ∃ t, t < bT (tB S) ∧ t < 40 ∧ a = nI t ∧ dcN a (bT (tB S)) = some t ∧ f_X8_needThing h 0 a = some (.ok (), h) := by
  have Sx := x.1
  have hT := W.1.1
  unfold f_X8_needThing
  rw [if_pos (k_0 Sx)]
  rcases dc_or a (n := bT (tB S)) (by omega) with ⟨e, q | ⟨q1, -, q2⟩⟩ | ⟨t, ht, e, e2, q1, q2, -⟩
  · exact Or.inl ⟨e, by rw [if_pos q]⟩
  · exact Or.inl ⟨e, by rw [if_neg q1, g_0_0 Sx, bs, gi_1 Sx, bs, x.2.1.1, if_neg q2]⟩
  · exact Or.inr ⟨t, ht, by omega, e, e2, by rw [if_neg q1, g_0_0 Sx, bs, gi_1 Sx, bs, x.2.1.1, if_pos q2]⟩
theorem n_list (W : WfS S) (x : InvC h S) (a : Int32) : (dcN a (bL (tB S)) = none ∧ f_X8_needList h 0 a = some (.error 2, nx h)) ∨ ∃ l, l < bL (tB S) ∧ l < 6 ∧ a = nI l ∧ dcN a (bL (tB S)) = some l ∧ f_X8_needList h 0 a = some (.ok (), h) := by
  have Sx := x.1
  have hT := W.1.2.1
  unfold f_X8_needList
  rw [if_pos (k_0 Sx)]
  rcases dc_or a (n := bL (tB S)) (by omega) with ⟨e, q | ⟨q1, -, q2⟩⟩ | ⟨t, ht, e, e2, q1, q2, -⟩
  · exact Or.inl ⟨e, by rw [if_pos q]⟩
  · exact Or.inl ⟨e, by rw [if_neg q1, g_0_0 Sx, bs, gi_1 Sx, bs, x.2.1.2.1, if_neg q2]⟩
  · exact Or.inr ⟨t, ht, by omega, e, e2, by rw [if_neg q1, g_0_0 Sx, bs, gi_1 Sx, bs, x.2.1.2.1, if_pos q2]⟩
theorem InvC.o8 (x : InvC h S) : aI h 0 8 = bI (tO S) := x.2.2.2.2.2.2.2.2.2.2.1.1
theorem InvC.o9 (x : InvC h S) : aI h 0 9 = bI (tG S) := x.2.2.2.2.2.2.2.2.2.2.1.2.1
theorem InvC.o10 (x : InvC h S) : aI h 0 10 = nI (tM S) := x.2.2.2.2.2.2.2.2.2.2.1.2.2.1
theorem InvC.o11 (x : InvC h S) : aI h 0 11 = nI (tU S) := x.2.2.2.2.2.2.2.2.2.2.1.2.2.2.1
theorem InvC.o12 (x : InvC h S) : aI h 0 12 = nI (tF S) := x.2.2.2.2.2.2.2.2.2.2.1.2.2.2.2
theorem n_closed (x : InvC h S) : f_X8_needClosedBook h 0 = some (if tO S = true then (.ok (), h) else (.error 0, nx h)) := by
  have Sx := x.1
  unfold f_X8_needClosedBook
  rw [if_pos (k_0 Sx), gi_0 Sx, bs, x.o8]
  cases tO S <;> rfl
theorem n_open (x : InvC h S) : f_X8_needOpenBook h 0 = some (if tO S = true then (.error 0, nx h) else (.ok (), h)) := by
  have Sx := x.1
  unfold f_X8_needOpenBook
  rw [if_pos (k_0 Sx), gi_0 Sx, bs, x.o8]
  cases tO S <;> rfl
theorem need_0 (h : AH) : f_X8_need h 0 = some (.error 1, nx h) := rfl
theorem need_1 (h : AH) : f_X8_need h 1 = some (.ok (), h) := rfl
end Calls
section Plans
variable {A : AP} {T Ls : Nat}
theorem hm_rem (f : WfA A T Ls) {l k : Nat} (hk : k < qS A l) : hmA (remA A l k) (qR A l k) = none := by
  refine (hm_off (fun m i _ hi e => ?_)).1
  have hi' : i < remS A l m := hi
  have e' : remR A l k m i = qR A l k := e
  unfold remS at hi'
  unfold remR at e'
  by_cases c : m = l ∧ k ≤ i
  · rw [if_pos c] at e'
    rw [if_pos c.1] at hi'
    have := (f.2.2.2.1 l (i + 1) l k (by omega) hk e').2
    omega
  · rw [if_neg c] at e'
    have hi2 : i < qS A m := by
      split at hi'
      · rename_i q; subst q; omega
      · exact hi'
    have := f.2.2.2.1 m i l k hi2 hk e'
    exact c ⟨this.1, by omega⟩
theorem zf_ins (z : zfA A) {l k t : Nat} : zfA (insA A l k t) := fun m => by
  have := z m
  show qZ A m ≤ insS A l m
  unfold insS
  split
  · rename_i q; subst q; omega
  · exact this
theorem zf_rem (z : zfA A) {l k : Nat} (h : qZ A l ≤ k) (hk : k < qS A l) : zfA (remA A l k) := fun m => by
  have := z m
  show qZ A m ≤ remS A l m
  unfold remS
  split
  · rename_i q; subst q; omega
  · exact this
theorem zf_mv (z : zfA A) {l k l2 a t : Nat} (hk : k < qS A l) (h : (l2 = l ∧ a = k) ∨ qZ A l ≤ k) : zfA (insA (remA A l k) l2 a t) := fun m => by
  have hz := z m
  have hzl := z l
  show qZ A m ≤ insS (remA A l k) l2 m
  unfold insS
  have e : ∀ x, qS (remA A l k) x = remS A l x := fun _ => rfl
  rw [e, e]
  unfold remS
  by_cases c1 : m = l2
  · rw [if_pos c1]
    by_cases c2 : l2 = l
    · rw [if_pos c2]
      subst c1; subst c2; omega
    · rw [if_neg c2]
      subst c1; omega
  · rw [if_neg c1]
    by_cases c2 : m = l
    · rw [if_pos c2]
      subst c2
      rcases h with q | q
      · omega
      · omega
    · rw [if_neg c2]; exact hz
theorem zf_exc (z : zfA A) {l k m j : Nat} : zfA (excA A l k m j) := z
theorem zf_rev (z : zfA A) {l a b : Nat} : zfA (revA A l a b) := z
theorem zf_cr (z : zfA A) {l a m b : Nat} (h1 : qZ A l ≤ a) (h2 : qZ A m ≤ b) : zfA (crA A l a m b) := fun x => by
  have hz := z x
  show qZ A x ≤ crS A l a m b x
  unfold crS
  split
  · rename_i q; subst q; omega
  · split
    · rename_i q; subst q; omega
    · exact hz
/-- frozen: where it stands -/
theorem fz_at (f : WfA A T Ls) {l k : Nat} (hk : k < qS A l) : fzA A (qR A l k) = decide (k < qZ A l) := by
  obtain ⟨a, b⟩ := hm_at f hk
  unfold fzA
  rw [a, b]
theorem fz_off {t : Nat} (h : hmA A t = none) : fzA A t = false := by
  unfold fzA
  rw [h]
end Plans
