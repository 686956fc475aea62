/-! THE OTHER ONE: its plans, its book -/
def RpR (h : AH) (b o : Nat) (A : AP) : Prop := (∀ i, i < 160 → aI h b (o + i) = qF A i) ∧ (∀ i, i < 12 → aI h b (o + (160 + i)) = qL A i) ∧ (∀ i, i < 40 → aI h b (o + (172 + i)) = qK A i) ∧ (∀ t, t < 40 → aI h b (o + (212 + t)) = ov (hmA A t)) ∧ (∀ l k, l < 6 → k < qS A l → aI h b (o + (252 + 40 * l + k)) = nI (qR A l k)) ∧ (∀ l, l < 6 → aI h b (o + (492 + l)) = nI (qS A l)) ∧ ∀ l, l < 6 → aI h b (o + (498 + l)) = nI (qZ A l)
def BkR (h : AH) (b : Nat) : Prop := aK h b = 10 ∧ aE h b = 504
theorem BkR.ld {h : AH} {b i : Nat} (w : BkR h b) (hi : i < 504) : ldI h b (nI i) = some (aI h b i) := ldI_n w.1 (by rw [w.2]; exact hi) (by rw [w.2]; decide)
theorem BkR.st {h : AH} {b i : Nat} {v : Int32} (w : BkR h b) (hi : i < 504) : stI h b (nI i) v = some (sI h b i v) := stI_n w.1 (by rw [w.2]; exact hi) (by rw [w.2]; decide)
theorem Sh.b {h : AH} (S : Sh h) {b : Nat} (hb : b = 59 ∨ b = 60 ∨ b = 61) : BkR h b := by
  rcases hb with rfl | rfl | rfl
  · exact ⟨k_59 S, e_59 S⟩
  · exact ⟨k_60 S, e_60 S⟩
  · exact ⟨k_61 S, e_61 S⟩
def RbR (h : AH) (B : BK) : Prop := aI h 53 2 = nI (bT B) ∧ aI h 53 3 = nI (bL B) ∧ (∀ k, k < 9 → aI h 56 k = nI (bN B k)) ∧ ∀ k s, k < 9 → s < bN B k → aI h 57 (24 * k + s) = nI (bC B k s) ∧ aI h 58 (24 * k + s) = bV B k s
theorem a212 (t : Nat) : (212 : Int32) + nI t = nI (212 + t) := nI_add 212 t
theorem a172 (t : Nat) : (172 : Int32) + nI t = nI (172 + t) := nI_add 172 t
theorem a492 (t : Nat) : (492 : Int32) + nI t = nI (492 + t) := nI_add 492 t
theorem a498 (t : Nat) : (498 : Int32) + nI t = nI (498 + t) := nI_add 498 t
theorem m40 (l : Nat) : nI l * 40 = nI (40 * l) := by rw [show (40 : Int32) = nI 40 from rfl, pk_mul, Nat.mul_comm]
theorem a252 (l : Nat) : (252 : Int32) + nI l * 40 = nI (252 + 40 * l) := by rw [m40]; exact nI_add 252 _
theorem m24 (k s : Nat) : nI k * 24 + nI s = nI (24 * k + s) := by rw [show (24 : Int32) = nI 24 from rfl, pk_mul, nI_add, Nat.mul_comm]
section RefR
variable {h : AH} {B : BK} {A : AP} {b T Ls : Nat}
theorem RpR.hm (R : RpR h b 0 A) (w : BkR h b) {t : Nat} (ht : t < 40) : ldI h b (212 + nI t) = some (ov (hmA A t)) := by
  have := R.2.2.2.1 t ht
  rw [Nat.zero_add] at this
  rw [a212, w.ld (by omega), this]
theorem RpR.sz (R : RpR h b 0 A) (w : BkR h b) {l : Nat} (hl : l < 6) : ldI h b (492 + nI l) = some (nI (qS A l)) := by
  have := R.2.2.2.2.2.1 l hl
  rw [Nat.zero_add] at this
  rw [a492, w.ld (by omega), this]
theorem RpR.fz (R : RpR h b 0 A) (w : BkR h b) {l : Nat} (hl : l < 6) : ldI h b (498 + nI l) = some (nI (qZ A l)) := by
  have := R.2.2.2.2.2.2 l hl
  rw [Nat.zero_add] at this
  rw [a498, w.ld (by omega), this]
theorem RpR.rw (R : RpR h b 0 A) (w : BkR h b) (f : WfA A T Ls) {l k : Nat} (hl : l < 6) (hk : k < qS A l) : ldI h b ((252 + nI l * 40) + nI k) = some (nI (qR A l k)) := by
  have := R.2.2.2.2.1 l k hl hk
  have hlen := f.len l
  rw [Nat.zero_add] at this
  rw [a252, nI_add, w.ld (by omega), this]
theorem RpR.lk (R : RpR h b 0 A) (w : BkR h b) {t : Nat} (ht : t < 40) : ldI h b (172 + nI t) = some (qK A t) := by
  have := R.2.2.1 t ht
  rw [Nat.zero_add] at this
  rw [a172, w.ld (by omega), this]
theorem r_ownerOf (h : AH) {c : Nat} (hc : c < 258) : f_X9_ownerOf h (nI c) = some (nI (owN c)) := q_ownerOf h hc
theorem r_kindOf (h : AH) {c : Nat} (hc : c < 258) : f_X9_kindOf h (nI c) = some (nI (kiN c)) := q_kindOf h hc
theorem r_isCell (S : Sh h) (W : WfB B) (R : RbR h B) (w : BkR h b) (RA : RpR h b 0 A) (f : WfA A (bT B) (bL B)) {c : Nat} (hc : c < 258) : f_X9_isCell h 53 b (nI c) = some (bI (isC B A c)) := by
  have h24 := (W.2.2 (kiN c) ki9).1
  have hL := W.2.1
  have hT := W.1
  unfold f_X9_isCell isC
  rw [if_pos (k_53 S), g_53_7 S, bs, r_kindOf h hc, bs, ld_56 S ki9, bs, R.2.2.1 _ ki9]
  by_cases z : bN B (kiN c) = 0
  · rw [z, if_pos (show nI 0 = 0 from rfl)]
    simp [bI]
  · rw [if_neg (nI_ne0 (by omega) (by omega))]
    by_cases q : c < 240
    · have how := ow40 q
      rw [if_neg (show ¬ (240 : Int32) ≤ nI c from nI_ge (b := 240) q (by decide)), r_ownerOf h hc, bs, gi_53 S, bs, R.1, if_pos q, bs, RA.hm w how, bs]
      rcases hm_or f (owN c) with ⟨e1, -, hn⟩ | ⟨l, k, -, hl, hk, e2, e1, -⟩
      · rw [e1, ov_n, if_pos rfl]
        by_cases y : nI (bT B) ≤ nI (owN c)
        · rw [if_pos y]; simp [bs, bz0, bI]
        · rw [if_neg y]; simp [bs, bz0, bI]
      · have ht : owN c < bT B := by rw [← e2]; exact f.2.2.1 l k hk
        rw [e1, ov_s, if_neg (nI_nm (by omega)), if_neg (nI_ge ht (by omega))]
        simp [z, bs, bz1, bI]
    · have := ow6 q hc
      rw [if_pos (show (240 : Int32) ≤ nI c from nI_le (a := 240) (by omega) (by omega)), r_ownerOf h hc, bs, gi_53 S, bs, R.2.1, if_neg q]
      by_cases y : owN c < bL B
      · rw [if_neg (nI_ge y (by omega))]; simp [z, y, bs, bz1, bI]
      · rw [if_pos (nI_le (by omega) (by omega))]; simp [y, bs, bz0, bI]
theorem plc_go (w : BkR h b) (RA : RpR h b 0 A) (f : WfA A T Ls) {l k : Nat} (hk : k < qS A l) : ∀ (m n i : Nat), i + m = k → m < n → f_X9_placeOf_10 b (nI (qR A l k)) (nI l) n h (nI i) = some (.inl (nI k)) := by
  have hl := (f.l6 hk).2
  have hlen := f.len l
  have t1 := f.t40 hk
  intro m
  induction m with
  | zero =>
    intro n i hi hn
    obtain ⟨n, rfl⟩ : ∃ j, n = j + 1 := ⟨n - 1, by omega⟩
    have : i = k := by omega
    subst this
    unfold f_X9_placeOf_10
    rw [RA.sz w hl, bs, if_neg (nI_ge hk (by omega)), RA.rw w f hl hk, bs, if_pos rfl]
  | succ m ih =>
    intro n i hi hn
    obtain ⟨n, rfl⟩ : ∃ j, n = j + 1 := ⟨n - 1, by omega⟩
    have hi' : i < qS A l := by omega
    have t2 := f.t40 hi'
    unfold f_X9_placeOf_10
    rw [RA.sz w hl, bs, if_neg (nI_ge hi' (by omega)), RA.rw w f hl hi', bs, if_neg (fun e => by
      have e2 := (nI_eq (by omega) (by omega)).mp e
      have := (f.2.2.2.1 l i l k hi' hk e2).2
      omega), nI_1, ih n (i + 1) (by omega) (by omega)]
theorem r_placeOf (w : BkR h b) (RA : RpR h b 0 A) (f : WfA A T Ls) {t l k : Nat} (ht : t < 40) (h1 : hmA A t = some l) (hk : k < qS A l) (e : qR A l k = t) : f_X9_placeOf h b (nI t) = some (nI k) := by
  have hlen := f.len l
  unfold f_X9_placeOf
  have := plc_go w RA f hk k FU 0 (by omega) (by unfold FU; omega)
  rw [e] at this
  rw [RA.hm w ht, bs, h1, ov_s, show (0 : Int32) = nI 0 from rfl, this, bs]
theorem r_isFrozenThing (w : BkR h b) (RA : RpR h b 0 A) (f : WfA A T Ls) {t : Nat} (ht : t < 40) : f_X9_isFrozenThing h b (nI t) = some (bI (fzA A t)) := by
  unfold f_X9_isFrozenThing fzA
  rw [RA.hm w ht, bs]
  rcases hm_or f t with ⟨e1, e2, -⟩ | ⟨l, k, -, hl, hk, e3, e1, e2⟩
  · rw [e1, ov_n, if_pos rfl, bs, bz0, bs]
    rfl
  · have hlen := f.len l
    have hz := f.2.2.2.2.2.1 l
    rw [e1, e2, ov_s, if_neg (nI_nm (by omega)), r_placeOf w RA f ht e1 hk e3, bs, bs, RA.fz w hl, bs]
    simp only []
    by_cases q : k < qZ A l
    · rw [if_neg (nI_ge q (by omega))]; simp [q, bs, bz1, bI]
    · rw [if_pos (nI_le (by omega) (by omega))]; simp [q, bs, bz0, bI]
theorem r_isFrozen (w : BkR h b) (RA : RpR h b 0 A) (f : WfA A T Ls) {c : Nat} (hc : c < 258) : f_X9_isFrozen h b (nI c) = some (bI (fzC A c)) := by
  unfold f_X9_isFrozen fzC
  by_cases q : c < 240
  · rw [if_neg (show ¬ (240 : Int32) ≤ nI c from nI_ge (b := 240) q (by decide)), r_ownerOf h hc, bs, r_isFrozenThing w RA f (ow40 q), bs]
    cases fzA A (owN c) <;> simp [q, bI, bs, bz0, bz1]
  · rw [if_pos (show (240 : Int32) ≤ nI c from nI_le (a := 240) (by omega) (by omega)), bs, bz0, bs]
    simp [q, bI]
theorem r_neighbour_b (w : BkR h b) (RA : RpR h b 0 A) (f : WfA A T Ls) {t l k : Nat} (ht : t < 40) (h1 : hmA A t = some l) (h2 : spA A t = some k) (hk : k < qS A l) (e : qR A l k = t) : f_X9_neighbour h b (nI t) (-1) = some (ov (nbB A l t)) := by
  have hlen := f.len l
  have hl := (f.l6 hk).2
  unfold f_X9_neighbour nbB
  rw [RA.hm w ht, bs, r_placeOf w RA f ht h1 hk e, bs, h1, ov_s, h2]
  cases k with
  | zero => rw [if_pos (show nI 0 + -1 < 0 by decide), bs]; rfl
  | succ k =>
    rw [pk_m1, if_neg (nI_nn (by omega)), RA.sz w hl, bs, if_neg (nI_ge (by omega) (by omega)), RA.rw w f hl (by omega), bs, bs]
    show _ = some (ov (if k < qS A l then some (qR A l k) else none))
    rw [if_pos (by omega)]
    rfl
theorem r_neighbour_a (w : BkR h b) (RA : RpR h b 0 A) (f : WfA A T Ls) {t l k : Nat} (ht : t < 40) (h1 : hmA A t = some l) (h2 : spA A t = some k) (hk : k < qS A l) (e : qR A l k = t) : f_X9_neighbour h b (nI t) 1 = some (ov (nbA A l t)) := by
  have hlen := f.len l
  have hl := (f.l6 hk).2
  unfold f_X9_neighbour nbA
  rw [RA.hm w ht, bs, r_placeOf w RA f ht h1 hk e, bs, h1, ov_s, h2, nI_1, if_neg (nI_nn (by omega)), RA.sz w hl, bs]
  show _ = some (ov (if k + 1 < qS A l then some (qR A l (k + 1)) else none))
  by_cases q : k + 1 < qS A l
  · rw [if_neg (nI_ge q (by omega)), RA.rw w f hl q, bs, bs, if_pos q]; rfl
  · rw [if_pos (nI_le (by omega) (by omega)), bs, if_neg q]; rfl
theorem r_linkOf (w : BkR h b) (RA : RpR h b 0 A) (f : WfA A T Ls) {t : Nat} (ht : t < 40) : f_X9_linkOf h b (nI t) = some (ov (lkN A t)) := by
  have hT := f.1
  unfold f_X9_linkOf lkN
  rw [RA.lk w ht, bs]
  rcases f.2.2.2.2.2.2 t ht with e | ⟨u, hu, e⟩
  · rw [e, if_pos rfl, if_pos rfl, bs]
    rfl
  · rw [e, if_neg (nI_nm (by omega)), if_neg (nI_nm (by omega)), nI_clamp (by omega), RA.hm w (by omega), bs]
    cases e1 : hmA A u with
    | none => rw [ov_n, if_pos rfl, bs, if_pos rfl]; rfl
    | some l => rw [ov_s, if_neg (nI_nm (by have := hm6 e1; omega)), bs, if_neg (by simp)]; rfl
end RefR
