/-! the Judge: what a move touches -/
def dfS (B : BK) (P A : AP) (N F : Nat → Int64) (c s : Nat) : Bool := decide (sdS B P c s ≠ sdS B A c s) || (sdS B A c s).any (fun d => decide (N d ≠ F d)) || (decide (cdN B c s = 2 ∨ cdN B c s = 3) && decide (lsD P c ≠ lsD A c)) || (decide (1 ≤ cdN B c s ∧ cdN B c s ≤ 3) && decide (giN B P c s ≠ giN B A c s))
def tcG (B : BK) (P A : AP) (N F : Nat → Int64) (c : Nat) : Bool := !(isC B P c) || fzC P c || (List.range (nsN B c)).any (dfS B P A N F c)
def Cj (h : AH) (B : BK) (P A : AP) (N F : Nat → Int64) : Prop := Sh h ∧ RepB h B ∧ RepC h 16 P ∧ RepC h 7 A ∧ (aP h 30 9 = some 16 ∧ aP h 30 10 = some 7 ∧ aP h 30 11 = some 25) ∧ (∀ d, d < 258 → aJ h 25 d = N d) ∧ ∀ d, d < 258 → aJ h 33 d = F d
theorem b01 {b : Bool} : (if b = true then (1 : Int32) else 0) = 0 ↔ b = false := by cases b <;> decide
def bI (b : Bool) : Int32 := if b = true then 1 else 0
theorem bz_b (b : Bool) : bz (bI b) = some (bI b) := by cases b <;> decide
theorem bI_0 {b : Bool} : bI b = 0 ↔ b = false := by cases b <;> decide
theorem i64_ne {x y : Int32} : (x.toInt64 ≠ y.toInt64) ↔ x ≠ y := by
  constructor
  · intro h e; exact h (by rw [e])
  · intro h e
    apply h
    have := congrArg Int64.toInt e
    rw [Int32.toInt_toInt64, Int32.toInt_toInt64] at this
    exact Int32.toInt_inj.mp this
theorem ov_inj {a b : Option Nat} (ha : ∀ x, a = some x → x < 2 ^ 31) (hb : ∀ x, b = some x → x < 2 ^ 31) : ov a = ov b ↔ a = b := by
  constructor
  · intro e
    cases a with
    | none =>
      cases b with
      | none => rfl
      | some y => exact absurd e.symm (nI_nm (hb y rfl))
    | some x =>
      cases b with
      | none => exact absurd e (nI_nm (ha x rfl))
      | some y => rw [(nI_eq (ha x rfl) (hb y rfl)).mp e]
  · intro e; rw [e]
section Touched
variable {h : AH} {B : BK} {P A : AP} {N F : Nat → Int64} {T Ls : Nat}
theorem Cj.b (x : Cj h B P A N F) : gP h 1 30 9 = some 16 := gP_n (k_30 x.1) x.2.2.2.2.1.1
theorem Cj.a (x : Cj h B P A N F) : gP h 1 30 10 = some 7 := gP_n (k_30 x.1) x.2.2.2.2.1.2.1
theorem Cj.n (x : Cj h B P A N F) : gP h 1 30 11 = some 25 := gP_n (k_30 x.1) x.2.2.2.2.1.2.2
theorem q_hasChanged (x : Cj h B P A N F) {d : Nat} (hd : d < 258) : f_X1_hasChanged h 30 (nI d) = some (bI (decide (N d ≠ F d))) := by
  have S := x.1
  unfold f_X1_hasChanged
  rw [if_pos (k_30 S), x.n, bs, ld_25 S hd, bs, g_30_4 S, bs, ld_33 S hd, bs, x.2.2.2.2.2.1 d hd, x.2.2.2.2.2.2 d hd]
  by_cases q : N d = F d
  · rw [if_pos ((cmp_eq _ _).mpr q)]
    simp [q, bs, bz0, bI]
  · rw [if_neg (fun e => q ((cmp_eq _ _).mp e))]
    simp [q, bs, bz1, bI]
theorem all31 (x : Cj h B P A N F) (fP : WfA P T Ls) (fA : WfA A T Ls) {l v : Nat} (hl : l < 6) (hv : v < 6) (hS : qS P l = qS A l) : ∀ (m n k : Nat), k + m = qS A l → m < n →
    (f_X1_allDiffer_31 30 (nI v) (nI l) n h (nI k) = some (.inr ()) ∧ ∀ j, k ≤ j → j < qS A l → qR P l j = qR A l j ∧ N (6 * qR A l j + v) = F (6 * qR A l j + v)) ∨ (f_X1_allDiffer_31 30 (nI v) (nI l) n h (nI k) = some (.inl 1) ∧ ∃ j, k ≤ j ∧ j < qS A l ∧ ¬ (qR P l j = qR A l j ∧ N (6 * qR A l j + v) = F (6 * qR A l j + v))) := by
  have S := x.1
  have w7 := S_7 S
  have w16 := S_16 S
  have hlen := fA.len l
  intro m
  induction m with
  | zero =>
    intro n k hk hn
    obtain ⟨n, rfl⟩ : ∃ j, n = j + 1 := ⟨n - 1, by omega⟩
    refine Or.inl ⟨?_, fun j h1 h2 => by omega⟩
    unfold f_X1_allDiffer_31
    rw [x.a, bs, w7.p 6 (by decide), bs, w7.ld 6 (by decide) (show l < eP 6 from hl), bs, show aI h (7 + 1 + 6) l = _ from x.2.2.2.1.2.2.2.2.2.2.1 l hl, if_pos (nI_le (by omega) (by omega))]
  | succ m ih =>
    intro n k hk hn
    obtain ⟨n, rfl⟩ : ∃ j, n = j + 1 := ⟨n - 1, by omega⟩
    have t1 := fA.t40 (l := l) (k := k) (by omega)
    have t2 := fP.t40 (l := l) (k := k) (by omega)
    have hu : f_X1_allDiffer_31 30 (nI v) (nI l) (n + 1) h (nI k) = if nI (qR P l k) = nI (qR A l k) then (if bI (decide (N (6 * qR A l k + v) ≠ F (6 * qR A l k + v))) = 0 then f_X1_allDiffer_31 30 (nI v) (nI l) n h (nI (k + 1)) else some (.inl 1)) else some (.inl 1) := by
      conv => lhs; unfold f_X1_allDiffer_31
      rw [x.a, bs, w7.p 6 (by decide), bs, w7.ld 6 (by decide) (show l < eP 6 from hl), bs, show aI h (7 + 1 + 6) l = _ from x.2.2.2.1.2.2.2.2.2.2.1 l hl, if_neg (nI_ge (by omega) (by omega)), bs, q_standsAt w7 x.2.2.2.1 fA hl (by omega), bs, x.b, bs, q_standsAt w16 x.2.2.1 fP hl (by omega), bs]
      rw [show atA P l k = nI (qR P l k) from if_pos (by omega), show atA A l k = nI (qR A l k) from if_pos (by omega), q_shadowOf, bs, q_hasChanged x (by omega), bs, nI_1]
    rw [hu]
    by_cases q1 : qR P l k = qR A l k
    · rw [if_pos (by rw [q1])]
      by_cases q2 : N (6 * qR A l k + v) = F (6 * qR A l k + v)
      · rw [if_pos (bI_0.mpr (by simp [q2]))]
        rcases ih n (k + 1) (by omega) (by omega) with ⟨e, g⟩ | ⟨e, j, g1, g2, g3⟩
        · refine Or.inl ⟨e, fun j h1 h2 => ?_⟩
          rcases Nat.lt_or_ge k j with q | q
          · exact g j q h2
          · rw [show j = k by omega]; exact ⟨q1, q2⟩
        · exact Or.inr ⟨e, j, by omega, g2, g3⟩
      · rw [if_neg (fun e => by have := bI_0.mp e; simp at this; exact q2 this)]
        exact Or.inr ⟨rfl, k, Nat.le_refl _, by omega, fun q => q2 q.2⟩
    · rw [if_neg (fun e => q1 ((nI_eq (by omega) (by omega)).mp e))]
      exact Or.inr ⟨rfl, k, Nat.le_refl _, by omega, fun q => q1 q.1⟩
theorem map_ne {n m : Nat} {f g : Nat → Nat} {v : Nat} : (List.range n).map (fun k => 6 * f k + v) = (List.range m).map (fun k => 6 * g k + v) ↔ n = m ∧ ∀ k, k < m → f k = g k := by
  constructor
  · intro e
    have e1 := congrArg List.length e
    simp at e1
    subst e1
    refine ⟨rfl, fun k hk => ?_⟩
    have := congrArg (fun l : List Nat => l[k]?) e
    simp [hk] at this
    omega
  · rintro ⟨rfl, h2⟩
    apply List.map_congr_left
    intro k hk
    rw [h2 k (List.mem_range.mp hk)]
theorem q_allDiffer (W : WfB B) (x : Cj h B P A N F) (fP : WfA P T Ls) (fA : WfA A T Ls) {c s : Nat} (hc : c < 258) (hs : s < nsN B c) (ho : cdN B c s = 9 ∨ cdN B c s = 10 ∨ cdN B c s = 11) : f_X1_allDiffer h 30 (nI c) (bV B (kiN c) s) = some (bI (dfS B P A N F c s)) := by
  have S := x.1
  have w7 := S_7 S
  have w16 := S_16 S
  obtain ⟨v1, v2, v3⟩ := ok_all W hc hs ho
  have hl := ow6 v3 hc
  have l1 : lsD P c = owN c := by unfold lsD lsN; rw [if_neg v3]; rfl
  have l2 : lsD A c = owN c := by unfold lsD lsN; rw [if_neg v3]; rfl
  have e1 : sdS B P c s = (List.range (qS P (owN c))).map (fun k => 6 * qR P (owN c) k + vaN B c s) := by unfold sdS; rw [if_pos ho, l1]
  have e2 : sdS B A c s = (List.range (qS A (owN c))).map (fun k => 6 * qR A (owN c) k + vaN B c s) := by unfold sdS; rw [if_pos ho, l2]
  have hd : dfS B P A N F c s = (decide (sdS B P c s ≠ sdS B A c s) || (sdS B A c s).any (fun d => decide (N d ≠ F d))) := by
    unfold dfS
    have q1 : ¬ (cdN B c s = 2 ∨ cdN B c s = 3) := by omega
    have q2 : ¬ (1 ≤ cdN B c s ∧ cdN B c s ≤ 3) := by omega
    simp only [q1, q2, decide_false, Bool.false_and, Bool.or_false]
  have p1 := fP.len (owN c)
  have p2 := fA.len (owN c)
  unfold f_X1_allDiffer
  rw [hd, if_pos (k_30 S), q_ownerOf h hc, bs, x.b, bs, w16.p 6 (by decide), bs, w16.ld 6 (by decide) (show owN c < eP 6 from hl), bs, show aI h (16 + 1 + 6) (owN c) = _ from x.2.2.1.2.2.2.2.2.2.1 _ hl, x.a, bs, w7.p 6 (by decide), bs, w7.ld 6 (by decide) (show owN c < eP 6 from hl), bs, show aI h (7 + 1 + 6) (owN c) = _ from x.2.2.2.1.2.2.2.2.2.2.1 _ hl, v1]
  by_cases q : qS P (owN c) = qS A (owN c)
  · rw [if_pos (by rw [q])]
    rcases all31 x fP fA hl v2 q (qS A (owN c)) FU 0 (by omega) (by unfold FU; omega) with ⟨e, g⟩ | ⟨e, j, g1, g2, g3⟩
    · have g1 : sdS B P c s = sdS B A c s := by rw [e1, e2]; exact map_ne.mpr ⟨q, fun k hk => (g k (by omega) hk).1⟩
      have g2 : (sdS B A c s).any (fun d => decide (N d ≠ F d)) = false := by
        rw [List.any_eq_false]
        intro d hd2
        rw [e2] at hd2
        obtain ⟨k, hk, ek⟩ := List.mem_map.mp hd2
        have := (g k (by omega) (List.mem_range.mp hk)).2
        rw [ek] at this
        simp [this]
      rw [show (0 : Int32) = nI 0 from rfl, e, bs, g2]
      simp [g1, bI]
      rfl
    · have g4 : (decide (sdS B P c s ≠ sdS B A c s) || (sdS B A c s).any (fun d => decide (N d ≠ F d))) = true := by
        by_cases q2 : qR P (owN c) j = qR A (owN c) j
        · have q3 : N (6 * qR A (owN c) j + vaN B c s) ≠ F (6 * qR A (owN c) j + vaN B c s) := fun e => g3 ⟨q2, e⟩
          have : (sdS B A c s).any (fun d => decide (N d ≠ F d)) = true := by
            rw [List.any_eq_true]
            exact ⟨6 * qR A (owN c) j + vaN B c s, by rw [e2]; exact List.mem_map.mpr ⟨j, List.mem_range.mpr g2, rfl⟩, by simpa using q3⟩
          rw [this, Bool.or_true]
        · have : sdS B P c s ≠ sdS B A c s := fun e => by
            rw [e1, e2] at e
            exact q2 ((map_ne.mp e).2 j g2)
          simp [this]
      rw [show (0 : Int32) = nI 0 from rfl, e, bs, g4]
      rfl
  · have : sdS B P c s ≠ sdS B A c s := fun e => by
      rw [e1, e2] at e
      exact q (map_ne.mp e).1
    rw [if_neg (fun e => q ((nI_eq (by omega) (by omega)).mp e))]
    simp [this, bI]
theorem q_oneDiffers (W : WfB B) (x : Cj h B P A N F) (fP : WfA P T Ls) (fA : WfA A T Ls) {c s : Nat} (hc : c < 258) (hs : s < nsN B c) (ho : 4 ≤ cdN B c s ∧ cdN B c s ≤ 13 ∧ ¬ (cdN B c s = 9 ∨ cdN B c s = 10 ∨ cdN B c s = 11)) : f_X1_oneDiffers h 30 (nI c) (nI (cdN B c s)) (bV B (kiN c) s) = some (bI (dfS B P A N F c s)) := by
  have S := x.1
  have w7 := S_7 S
  have w16 := S_16 S
  have qa := ho.2.2
  obtain ⟨v1, v2, v3, -, -⟩ := ok_one W hc hs ho
  have e1 : sdS B P c s = (seN P c (cdN B c s) (vaN B c s)).toList := by unfold sdS; rw [if_neg qa, if_pos ho]
  have e2 : sdS B A c s = (seN A c (cdN B c s) (vaN B c s)).toList := by unfold sdS; rw [if_neg qa, if_pos ho]
  have hd : dfS B P A N F c s = (decide (sdS B P c s ≠ sdS B A c s) || (sdS B A c s).any (fun d => decide (N d ≠ F d))) := by
    unfold dfS
    have q1 : ¬ (cdN B c s = 2 ∨ cdN B c s = 3) := by omega
    have q2 : ¬ (1 ≤ cdN B c s ∧ cdN B c s ≤ 3) := by omega
    simp only [q1, q2, decide_false, Bool.false_and, Bool.or_false]
  have b1 : ∀ d, seN P c (cdN B c s) (vaN B c s) = some d → d < 258 := fun d e => sd_lt W fP hc hs (by rw [e1, e]; exact List.mem_singleton.mpr rfl)
  have b2 : ∀ d, seN A c (cdN B c s) (vaN B c s) = some d → d < 258 := fun d e => sd_lt W fA hc hs (by rw [e2, e]; exact List.mem_singleton.mpr rfl)
  unfold f_X1_oneDiffers
  rw [hd, if_pos (k_30 S), x.b, bs, v1, q_seen w16 x.2.2.1 fP hc v3, bs, x.a, bs, q_seen w7 x.2.2.2.1 fA hc v3, bs, e1, e2]
  by_cases q : seN P c (cdN B c s) (vaN B c s) = seN A c (cdN B c s) (vaN B c s)
  · rw [if_pos (by rw [q]), q]
    cases e : seN A c (cdN B c s) (vaN B c s) with
    | none =>
      rw [ov_n, if_pos rfl, bs, bz0, bs]
      simp [bI]
    | some d =>
      have hd8 := b2 d e
      rw [ov_s, if_neg (nI_nm (by omega)), q_hasChanged x hd8, bs]
      by_cases q2 : N d = F d
      · simp [q2, bI, bs, bz0]
      · simp [q2, bI, bs, bz1]
  · rw [if_neg (fun e => q ((ov_inj (fun d e => by have := b1 d e; omega) (fun d e => by have := b2 d e; omega)).mp e)), bs, bz1, bs]
    have q3 : (seN P c (cdN B c s) (vaN B c s)).toList ≠ (seN A c (cdN B c s) (vaN B c s)).toList := fun e => q (by
      revert e
      cases seN P c (cdN B c s) (vaN B c s) <;> cases seN A c (cdN B c s) (vaN B c s) <;> simp)
    simp [q3, bI]
theorem q_factDiffers (x : Cj h B P A N F) {t v : Nat} (ht : t < 40) (hv : v < 4) : f_X1_factDiffers h 30 (nI t) (nI v) = some (bI (decide (qF P (4 * t + v) ≠ qF A (4 * t + v)))) := by
  have S := x.1
  have w7 := S_7 S
  have w16 := S_16 S
  unfold f_X1_factDiffers
  rw [if_pos (k_30 S), x.b, bs, w16.p 0 (by decide), bs, c4, w16.ld 0 (by decide) (show 4 * t + v < eP 0 by show _ < 160; omega), bs, show aI h (16 + 1 + 0) (4 * t + v) = _ from x.2.2.1.1 _ (by omega), x.a, bs, w7.p 0 (by decide), bs, w7.ld 0 (by decide) (show 4 * t + v < eP 0 by show _ < 160; omega), bs, show aI h (7 + 1 + 0) (4 * t + v) = _ from x.2.2.2.1.1 _ (by omega)]
  by_cases q : qF P (4 * t + v) = qF A (4 * t + v)
  · simp [q, bI, bs, bz0]
  · simp [q, bI, bs, bz1]
theorem q_listFactDiffers (x : Cj h B P A N F) {l v : Nat} (ht : l < 6) (hv : v < 2) : f_X1_listFactDiffers h 30 (nI l) (nI v) = some (bI (decide (qL P (2 * l + v) ≠ qL A (2 * l + v)))) := by
  have S := x.1
  have w7 := S_7 S
  have w16 := S_16 S
  unfold f_X1_listFactDiffers
  rw [if_pos (k_30 S), x.b, bs, w16.p 1 (by decide), bs, c2, w16.ld 1 (by decide) (show 2 * l + v < eP 1 by show _ < 12; omega), bs, show aI h (16 + 1 + 1) (2 * l + v) = _ from x.2.2.1.2.1 _ (by omega), x.a, bs, w7.p 1 (by decide), bs, w7.ld 1 (by decide) (show 2 * l + v < eP 1 by show _ < 12; omega), bs, show aI h (7 + 1 + 1) (2 * l + v) = _ from x.2.2.2.1.2.1 _ (by omega)]
  by_cases q : qL P (2 * l + v) = qL A (2 * l + v)
  · simp [q, bI, bs, bz0]
  · simp [q, bI, bs, bz1]
end Touched
