/-! THE OTHER ONE: lookAt -/
section LookAt
variable {h : AH} {B : BK} {A : AP} {b T Ls : Nat}
theorem idO_lt {W : WfB B} {c s : Nat} (f : WfA A T Ls) (hc : c < 258) (hs : s < nsN B c) (ho : 4 ≤ cdN B c s ∧ cdN B c s ≤ 13 ∧ ¬ (cdN B c s = 9 ∨ cdN B c s = 10 ∨ cdN B c s = 11)) : idO (seN A c (cdN B c s) (vaN B c s)) < 5258 := by
  cases e : seN A c (cdN B c s) (vaN B c s) with
  | none => decide
  | some d =>
    have : d < 258 := sd_lt W f hc hs (by unfold sdS; rw [if_neg ho.2.2, if_pos ho, e]; exact List.mem_singleton.mpr rfl)
    show 5000 + d < 5258
    omega
set_option maxHeartbeats 1000000 in
theorem lk_step (S : Sh h) (W : WfB B) (RB : RbR h B) (w : BkR h b) (R : RpR h b 0 A) (hb : b ≠ 69 ∧ b ≠ 53) (f : WfA A T Ls) {c s : Nat} (hc : c < 258) (hC : isC B A c = true) (hs : s < nsN B c) {L : List Nat} (x : LkR h L) (hL : L.length + 40 ≤ 1100) (n : Nat) :
    ∃ h', f_X9_lookAt_50 53 b (nI c) (nI (kiN c)) (nI (owN c)) (nI (lsD A c)) (n + 1) h (nI s) = f_X9_lookAt_50 53 b (nI c) (nI (kiN c)) (nI (owN c)) (nI (lsD A c)) n h' (nI (s + 1)) ∧ Fg h h' QL ∧ LkR h' (L ++ idS B A c s) := by
  have h24 := n24 W c
  have k9 := ki9 (c := c)
  have h25 : cdN B c s < 25 := (ok_at W hc hs).c
  obtain ⟨l, l1, l2, l3⟩ := c_ls W f hc hC
  have hlen := f.len l
  have how := ow_lt hc
  have lc : aI h 57 (24 * kiN c + s) = nI (cdN B c s) := (RB.2.2.2 _ _ ki9 hs).1
  have lv : aI h 58 (24 * kiN c + s) = bV B (kiN c) s := (RB.2.2.2 _ _ ki9 hs).2
  have ne : ∀ k, k < 2 ^ 31 → cdN B c s ≠ k → ¬ nI (cdN B c s) = nI k := fun k hk q e => q ((nI_eq (by omega) hk).mp e)
  rw [l3]
  have hstart : ∀ X : Option AH, (Option.bind X fun h16 => f_X9_lookAt_50 53 b (nI c) (nI (kiN c)) (nI (owN c)) (nI l) n h16 (nI s + 1)) = (Option.bind X fun h16 => f_X9_lookAt_50 53 b (nI c) (nI (kiN c)) (nI (owN c)) (nI l) n h16 (nI (s + 1))) := fun X => by rw [nI_1]
  conv => enter [1, h', 1, 1]; unfold f_X9_lookAt_50
  rw [g_53_7 S, bs, ld_56 S ki9, bs, RB.2.2.1 _ ki9, if_neg (nI_ge (show s < bN B (kiN c) from hs) (by unfold nsN at h24; omega)), g_53_9 S, bs, m24, ld_58 S (by omega), bs, g_53_8 S, bs, ld_57 S (by omega), bs, lc, lv, nI_1]
  rcases (show cdN B c s = 1 ∨ cdN B c s = 2 ∨ cdN B c s = 3 ∨ (4 ≤ cdN B c s ∧ cdN B c s ≤ 13 ∧ ¬ (cdN B c s = 9 ∨ cdN B c s = 10 ∨ cdN B c s = 11)) ∨ (cdN B c s = 9 ∨ cdN B c s = 10 ∨ cdN B c s = 11) ∨ (cdN B c s = 0 ∨ 14 ≤ cdN B c s) by omega) with q | q | q | q | q | q
  · obtain ⟨v1, v2⟩ := ok_giv W hc hs (by omega)
    have v3 : vaN B c s < (if c < 240 then 4 else 2) := by omega
    rw [v1, q, if_pos (show nI 1 = 1 from rfl)]
    have eid : idS B A c s = [if c < 240 then 1000 + (4 * owN c + vaN B c s) else 2000 + (2 * owN c + vaN B c s)] := by unfold idS; rw [if_pos q]
    rw [eid]
    by_cases q2 : c < 240
    · rw [if_pos q2] at v3
      rw [if_neg (show ¬ (240 : Int32) ≤ nI c from nI_ge (b := 240) q2 (by decide)), if_pos q2, bs, show (1000 : Int32) + 4 * nI (owN c) + nI (vaN B c s) = nI (1000 + (4 * owN c + vaN B c s)) by rw [show (4 : Int32) = nI 4 from rfl, show (1000 : Int32) = nI 1000 from rfl, pk_mul, nI_add, nI_add, Nat.add_assoc]]
      obtain ⟨h1, e1, f1, x1⟩ := r_look S x (by omega) (d := 1000 + (4 * owN c + vaN B c s)) (by omega)
      exact ⟨h1, by rw [e1, bs, bs], f1, x1⟩
    · rw [if_neg q2] at v3
      rw [if_pos (show (240 : Int32) ≤ nI c from nI_le (a := 240) (by omega) (by omega)), if_neg q2, bs, show (2000 : Int32) + 2 * nI (owN c) + nI (vaN B c s) = nI (2000 + (2 * owN c + vaN B c s)) by rw [show (2 : Int32) = nI 2 from rfl, show (2000 : Int32) = nI 2000 from rfl, pk_mul, nI_add, nI_add, Nat.add_assoc]]
      obtain ⟨h1, e1, f1, x1⟩ := r_look S x (by omega) (d := 2000 + (2 * owN c + vaN B c s)) (by omega)
      exact ⟨h1, by rw [e1, bs, bs], f1, x1⟩
  · obtain ⟨v1, v2⟩ := ok_giv W hc hs (by omega)
    have v3 : vaN B c s < 2 := by omega
    have eid : idS B A c s = [2000 + (2 * l + vaN B c s)] := by unfold idS; rw [if_neg (by omega), if_pos q, l3]
    rw [eid, v1, q, if_neg (show ¬ nI 2 = 1 by decide), if_pos (show nI 2 = 2 from rfl), show (2000 : Int32) + 2 * nI l + nI (vaN B c s) = nI (2000 + (2 * l + vaN B c s)) by rw [show (2 : Int32) = nI 2 from rfl, show (2000 : Int32) = nI 2000 from rfl, pk_mul, nI_add, nI_add, Nat.add_assoc]]
    obtain ⟨h1, e1, f1, x1⟩ := r_look S x (by omega) (d := 2000 + (2 * l + vaN B c s)) (by omega)
    exact ⟨h1, by rw [e1, bs, bs], f1, x1⟩
  · obtain ⟨v1, v2⟩ := ok_giv W hc hs (by omega)
    have eid : idS B A c s = [if vaN B c s = 0 then 3000 + l else 4000 + l] := by unfold idS; rw [if_neg (by omega), if_neg (by omega), if_pos q, l3]
    rw [eid, v1, q, if_neg (show ¬ nI 3 = 1 by decide), if_neg (show ¬ nI 3 = 2 by decide), if_pos (show nI 3 = 3 from rfl)]
    by_cases q2 : vaN B c s = 0
    · rw [q2, if_pos (show nI 0 = 0 from rfl), if_pos rfl, bs, show (3000 : Int32) + nI l = nI (3000 + l) from nI_add 3000 l]
      obtain ⟨h1, e1, f1, x1⟩ := r_look S x (by omega) (d := 3000 + l) (by omega)
      exact ⟨h1, by rw [e1, bs, bs], f1, x1⟩
    · rw [if_neg (show ¬ nI (vaN B c s) = 0 from nI_ne0 (by omega) (by omega)), if_neg q2, bs, show (4000 : Int32) + nI l = nI (4000 + l) from nI_add 4000 l]
      obtain ⟨h1, e1, f1, x1⟩ := r_look S x (by omega) (d := 4000 + l) (by omega)
      exact ⟨h1, by rw [e1, bs, bs], f1, x1⟩
  · obtain ⟨v1, v2, v3, v4, v5⟩ := ok_one W hc hs q
    have eid : idS B A c s = [idO (seN A c (cdN B c s) (vaN B c s))] := by unfold idS; rw [if_neg (by omega), if_neg (by omega), if_neg (by omega), if_neg q.2.2, if_pos q]
    have hlt := idO_lt (W := W) f hc hs q
    rw [v1, eid]
    have n1 := ne 1 (by decide) (by omega)
    have n2 := ne 2 (by decide) (by omega)
    have n3 := ne 3 (by decide) (by omega)
    rw [if_neg (show ¬ nI (cdN B c s) = 1 from n1), if_neg (show ¬ nI (cdN B c s) = 2 from n2), if_neg (show ¬ nI (cdN B c s) = 3 from n3)]
    have hse : ∀ k, cdN B c s = k → k ≠ 4 → k ≠ 8 → seN A c k (vaN B c s) = (thN A l c k).map (fun t => 6 * t + vaN B c s) := fun k _ q4 q8 => by
      unfold seN
      rw [if_neg q4, l1]
      show (if k = 8 then some (240 + 3 * l + (vaN B c s - 6)) else (thN A l c k).map (fun t => 6 * t + vaN B c s)) = _
      rw [if_neg q8]
    have hth : ∀ k t, cdN B c s = k → thN A l c k = some t → t < 40 := fun k t ek et => th_lt f (fun e7 => by omega) et
    rcases v3 with ⟨k4, u⟩ | ⟨k5, u⟩ | ⟨k6, u⟩ | ⟨k7, u⟩ | ⟨k8, u⟩ | ⟨k12, u⟩ | ⟨k13, u⟩
    · rw [k4] at hlt ⊢
      rw [if_pos (show nI 4 = 4 from rfl)]
      have es : seN A c 4 (vaN B c s) = some (if c < 240 then 6 * owN c + vaN B c s else 240 + 3 * owN c + (vaN B c s - 6)) := by unfold seN; rw [if_pos rfl]
      rw [es] at hlt ⊢
      by_cases q2 : c < 240
      · rw [if_pos q2] at hlt ⊢
        rw [if_neg (show ¬ (240 : Int32) ≤ nI c from nI_ge (b := 240) q2 (by decide)), bs, c6, show (5000 : Int32) + nI (6 * owN c + vaN B c s) = nI (5000 + (6 * owN c + vaN B c s)) from nI_add 5000 _]
        obtain ⟨h1, e1, f1, x1⟩ := r_look S x (by omega) hlt
        exact ⟨h1, by rw [show idO (some (6 * owN c + vaN B c s)) = 5000 + (6 * owN c + vaN B c s) from rfl] at e1; rw [e1, bs, bs], f1, x1⟩
      · rw [if_neg q2] at hlt ⊢
        have v6 : 6 ≤ vaN B c s := by omega
        rw [if_pos (show (240 : Int32) ≤ nI c from nI_le (a := 240) (by omega) (by omega)), bs, show (240 : Int32) + 3 * nI (owN c) + nI (vaN B c s) - 6 = nI (240 + 3 * owN c + (vaN B c s - 6)) by
          rw [show (3 : Int32) = nI 3 from rfl, show (240 : Int32) = nI 240 from rfl, pk_mul, nI_add, nI_add, show (6 : Int32) = nI 6 from rfl, pk_sub (by omega)]
          congr 1
          omega, show (5000 : Int32) + nI (240 + 3 * owN c + (vaN B c s - 6)) = nI (5000 + (240 + 3 * owN c + (vaN B c s - 6))) from nI_add 5000 _]
        obtain ⟨h1, e1, f1, x1⟩ := r_look S x (by omega) hlt
        exact ⟨h1, by rw [show idO (some (240 + 3 * owN c + (vaN B c s - 6))) = 5000 + (240 + 3 * owN c + (vaN B c s - 6)) from rfl] at e1; rw [e1, bs, bs], f1, x1⟩
    · have e1 : hmA A (owN c) = some l := by unfold lsN at l1; rw [if_pos u] at l1; exact l1
      rcases hm_or f (owN c) with ⟨e3, -, -⟩ | ⟨l', k, -, -, hk, e4, e3, e2⟩
      · rw [e3] at e1; cases e1
      rw [e3] at e1; cases e1
      have hs5 := hse 5 k5 (by decide) (by decide)
      rw [k5, hs5, if_neg (show ¬ nI 5 = 4 by decide), if_pos (show nI 5 = 5 from rfl), r_neighbour_b w R f how e3 e2 hk e4, bs]
      obtain ⟨h1, e1, f1, x1⟩ := r_lookThing S x (by omega) (o := thN A l c 5) (fun t et => hth 5 t k5 et) (v := vaN B c s) (v5 (by omega) (by omega))
      exact ⟨h1, by rw [show thN A l c 5 = nbB A l (owN c) from rfl] at e1; rw [e1, bs, bs], f1, x1⟩
    · have e1 : hmA A (owN c) = some l := by unfold lsN at l1; rw [if_pos u] at l1; exact l1
      rcases hm_or f (owN c) with ⟨e3, -, -⟩ | ⟨l', k, -, -, hk, e4, e3, e2⟩
      · rw [e3] at e1; cases e1
      rw [e3] at e1; cases e1
      have hs5 := hse 6 k6 (by decide) (by decide)
      rw [k6, hs5, if_neg (show ¬ nI 6 = 4 by decide), if_neg (show ¬ nI 6 = 5 by decide), if_pos (show nI 6 = 6 from rfl), r_neighbour_a w R f how e3 e2 hk e4, bs]
      obtain ⟨h1, e1, f1, x1⟩ := r_lookThing S x (by omega) (o := thN A l c 6) (fun t et => hth 6 t k6 et) (v := vaN B c s) (v5 (by omega) (by omega))
      exact ⟨h1, by rw [show thN A l c 6 = nbA A l (owN c) from rfl] at e1; rw [e1, bs, bs], f1, x1⟩
    · have hs5 := hse 7 k7 (by decide) (by decide)
      rw [k7, hs5, if_neg (show ¬ nI 7 = 4 by decide), if_neg (show ¬ nI 7 = 5 by decide), if_neg (show ¬ nI 7 = 6 by decide), if_pos (show nI 7 = 7 from rfl), r_linkOf w R f how, bs]
      obtain ⟨h1, e1, f1, x1⟩ := r_lookThing S x (by omega) (o := thN A l c 7) (fun t et => hth 7 t k7 et) (v := vaN B c s) (v5 (by omega) (by omega))
      exact ⟨h1, by rw [show thN A l c 7 = lkN A (owN c) from rfl] at e1; rw [e1, bs, bs], f1, x1⟩
    · have es : seN A c 8 (vaN B c s) = some (240 + 3 * l + (vaN B c s - 6)) := by unfold seN; rw [if_neg (by decide), l1]; rfl
      rw [k8, es] at hlt
      rw [k8, es, if_neg (show ¬ nI 8 = 4 by decide), if_neg (show ¬ nI 8 = 5 by decide), if_neg (show ¬ nI 8 = 6 by decide), if_neg (show ¬ nI 8 = 7 by decide), if_pos (show nI 8 = 8 from rfl), show (5240 : Int32) + 3 * nI l + nI (vaN B c s) - 6 = nI (5000 + (240 + 3 * l + (vaN B c s - 6))) by
        rw [show (3 : Int32) = nI 3 from rfl, show (5240 : Int32) = nI 5240 from rfl, pk_mul, nI_add, nI_add, show (6 : Int32) = nI 6 from rfl, pk_sub (by omega)]
        congr 1
        omega]
      obtain ⟨h1, e1, f1, x1⟩ := r_look S x (by omega) hlt
      exact ⟨h1, by rw [show idO (some (240 + 3 * l + (vaN B c s - 6))) = 5000 + (240 + 3 * l + (vaN B c s - 6)) from rfl] at e1; rw [e1, bs, bs], f1, x1⟩
    · have hs5 := hse 12 k12 (by decide) (by decide)
      rw [k12, hs5, if_neg (show ¬ nI 12 = 4 by decide), if_neg (show ¬ nI 12 = 5 by decide), if_neg (show ¬ nI 12 = 6 by decide), if_neg (show ¬ nI 12 = 7 by decide), if_neg (show ¬ nI 12 = 8 by decide), if_neg (show ¬ (nI 12 = 9 ∨ nI 12 = 10 ∨ nI 12 = 11) by decide), if_pos (show nI 12 = 12 from rfl), R.sz w l2, bs]
      have ev : (if nI (qS A l) = 0 then some ((-1) : Int32) else Option.bind (ldI h b (252 + nI l * 40)) fun x49 => some x49) = some (ov (thN A l c 12)) := by
        have et : thN A l c 12 = (if 0 < qS A l then some (qR A l 0) else none) := rfl
        rw [et]
        by_cases qz : qS A l = 0
        · rw [qz, if_pos (show nI 0 = 0 from rfl), if_neg (by omega)]; rfl
        · have := R.rw w f l2 (k := 0) (by omega)
          rw [a252, nI_add, Nat.add_zero] at this
          rw [if_neg (nI_ne0 (by omega) (by omega)), a252, this, bs, if_pos (by omega)]; rfl
      rw [ev, bs]
      obtain ⟨h1, e1, f1, x1⟩ := r_lookThing S x (by omega) (o := thN A l c 12) (fun t et => hth 12 t k12 et) (v := vaN B c s) (v5 (by omega) (by omega))
      exact ⟨h1, by rw [e1, bs, bs], f1, x1⟩
    · have hs5 := hse 13 k13 (by decide) (by decide)
      rw [k13, hs5, if_neg (show ¬ nI 13 = 4 by decide), if_neg (show ¬ nI 13 = 5 by decide), if_neg (show ¬ nI 13 = 6 by decide), if_neg (show ¬ nI 13 = 7 by decide), if_neg (show ¬ nI 13 = 8 by decide), if_neg (show ¬ (nI 13 = 9 ∨ nI 13 = 10 ∨ nI 13 = 11) by decide), if_neg (show ¬ nI 13 = 12 by decide), if_pos (show nI 13 = 13 from rfl), R.sz w l2, bs]
      have ev : (if nI (qS A l) = 0 then some ((-1) : Int32) else Option.bind (some (nI (qS A l))) fun x54 => Option.bind (ldI h b (((252 + nI l * 40) + x54) - 1)) fun x55 => some x55) = some (ov (thN A l c 13)) := by
        have et : thN A l c 13 = (if 0 < qS A l then some (qR A l (qS A l - 1)) else none) := rfl
        rw [et]
        by_cases qz : qS A l = 0
        · rw [qz, if_pos (show nI 0 = 0 from rfl), if_neg (by omega)]; rfl
        · have := R.rw w f l2 (k := qS A l - 1) (by omega)
          rw [a252, nI_add] at this
          rw [if_neg (nI_ne0 (by omega) (by omega)), bs, a252, nI_add, show (1 : Int32) = nI 1 from rfl, pk_sub (by omega), show 252 + 40 * l + qS A l - 1 = 252 + 40 * l + (qS A l - 1) by omega, this, bs, if_pos (by omega)]; rfl
      rw [ev, bs]
      obtain ⟨h1, e1, f1, x1⟩ := r_lookThing S x (by omega) (o := thN A l c 13) (fun t et => hth 13 t k13 et) (v := vaN B c s) (v5 (by omega) (by omega))
      exact ⟨h1, by rw [e1, bs, bs], f1, x1⟩
  · obtain ⟨v1, v2, v3⟩ := ok_all W hc hs q
    have eid : idS B A c s = ((List.range (qS A l)).drop 0).map (fun k => 5000 + (6 * qR A l k + vaN B c s)) := by
      unfold idS
      rw [if_neg (by omega), if_neg (by omega), if_neg (by omega), if_pos q]
      unfold sdS
      rw [if_pos q, l3, List.map_map]
      rfl
    have n := fun k hk => ne k hk
    rw [v1, eid, if_neg (show ¬ nI (cdN B c s) = 1 from ne 1 (by decide) (by omega)), if_neg (show ¬ nI (cdN B c s) = 2 from ne 2 (by decide) (by omega)), if_neg (show ¬ nI (cdN B c s) = 3 from ne 3 (by decide) (by omega)), if_neg (show ¬ nI (cdN B c s) = 4 from ne 4 (by decide) (by omega)), if_neg (show ¬ nI (cdN B c s) = 5 from ne 5 (by decide) (by omega)), if_neg (show ¬ nI (cdN B c s) = 6 from ne 6 (by decide) (by omega)), if_neg (show ¬ nI (cdN B c s) = 7 from ne 7 (by decide) (by omega)), if_neg (show ¬ nI (cdN B c s) = 8 from ne 8 (by decide) (by omega)), if_pos (show nI (cdN B c s) = 9 ∨ nI (cdN B c s) = 10 ∨ nI (cdN B c s) = 11 by
      rcases q with q | q | q
      · exact Or.inl (by rw [q]; rfl)
      · exact Or.inr (Or.inl (by rw [q]; rfl))
      · exact Or.inr (Or.inr (by rw [q]; rfl)))]
    obtain ⟨h1, e1, f1, x1⟩ := lk350 w f l2 v2 (nI c) (nI (kiN c)) (nI (owN c)) (nI s) (qS A l) FU h 0 L (by omega) (by unfold FU; omega) S w R hb x (by omega)
    have e1' : f_X9_lookAt_350 53 b (nI c) (nI (kiN c)) (nI (owN c)) (nI l) (nI s) (nI (vaN B c s)) FU h 0 = some h1 := e1
    exact ⟨h1, by rw [e1', bs, bs], f1, x1⟩
  · have eid : idS B A c s = [] := by
      unfold idS
      rw [if_neg (by omega), if_neg (by omega), if_neg (by omega), if_neg (by omega), if_neg (by omega)]
    have m : ∀ k, 1 ≤ k → k ≤ 13 → ¬ nI (cdN B c s) = nI k := fun k q1 q2 => ne k (by omega) (by omega)
    rw [eid, List.append_nil, if_neg (show ¬ nI (cdN B c s) = 1 from m 1 (by decide) (by decide)), if_neg (show ¬ nI (cdN B c s) = 2 from m 2 (by decide) (by decide)), if_neg (show ¬ nI (cdN B c s) = 3 from m 3 (by decide) (by decide)), if_neg (show ¬ nI (cdN B c s) = 4 from m 4 (by decide) (by decide)), if_neg (show ¬ nI (cdN B c s) = 5 from m 5 (by decide) (by decide)), if_neg (show ¬ nI (cdN B c s) = 6 from m 6 (by decide) (by decide)), if_neg (show ¬ nI (cdN B c s) = 7 from m 7 (by decide) (by decide)), if_neg (show ¬ nI (cdN B c s) = 8 from m 8 (by decide) (by decide)), if_neg (show ¬ (nI (cdN B c s) = 9 ∨ nI (cdN B c s) = 10 ∨ nI (cdN B c s) = 11) from fun y => y.elim (m 9 (by decide) (by decide)) (fun y2 => y2.elim (m 10 (by decide) (by decide)) (m 11 (by decide) (by decide)))), if_neg (show ¬ nI (cdN B c s) = 12 from m 12 (by decide) (by decide)), if_neg (show ¬ nI (cdN B c s) = 13 from m 13 (by decide) (by decide)), bs]
    exact ⟨h, rfl, Fg.rf _ _, x⟩
end LookAt
