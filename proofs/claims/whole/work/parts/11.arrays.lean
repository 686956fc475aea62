/-! rows of arrays and new cells -/
section AWD
variable {p : Program} {l : Launch} {e : Env} {R : Room} {s : State} {m : MethodId} {args : Array Value} {below : List Frame} {meth : Method} {c : Code} {G : GT} {nL : Nat} {Q : State → Prop} {h : AH} {k n pc : Nat} {lv : List (Nat × Value)} {st : List Value} {cc : ByteArray} {own : String} {ci N : Nat} {C : String} {T : u_T}
theorem r_iald (O : OkC p l s m args meth c G cc nL own) {a : Nat} (hk : aK h a = 10) {i : Int32} (hi : vp_in i (aE h a)) (hd : decode cc pc = .ok (.iaload, 1)) (kk : AW p l e R s m args below meth c G nL Q h k n (pc + 1) lv (.int (aI h a i.toNatClampNeg) :: st)) : AW p l e R s m args below meth c G nL Q h k n pc lv (.int i :: .ref a :: st) := by
  intro H locs ls hR hS hl
  have hat := hR.at (a := a) (by omega)
  rw [cE_10 hk] at hat
  exact va_iald O.1 O.2.1 O.2.2.2.2.2.1.2.1 (one_P hat) 0 0 rfl rfl hi hd (kk H locs ls hR hS hl)
theorem r_lald (O : OkC p l s m args meth c G cc nL own) {a : Nat} (hk : aK h a = 11) {i : Int32} (hi : vp_in i (aE h a)) (hd : decode cc pc = .ok (.laload, 1)) (kk : AW p l e R s m args below meth c G nL Q h k n (pc + 1) lv (.long (aJ h a i.toNatClampNeg) :: st)) : AW p l e R s m args below meth c G nL Q h k n pc lv (.int i :: .ref a :: st) := by
  intro H locs ls hR hS hl
  have hat := hR.at (a := a) (by omega)
  rw [cE_11 hk] at hat
  exact va_lald O.1 O.2.1 O.2.2.2.2.2.1.2.1 (one_P hat) 0 1 rfl rfl hi hd (kk H locs ls hR hS hl)
theorem r_zald (O : OkC p l s m args meth c G cc nL own) {a : Nat} (hk : aK h a = 12) {i : Int32} (hi : vp_in i (aE h a)) (hd : decode cc pc = .ok (.baload, 1)) (kk : AW p l e R s m args below meth c G nL Q h k n (pc + 1) lv (.int (aI h a i.toNatClampNeg) :: st)) : AW p l e R s m args below meth c G nL Q h k n pc lv (.int i :: .ref a :: st) := by
  intro H locs ls hR hS hl
  have hat := hR.at (a := a) (by omega)
  rw [cE_12 hk] at hat
  exact va_zald O.1 O.2.1 O.2.2.2.2.2.1.2.1 (one_P hat) 0 2 rfl rfl hi hd (kk H locs ls hR hS hl)
theorem r_aald (O : OkC p l s m args meth c G cc nL own) {a : Nat} (hk : aK h a = 13) {i : Int32} (hi : vp_in i (aE h a)) (hd : decode cc pc = .ok (.aaload, 1)) (kk : AW p l e R s m args below meth c G nL Q h k n (pc + 1) lv (rf (aP h a i.toNatClampNeg) :: st)) : AW p l e R s m args below meth c G nL Q h k n pc lv (.int i :: .ref a :: st) := by
  intro H locs ls hR hS hl
  have hat := hR.at (a := a) (by omega)
  rw [cE_13 hk] at hat
  have h2 := kk H locs ls hR hS hl
  rw [List.map_cons, cv_rf] at h2
  exact va_aldq O.1 O.2.1 O.2.2.2.2.2.1.2.1 (one_P hat) 0 3 rfl rfl hi hd h2
theorem r_alen (O : OkC p l s m args meth c G cc nL own) {a : Nat} (hk : 10 ≤ aK h a ∧ aK h a < 14) (hd : decode cc pc = .ok (.arraylength, 1)) (kk : AW p l e R s m args below meth c G nL Q h k n (pc + 1) lv (.int (nI (aE h a)) :: st)) : AW p l e R s m args below meth c G nL Q h k n pc lv (.ref a :: st) := by
  intro H locs ls hR hS hl
  have hat := hR.at (a := a) (by omega)
  have h2 := kk H locs ls hR hS hl
  rcases (show aK h a = 10 ∨ aK h a = 11 ∨ aK h a = 12 ∨ aK h a = 13 by omega) with hq | hq | hq | hq
  · rw [cE_10 hq] at hat; exact va_alen O.1 O.2.1 O.2.2.2.2.2.1.2.1 (one_P hat) 0 0 rfl rfl rfl hd h2
  · rw [cE_11 hq] at hat; exact va_alen O.1 O.2.1 O.2.2.2.2.2.1.2.1 (one_P hat) 0 1 rfl rfl rfl hd h2
  · rw [cE_12 hq] at hat; exact va_alen O.1 O.2.1 O.2.2.2.2.2.1.2.1 (one_P hat) 0 2 rfl rfl rfl hd h2
  · rw [cE_13 hq] at hat; exact va_alen O.1 O.2.1 O.2.2.2.2.2.1.2.1 (one_P hat) 0 3 rfl rfl rfl hd h2
theorem r_iast (O : OkC p l s m args meth c G cc nL own) {a : Nat} (hk : aK h a = 10) {i x : Int32} (hi : vp_in i (aE h a)) (hd : decode cc pc = .ok (.iastore, 1)) (kk : AW p l e R s m args below meth c G nL Q (sI h a i.toNatClampNeg x) k n (pc + 1) lv st) : AW p l e R s m args below meth c G nL Q h k n pc lv (.int x :: .int i :: .ref a :: st) := by
  intro H locs ls hR hS hl
  have hat := hR.at (a := a) (by omega)
  rw [cE_10 hk] at hat
  have hK := O.2.2.2.2.2.1.2.1
  refine W.iast O.1 O.2.1 hat ((hK.2 0 _ rfl).1 (aE h a) (fun j => .int (aI h a j))) (fun q => by cases q) (by show ¬ (i < 0 ∨ (arrV _ _ _).slots.size ≤ _); rw [arrV_size]; exact hi) rfl rfl hd fun H1 e1 z1 o1 => ?_
  refine kk H1 _ ls (hR.put rfl rfl sI_o z1 o1 ?_) (hS.put z1 o1 (Nat.le_add_right _ _)) hl
  have hk' : aK (sI h a i.toNatClampNeg x) a = 10 := hk
  rw [cE_10 hk']
  show H1[gZ G + a]? = some (vp_cell _ _)
  rw [e1, vp_cell_i, vp_cell_i, arrV_store]
  congr 2
  funext q
  by_cases hq : q = i.toNatClampNeg <;> simp [updV, aI, sI, up2, hq]
theorem r_zast (O : OkC p l s m args meth c G cc nL own) {a : Nat} (hk : aK h a = 12) {i x : Int32} (hi : vp_in i (aE h a)) (hx : x = 0 ∨ x = 1) (hd : decode cc pc = .ok (.bastore, 1)) (kk : AW p l e R s m args below meth c G nL Q (sI h a i.toNatClampNeg x) k n (pc + 1) lv st) : AW p l e R s m args below meth c G nL Q h k n pc lv (.int x :: .int i :: .ref a :: st) := by
  intro H locs ls hR hS hl
  have hat := hR.at (a := a) (by omega)
  rw [cE_12 hk] at hat
  have hK := O.2.2.2.2.2.1.2.1
  refine W.zast O.1 O.2.1 hat ((hK.2 2 _ rfl).1 (aE h a) (fun j => .int (aI h a j))) (fun q => by cases q) (by show ¬ (i < 0 ∨ (arrV _ _ _).slots.size ≤ _); rw [arrV_size]; exact hi) rfl rfl hd fun H1 e1 z1 o1 => ?_
  refine kk H1 _ ls (hR.put rfl rfl sI_o z1 o1 ?_) (hS.put z1 o1 (Nat.le_add_right _ _)) hl
  have hk' : aK (sI h a i.toNatClampNeg x) a = 12 := hk
  rw [cE_12 hk']
  have hx2 : narrow .boolean (.int x) = .int x := by rcases hx with rfl | rfl <;> decide
  show H1[gZ G + a]? = some (vp_cell _ _)
  rw [e1, hx2, vp_cell_i, vp_cell_i, arrV_store]
  congr 2
  funext q
  by_cases hq : q = i.toNatClampNeg <;> simp [updV, aI, sI, up2, hq]
theorem r_last (O : OkC p l s m args meth c G cc nL own) {a : Nat} (hk : aK h a = 11) {i : Int32} {x : Int64} (hi : vp_in i (aE h a)) (hd : decode cc pc = .ok (.lastore, 1)) (kk : AW p l e R s m args below meth c G nL Q (sJ h a i.toNatClampNeg x) k n (pc + 1) lv st) : AW p l e R s m args below meth c G nL Q h k n pc lv (.long x :: .int i :: .ref a :: st) := by
  intro H locs ls hR hS hl
  have hat := hR.at (a := a) (by omega)
  rw [cE_11 hk] at hat
  have hK := O.2.2.2.2.2.1.2.1
  refine W.last O.1 O.2.1 hat ((hK.2 1 _ rfl).1 (aE h a) (fun j => .long (aJ h a j))) (fun q => by cases q) (by show ¬ (i < 0 ∨ (arrV _ _ _).slots.size ≤ _); rw [arrV_size]; exact hi) rfl rfl hd fun H1 e1 z1 o1 => ?_
  refine kk H1 _ ls (hR.put rfl rfl sJ_o z1 o1 ?_) (hS.put z1 o1 (Nat.le_add_right _ _)) hl
  have hk' : aK (sJ h a i.toNatClampNeg x) a = 11 := hk
  rw [cE_11 hk']
  show H1[gZ G + a]? = some (vp_cell _ _)
  rw [e1, vp_cell_l, vp_cell_l, arrV_store]
  congr 2
  funext q
  by_cases hq : q = i.toNatClampNeg <;> simp [updV, aJ, sJ, up2, hq]
theorem r_aast (O : OkC p l s m args meth c G cc nL own) {a b : Nat} (hk : aK h a = 13) (hb : aK h b = 2) {i : Int32} (hi : vp_in i (aE h a)) (hd : decode cc pc = .ok (.aastore, 1)) (kk : AW p l e R s m args below meth c G nL Q (sP h a i.toNatClampNeg (some b)) k n (pc + 1) lv st) : AW p l e R s m args below meth c G nL Q h k n pc lv (.ref b :: .int i :: .ref a :: st) := by
  intro H locs ls hR hS hl
  have hat := hR.at (a := a) (by omega)
  have hbt := hR.at (a := b) (by omega)
  rw [cE_13 hk] at hat
  rw [cE_ob hb (by omega)] at hbt
  have hK := O.2.2.2.2.2.1.2.1
  have hlt : i.toNatClampNeg < aE h a := Nat.not_le.mp fun q => hi (Or.inr q)
  have h0 : ¬ i < 0 := fun q => hi (Or.inl q)
  obtain ⟨r', hr', cellV, g1, g2, g3, -⟩ := hbt
  have hcls := (hK.1 2 _ rfl).2
  obtain ⟨kA, comp, k1, k2, k3, -⟩ := (hK.2 3 _ rfl).2
  have hcomp : comp = (gD G).1 2 := Option.some.inj (k3.symm.trans hcls.1)
  subst hcomp
  obtain ⟨kC, hkC, -⟩ := hcls.2
  refine W.aast O.1 O.2.1 hat (fun q h => by cases h) (fun h => by cases h) k1 k2 rfl hkC ⟨h0, by show _ < (arrV _ _ _).slots.size; rw [arrV_size]; exact hlt⟩ g1 (fun q h => by rw [g3] at h; cases h) (by rw [g2]; exact hkC) (by rw [g2]; exact va_assign hcls) rfl rfl hd fun H1 e1 z1 o1 => ?_
  refine kk H1 _ ls (hR.put rfl rfl sP_o z1 o1 ?_) (hS.put z1 o1 (Nat.le_add_right _ _)) hl
  have hk' : aK (sP h a i.toNatClampNeg (some b)) a = 13 := hk
  rw [cE_13 hk']
  show H1[gZ G + a]? = some (vp_cell _ _)
  rw [e1, vp_cell_q, vp_cell_q, arrV_store]
  congr 2
  funext q
  by_cases hq : q = i.toNatClampNeg <;> simp [updV, aP, sP, up2, hq, va_rf]
/-- new cells -/
theorem nw_K {h : AH} {kd len : Nat} : aK (nw h kd len) (aN h) = kd := by simp [aK, nw, va_up, aN]
theorem va_S.push {A : Nat → Prop} {H0 H H1 : Heap} {locs : List Loc} (hS : va_S A H0 H locs) (z : H1.size = H.size + 1) (o : ∀ q : Nat, q < H.size → H1[q]? = H[q]?) : va_S A H0 H1 locs :=
  ⟨Nat.le_trans hS.1 (by omega), fun x h1 h2 => (o x (Nat.lt_of_lt_of_le h1 hS.1)).trans (hS.2.1 x h1 h2), hS.2.2⟩
theorem r_new (O : OkC p l s m args meth c G cc nL own) (F : CF ci C T N) {idx : Nat} (hcl : Cond.classLink own idx C ∈ gtbl) (hc : k + 1 ≤ R.cells) (hs : n + N ≤ R.slots) (hd : decode cc pc = .ok (.new idx, 3)) (kk : AW p l e R s m args below meth c G nL Q (nw h ci 0) (k + 1) (n + N) (pc + 3) lv (.ref (aN h) :: st)) : AW p l e R s m args below meth c G nL Q h k n pc lv st := by
  intro H locs ls hR hS hl
  have hts := O.2.2.2.2.1
  have hKn := O.2.2.2.2.2.1.2.1.1 ci _ F.1
  refine W.newcK O.1 O.2.1 O.2.2.2.1 (hts _ hcl) (hts _ F.2.2.2.2.2.2.1) (hts _ F.2.2.2.2.2.2.2.1) rfl hd hc hs hKn.2.1 rfl fun H1 kC hkC e1 z1 o1 => ?_
  have hb := u_born (tyF ci) hts F.2.1 hKn hkC e1 F.2.2.2.2.1
  have hR1 : Rep G (nw h ci 0) H1 := by
    refine hR.push z1 o1 ?_
    rw [cE_ob nw_K F.2.2.2.1, ← hR.1]
    refine ⟨_, F.1, hb.to (fun j hj => ?_)⟩
    rw [vV_at F.2.2.1 hj]
    have e : aN h = h.1 := rfl
    unfold fV
    have hnf := F.2.2.2.2.2.2.2.2 j hj
    cases hty : tyF ci j <;> first | exact absurd hty hnf.1 | exact absurd hty hnf.2 | simp [tagT, defaultValue, aI, aJ, aP, nw, upR, e, va_rf]
  have h2 := kk H1 locs ls hR1 (hS.push z1 o1) hl
  have e3 : cv G (.ref (aN h)) = .ref H.size := by rw [hR.1]; rfl
  rw [List.map_cons, e3] at h2
  exact h2
theorem r_newI (O : OkC p l s m args meth c G cc nL own) (hw : Cond.arrayClass .int ∈ gtbl) {i : Int32} {len : Nat} (h0 : ¬ i < 0) (hlen : i.toNatClampNeg = len) (hb : len * componentBytes .int ≤ 536870912) (hc : k + 1 ≤ R.cells) (hs : n + len ≤ R.slots) (hd : decode cc pc = .ok (.newarray .int, 2)) (kk : AW p l e R s m args below meth c G nL Q (nw h 10 len) (k + 1) (n + len) (pc + 2) lv (.ref (aN h) :: st)) : AW p l e R s m args below meth c G nL Q h k n pc lv (.int i :: st) := by
  intro H locs ls hR hS hl
  refine va_newaK (atype := .int) O.1 O.2.1 (O.2.2.2.2.1 _ hw) rfl hd rfl h0 hlen hb hc hs rfl fun H1 cA e1 z1 o1 hAr hNm => ?_
  have hcA : cA = (gC G).1 := Option.some.inj (hNm.symm.trans (O.2.2.2.2.2.1.2.1.2 0 _ rfl).2)
  subst hcA
  have hR1 : Rep G (nw h 10 len) H1 := by
    refine hR.push z1 o1 ?_
    rw [cE_10 nw_K, ← hR.1]
    show H1[H.size]? = some (vp_cell _ _)
    rw [e1, vp_cell_i]
    have e : aN h = h.1 := rfl
    simp [aE, aI, nw, upR, va_up, e, defaultValue, newarray.typeOf]
  have h2 := kk H1 locs ls hR1 (hS.push z1 o1) hl
  have e3 : cv G (.ref (aN h)) = .ref H.size := by rw [hR.1]; rfl
  rw [List.map_cons, e3] at h2
  exact h2
theorem r_newJ (O : OkC p l s m args meth c G cc nL own) (hw : Cond.arrayClass .long ∈ gtbl) {i : Int32} {len : Nat} (h0 : ¬ i < 0) (hlen : i.toNatClampNeg = len) (hb : len * componentBytes .long ≤ 536870912) (hc : k + 1 ≤ R.cells) (hs : n + len ≤ R.slots) (hd : decode cc pc = .ok (.newarray .long, 2)) (kk : AW p l e R s m args below meth c G nL Q (nw h 11 len) (k + 1) (n + len) (pc + 2) lv (.ref (aN h) :: st)) : AW p l e R s m args below meth c G nL Q h k n pc lv (.int i :: st) := by
  intro H locs ls hR hS hl
  refine va_newaK (atype := .long) O.1 O.2.1 (O.2.2.2.2.1 _ hw) rfl hd rfl h0 hlen hb hc hs rfl fun H1 cA e1 z1 o1 hAr hNm => ?_
  have hcA : cA = (gC G).2.1 := Option.some.inj (hNm.symm.trans (O.2.2.2.2.2.1.2.1.2 1 _ rfl).2)
  subst hcA
  have hR1 : Rep G (nw h 11 len) H1 := by
    refine hR.push z1 o1 ?_
    rw [cE_11 nw_K, ← hR.1]
    show H1[H.size]? = some (vp_cell _ _)
    rw [e1, vp_cell_l]
    have e : aN h = h.1 := rfl
    simp [aE, aJ, nw, upR, va_up, e, defaultValue, newarray.typeOf]
  have h2 := kk H1 locs ls hR1 (hS.push z1 o1) hl
  have e3 : cv G (.ref (aN h)) = .ref H.size := by rw [hR.1]; rfl
  rw [List.map_cons, e3] at h2
  exact h2
theorem r_newZ (O : OkC p l s m args meth c G cc nL own) (hw : Cond.arrayClass .boolean ∈ gtbl) {i : Int32} {len : Nat} (h0 : ¬ i < 0) (hlen : i.toNatClampNeg = len) (hb : len * componentBytes .boolean ≤ 536870912) (hc : k + 1 ≤ R.cells) (hs : n + len ≤ R.slots) (hd : decode cc pc = .ok (.newarray .boolean, 2)) (kk : AW p l e R s m args below meth c G nL Q (nw h 12 len) (k + 1) (n + len) (pc + 2) lv (.ref (aN h) :: st)) : AW p l e R s m args below meth c G nL Q h k n pc lv (.int i :: st) := by
  intro H locs ls hR hS hl
  refine va_newaK (atype := .boolean) O.1 O.2.1 (O.2.2.2.2.1 _ hw) rfl hd rfl h0 hlen hb hc hs rfl fun H1 cA e1 z1 o1 hAr hNm => ?_
  have hcA : cA = (gC G).2.2.1 := Option.some.inj (hNm.symm.trans (O.2.2.2.2.2.1.2.1.2 2 _ rfl).2)
  subst hcA
  have hR1 : Rep G (nw h 12 len) H1 := by
    refine hR.push z1 o1 ?_
    rw [cE_12 nw_K, ← hR.1]
    show H1[H.size]? = some (vp_cell _ _)
    rw [e1, vp_cell_i]
    have e : aN h = h.1 := rfl
    simp [aE, aI, nw, upR, va_up, e, defaultValue, newarray.typeOf]
  have h2 := kk H1 locs ls hR1 (hS.push z1 o1) hl
  have e3 : cv G (.ref (aN h)) = .ref H.size := by rw [hR.1]; rfl
  rw [List.map_cons, e3] at h2
  exact h2
end AWD
