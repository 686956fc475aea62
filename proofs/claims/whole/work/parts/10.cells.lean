/-! rows of fields, arrays, new cells -/
def CF (ci : Nat) (C : String) (T : u_T) (N : Nat) : Prop := vwCl[ci]? = some (C, T, N) ∧ (∀ w ∈ u_ws C T N, w ∈ gtbl) ∧ nF ci = N ∧ ci < 10 ∧ (∀ k, k < N → parseFieldDescriptor (T k).2.2.1 = some (tyF ci k)) ∧ (∀ a, a < N → ∀ b, b < N → a ≠ b → (T a).2.1 ≠ (T b).2.1) ∧ Cond.instantiable C N ∈ gtbl ∧ Cond.initialized C ∈ gtbl ∧ ∀ k, k < N → tyF ci k ≠ .float ∧ tyF ci k ≠ .double
theorem one_P {D : va_G} {q : Nat × va_E} {H : Heap} (h : va_at D vwCl q H) : va_P D vwCl [q] H := by
  intro k x hx
  match k, hx with
  | 0, hx => cases hx; exact h
  | k + 1, hx => simp at hx
theorem fV_at {z : Nat} {h : AH} {a ci N j : Nat} (hN : nF ci = N) (hj : j < N) {v : Value} (hv : fV z h a ci j = v) : ((List.range (nF ci)).map (fV z h a ci))[j]? = some v := by
  rw [List.getElem?_map, List.getElem?_range (by omega)]
  simp [hv]
theorem vV_at {z : Nat} {h : AH} {a ci N j : Nat} (hN : nF ci = N) (hj : j < N) : vp_V ((List.range (nF ci)).map (fV z h a ci)) j = fV z h a ci j := by
  unfold vp_V
  rw [List.getD_eq_getElem?_getD, fV_at hN hj rfl]
  rfl
section AWC
variable {p : Program} {l : Launch} {e : Env} {R : Room} {s : State} {m : MethodId} {args : Array Value} {below : List Frame} {meth : Method} {c : Code} {G : GT} {nL : Nat} {Q : State → Prop} {h : AH} {k n pc : Nat} {lv : List (Nat × Value)} {st : List Value} {cc : ByteArray} {own : String} {ci N : Nat} {C : String} {T : u_T}
theorem r_get (O : OkC p l s m args meth c G cc nL own) (F : CF ci C T N) (j : Nat) (hj : j < N) {a idx : Nat} (hk : aK h a = ci) (hw : Cond.fieldLink own idx (T j).1 (T j).2.1 (T j).2.2.1 ∈ gtbl) {v : Value} (hv : fV (gZ G) h a ci j = cv G v) (hd : decode cc pc = .ok (.getfield idx, 3)) (kk : AW p l e R s m args below meth c G nL Q h k n (pc + 3) lv (v :: st)) : AW p l e R s m args below meth c G nL Q h k n pc lv (.ref a :: st) := by
  intro H locs ls hR hS hl
  have hat := hR.at (a := a) (by rw [hk]; have := F.2.2.2.1; omega)
  rw [cE_ob hk F.2.2.2.1] at hat
  exact va_get O.1 O.2.1 O.2.2.2.2.1 F.2.1 O.2.2.2.1 O.2.2.2.2.2.1.2.1 (one_P hat) 0 rfl F.1 j hj (O.2.2.2.2.1 _ hw) (fun x hx => hx) (fV_at F.2.2.1 hj hv) hd (kk H locs ls hR hS hl)
theorem r_getN (O : OkC p l s m args meth c G cc nL own) (F : CF ci C T N) (j : Nat) (hj : j < N) {a idx : Nat} {host : String} (hk : aK h a = ci) (hw : Cond.fieldLinkNest own idx (T j).1 (T j).2.1 (T j).2.2.1 host ∈ ntbl) {v : Value} (hv : fV (gZ G) h a ci j = cv G v) (hd : decode cc pc = .ok (.getfield idx, 3)) (kk : AW p l e R s m args below meth c G nL Q h k n (pc + 3) lv (v :: st)) : AW p l e R s m args below meth c G nL Q h k n pc lv (.ref a :: st) := by
  intro H locs ls hR hS hl
  have hat := hR.at (a := a) (by rw [hk]; have := F.2.2.2.1; omega)
  rw [cE_ob hk F.2.2.2.1] at hat
  exact va_getN O.1 O.2.1 O.2.2.2.2.1 F.2.1 O.2.2.2.1 O.2.2.2.2.2.1.2.1 (one_P hat) 0 rfl F.1 j hj (va_Nw.use rfl (O.2.2.2.2.2.1.2.2.1 _ hw)) (fun x hx => hx) (fV_at F.2.2.1 hj hv) hd (kk H locs ls hR hS hl)
theorem fV_I {z : Nat} {h : AH} {a ci j : Nat} (ht : tagT (tyF ci j) = 0) : fV z h a ci j = .int (aI h a j) := by simp [fV, ht]
theorem fV_J {z : Nat} {h : AH} {a ci j : Nat} (ht : tagT (tyF ci j) = 1) : fV z h a ci j = .long (aJ h a j) := by simp [fV, ht]
theorem fV_P {z : Nat} {h : AH} {a ci j : Nat} (ht : tagT (tyF ci j) = 2) : fV z h a ci j = va_rf ((aP h a j).map (fun b => z + b)) := by simp [fV, ht]
theorem fV_Pc {h : AH} {a ci j : Nat} (ht : tagT (tyF ci j) = 2) : fV (gZ G) h a ci j = cv G (rf (aP h a j)) := by rw [fV_P ht, cv_rf]
theorem fV_Ps {h : AH} {a ci j b : Nat} (ht : tagT (tyF ci j) = 2) (hb : aP h a j = some b) : fV (gZ G) h a ci j = cv G (.ref b) := by rw [fV_Pc ht, hb]; rfl
/-- a store into a field, in the abstract heap -/
theorem ob_put {h h' : AH} {H H1 : Heap} {a j : Nat} {v : Value} {cell : Cell} (F : CF ci C T N) (hR : Rep G h H) (hk : aK h a = ci) (e1 : aN h' = aN h) (e2 : aK h' = aK h) (e3 : ∀ b, b ≠ a → cE G h' b = cE G h b) (e4 : ∀ i, i < N → fV (gZ G) h' a ci i = if i = j then v else fV (gZ G) h a ci i) (hj : j < N)
    (hz : H1.size = H.size) (ho : ∀ q : Nat, q ≠ gZ G + a → H1[q]? = H[q]?) (hc2 : cell.cls = (gD G).1 ci) (hc3 : cell.vm = .none) (hc4 : ∀ i, i < N → cell.slots[(gD G).2 ci i]? = some (fV (gZ G) h a ci i)) (hap : ∀ x y, x < N → y < N → x ≠ y → (gD G).2 ci x ≠ (gD G).2 ci y) (h1 : H1[gZ G + a]? = some (cell.setSlot ((gD G).2 ci j) v)) : Rep G h' H1 := by
  refine hR.put e1 e2 e3 hz ho ?_
  rw [cE_ob (by rw [e2]; exact hk) F.2.2.2.1]
  refine ⟨_, F.1, cell.setSlot ((gD G).2 ci j) v, h1, hc2, hc3, ?_⟩
  have h5 := t_set (V := fun i => fV (gZ G) h a ci i) hc4 hap hj v
  intro i hi
  have h6 := h5 i hi
  have h7 : vp_V ((List.range (nF ci)).map (fV (gZ G) h' a ci)) i = if i = j then v else fV (gZ G) h a ci i := by rw [vV_at F.2.2.1 hi]; exact e4 i hi
  show (cell.setSlot ((gD G).2 ci j) v).slots[_]? = some (vp_V _ i)
  rw [h7]
  simpa [updV] using h6
theorem r_put (O : OkC p l s m args meth c G cc nL own) (F : CF ci C T N) (j : Nat) (hj : j < N) {a idx : Nat} (hk : aK h a = ci) (hw : Cond.fieldLink own idx (T j).1 (T j).2.1 (T j).2.2.1 ∈ gtbl) (hfin : (T j).2.2.2 = false) {v : Value} {h' : AH} (hn : narrow (tyF ci j) (cv G v) = cv G v) (hfit : fits (tyF ci j) (cv G v) = true)
    (e1 : aN h' = aN h) (e2 : aK h' = aK h) (e3 : ∀ b, b ≠ a → cE G h' b = cE G h b) (e4 : ∀ i, i < N → fV (gZ G) h' a ci i = if i = j then cv G v else fV (gZ G) h a ci i)
    (hd : decode cc pc = .ok (.putfield idx, 3)) (kk : AW p l e R s m args below meth c G nL Q h' k n (pc + 3) lv st) : AW p l e R s m args below meth c G nL Q h k n pc lv (v :: .ref a :: st) := by
  intro H locs ls hR hS hl
  have hat := hR.at (a := a) (by rw [hk]; have := F.2.2.2.1; omega)
  rw [cE_ob hk F.2.2.2.1] at hat
  obtain ⟨r, h1, cell, q1, q2, q3, q4⟩ := hat
  have hr : r = (C, T, N) := Option.some.inj (h1.symm.trans F.1)
  subst hr
  have hts := O.2.2.2.2.1
  have hK := O.2.2.2.2.2.1.2.1
  have hap := va_apart (own := own) hts F.2.1 (tyF ci) F.2.2.2.2.1 F.2.2.2.2.2.1 hK F.1
  obtain ⟨hSl, hfc, kC, hkC, hkind⟩ := hK.1 ci _ F.1
  obtain ⟨cf, kf, fi, f, hi, hsl⟩ := hSl j hj
  have hlay := hts _ (F.2.1 _ (u_in_lay hj))
  unfold u_lay at hlay
  rw [if_neg (by rw [hfin]; decide)] at hlay
  have hst := (u_facts hfc hkC (u_lays hts F.2.1 hj) hi).1
  have h6 := u_store hfc hkC hkind hlay hi (F.2.2.2.2.1 j hj) hn hfit
  have hq4 : ∀ i, i < N → cell.slots[(gD G).2 ci i]? = some (fV (gZ G) h a ci i) := fun i hi => by rw [← vV_at (z := gZ G) (h := h) (a := a) F.2.2.1 hi]; exact q4 i hi
  refine W.putK O.1 O.2.1 (f := f) ⟨O.2.2.2.1, hts _ hw, ⟨_, _, _, hi⟩, hst⟩ (by rw [q2]; exact h6) q1 q3 (by rw [hsl]; exact k2_hasslot (q4 j hj)) rfl rfl hd fun H' g1 g2 g3 => ?_
  rw [hsl] at g1 ⊢
  exact kk H' _ ls (ob_put F hR hk e1 e2 e3 e4 hj g2 g3 q2 q3 hq4 hap g1) (hS.put g2 g3 (Nat.le_add_right _ _)) hl
theorem r_putN (O : OkC p l s m args meth c G cc nL own) (F : CF ci C T N) (j : Nat) (hj : j < N) {a idx : Nat} {host : String} (hk : aK h a = ci) (hw : Cond.fieldLinkNest own idx (T j).1 (T j).2.1 (T j).2.2.1 host ∈ ntbl) (hfin : (T j).2.2.2 = false) {v : Value} {h' : AH} (hn : narrow (tyF ci j) (cv G v) = cv G v) (hfit : fits (tyF ci j) (cv G v) = true)
    (e1 : aN h' = aN h) (e2 : aK h' = aK h) (e3 : ∀ b, b ≠ a → cE G h' b = cE G h b) (e4 : ∀ i, i < N → fV (gZ G) h' a ci i = if i = j then cv G v else fV (gZ G) h a ci i)
    (hd : decode cc pc = .ok (.putfield idx, 3)) (kk : AW p l e R s m args below meth c G nL Q h' k n (pc + 3) lv st) : AW p l e R s m args below meth c G nL Q h k n pc lv (v :: .ref a :: st) := by
  intro H locs ls hR hS hl
  have hat := hR.at (a := a) (by rw [hk]; have := F.2.2.2.1; omega)
  rw [cE_ob hk F.2.2.2.1] at hat
  obtain ⟨r, h1, cell, q1, q2, q3, q4⟩ := hat
  have hr : r = (C, T, N) := Option.some.inj (h1.symm.trans F.1)
  subst hr
  have hts := O.2.2.2.2.1
  have hK := O.2.2.2.2.2.1.2.1
  have hap := va_apart (own := own) hts F.2.1 (tyF ci) F.2.2.2.2.1 F.2.2.2.2.2.1 hK F.1
  obtain ⟨hSl, hfc, kC, hkC, hkind⟩ := hK.1 ci _ F.1
  obtain ⟨cf, kf, fi, f, hi, hsl⟩ := hSl j hj
  have hlay := hts _ (F.2.1 _ (u_in_lay hj))
  unfold u_lay at hlay
  rw [if_neg (by rw [hfin]; decide)] at hlay
  have hst := (u_facts hfc hkC (u_lays hts F.2.1 hj) hi).1
  have h6 := u_store hfc hkC hkind hlay hi (F.2.2.2.2.1 j hj) hn hfit
  have hq4 : ∀ i, i < N → cell.slots[(gD G).2 ci i]? = some (fV (gZ G) h a ci i) := fun i hi => by rw [← vV_at (z := gZ G) (h := h) (a := a) F.2.2.1 hi]; exact q4 i hi
  refine va_WputK O.1 O.2.1 (f := f) O.2.2.2.1 (va_Nw.use rfl (O.2.2.2.2.2.1.2.2.1 _ hw)) hi hst (by rw [q2]; exact h6) q1 q3 (by rw [hsl]; exact k2_hasslot (q4 j hj)) rfl rfl hd fun H' g1 g2 g3 => ?_
  rw [hsl] at g1 ⊢
  exact kk H' _ ls (ob_put F hR hk e1 e2 e3 e4 hj g2 g3 q2 q3 hq4 hap g1) (hS.put g2 g3 (Nat.le_add_right _ _)) hl
theorem r_putF (O : OkC p l s m args meth c G cc nL own) (hin : meth.name = "<init>") (F : CF ci C T N) (j : Nat) (hj : j < N) {a idx : Nat} (hk : aK h a = ci) (hw : Cond.fieldLink own idx (T j).1 (T j).2.1 (T j).2.2.1 ∈ gtbl) (hfin : (T j).2.2.2 = true) (hdecl : (T j).1 = own) {v : Value} {h' : AH} (hn : narrow (tyF ci j) (cv G v) = cv G v) (hfit : fits (tyF ci j) (cv G v) = true)
    (e1 : aN h' = aN h) (e2 : aK h' = aK h) (e3 : ∀ b, b ≠ a → cE G h' b = cE G h b) (e4 : ∀ i, i < N → fV (gZ G) h' a ci i = if i = j then cv G v else fV (gZ G) h a ci i)
    (hd : decode cc pc = .ok (.putfield idx, 3)) (kk : AW p l e R s m args below meth c G nL Q h' k n (pc + 3) lv st) : AW p l e R s m args below meth c G nL Q h k n pc lv (v :: .ref a :: st) := by
  intro H locs ls hR hS hl
  have hat := hR.at (a := a) (by rw [hk]; have := F.2.2.2.1; omega)
  rw [cE_ob hk F.2.2.2.1] at hat
  obtain ⟨r, h1, cell, q1, q2, q3, q4⟩ := hat
  have hr : r = (C, T, N) := Option.some.inj (h1.symm.trans F.1)
  subst hr
  have hts := O.2.2.2.2.1
  have hK := O.2.2.2.2.2.1.2.1
  have hap := va_apart (own := own) hts F.2.1 (tyF ci) F.2.2.2.2.1 F.2.2.2.2.2.1 hK F.1
  obtain ⟨hSl, hfc, kC, hkC, hkind⟩ := hK.1 ci _ F.1
  obtain ⟨cf, kf, fi, f, hi, hsl⟩ := hSl j hj
  have hlay := hts _ (F.2.1 _ (u_in_lay hj))
  unfold u_lay at hlay
  rw [if_pos hfin] at hlay
  have hst := (u_facts hfc hkC (u_lays hts F.2.1 hj) hi).1
  have hcf : m.cls = cf := by
    obtain ⟨_, _, c', _, _, _, -, -, hf', -, -, -, hown2, -⟩ := Cond.laysFinal_spec hlay
    have e1 : c' = cf := by have := hi.symm.trans hf'; simp at this; exact this.1.symm
    rw [hdecl] at hown2
    rw [← e1]; exact Option.some.inj (O.2.2.2.1.symm.trans hown2)
  have h6 := u_fits hfc hkC hkind (Or.inr hlay) hi (F.2.2.2.2.1 j hj) hn hfit
  have hq4 : ∀ i, i < N → cell.slots[(gD G).2 ci i]? = some (fV (gZ G) h a ci i) := fun i hi => by rw [← vV_at (z := gZ G) (h := h) (a := a) F.2.2.1 hi]; exact q4 i hi
  refine W.putFinK O.1 O.2.1 O.2.2.2.1 (hts _ hw) hi hst hcf hin (by rw [q2]; exact h6) q1 q3 (by rw [hsl]; exact k2_hasslot (q4 j hj)) rfl rfl hd fun H' g1 g2 g3 => ?_
  rw [hsl] at g1 ⊢
  exact kk H' _ ls (ob_put F hR hk e1 e2 e3 e4 hj g2 g3 q2 q3 hq4 hap g1) (hS.put g2 g3 (Nat.le_add_right _ _)) hl
/-- what the three kinds of stores do to pictures -/
theorem up2_ne {α : Type} (f : Nat → Nat → α) {a i b : Nat} (v : α) (hb : b ≠ a) : up2 f a i v b = f b := by funext j; simp [up2, hb]
theorem up2_at {α : Type} (f : Nat → Nat → α) (a i j : Nat) (v : α) : up2 f a i v a j = if j = i then v else f a j := by simp [up2]
theorem upR_ne {α : Type} (f : Nat → Nat → α) {a b : Nat} (g : Nat → α) (hb : b ≠ a) : upR f a g b = f b := by simp [upR, hb]
theorem upR_at {α : Type} (f : Nat → Nat → α) (a : Nat) (g : Nat → α) : upR f a g a = g := by simp [upR]
theorem sI_o {h : AH} {a i : Nat} {v : Int32} : ∀ b, b ≠ a → cE G (sI h a i v) b = cE G h b := fun b hb => cE_congr rfl rfl (up2_ne _ _ hb) rfl rfl
theorem sJ_o {h : AH} {a i : Nat} {v : Int64} : ∀ b, b ≠ a → cE G (sJ h a i v) b = cE G h b := fun b hb => cE_congr rfl rfl rfl (up2_ne _ _ hb) rfl
theorem sP_o {h : AH} {a i : Nat} {v : Option Nat} : ∀ b, b ≠ a → cE G (sP h a i v) b = cE G h b := fun b hb => cE_congr rfl rfl rfl rfl (up2_ne _ _ hb)
theorem rI_o {h : AH} {a : Nat} {g : Nat → Int32} : ∀ b, b ≠ a → cE G (rI h a g) b = cE G h b := fun b hb => cE_congr rfl rfl (upR_ne _ _ hb) rfl rfl
theorem rJ_o {h : AH} {a : Nat} {g : Nat → Int64} : ∀ b, b ≠ a → cE G (rJ h a g) b = cE G h b := fun b hb => cE_congr rfl rfl rfl (upR_ne _ _ hb) rfl
theorem sI_f {h : AH} {a j ci : Nat} {v : Int32} (ht : tagT (tyF ci j) = 0) : ∀ i, i < N → fV (gZ G) (sI h a j v) a ci i = if i = j then cv G (.int v) else fV (gZ G) h a ci i := by
  intro i _
  by_cases hi : i = j
  · subst hi; rw [fV_I ht, if_pos rfl]; simp [aI, sI, up2, cv]
  · rw [if_neg hi]; simp [fV, aI, aJ, aP, sI, up2, hi]
theorem sJ_f {h : AH} {a j ci : Nat} {v : Int64} (ht : tagT (tyF ci j) = 1) : ∀ i, i < N → fV (gZ G) (sJ h a j v) a ci i = if i = j then cv G (.long v) else fV (gZ G) h a ci i := by
  intro i _
  by_cases hi : i = j
  · subst hi; rw [fV_J ht, if_pos rfl]; simp [aJ, sJ, up2, cv]
  · rw [if_neg hi]; simp [fV, aI, aJ, aP, sJ, up2, hi]
theorem sP_f {h : AH} {a j ci : Nat} {v : Option Nat} (ht : tagT (tyF ci j) = 2) : ∀ i, i < N → fV (gZ G) (sP h a j v) a ci i = if i = j then cv G (rf v) else fV (gZ G) h a ci i := by
  intro i _
  by_cases hi : i = j
  · subst hi; rw [fV_Pc ht, if_pos rfl]; simp [aP, sP, up2]
  · rw [if_neg hi]; simp [fV, aI, aJ, aP, sP, up2, hi]
end AWC
