/-! copies, throws, the class tables -/
theorem xa_hat {args : Array Value} {s : State} {L : List Cond} (h1 : ∀ w ∈ gtbl, w.before args s = true) (h2 : ∀ w ∈ ntbl, va_Nw w s) (hL : L.all (fun w => decide (w ∈ gtbl) || (decide (w ∈ ntbl) && w.onTables)) = true) : ∀ w ∈ L, w.before args s = true := by
  intro w hw
  have h3 := List.all_eq_true.mp hL w hw
  simp only [Bool.or_eq_true, Bool.and_eq_true, decide_eq_true_eq] at h3
  rcases h3 with h3 | ⟨h3, h4⟩
  · exact h1 w h3
  · exact va_Nw.use h4 (h2 w h3)
def xnames : List String := ["java/lang/RuntimeException", "java/lang/Exception"]
/-- what 'throw new E(text)' needs of the tables -/
def XA (own : String) (ik ic : Nat) (E : String) : Prop := Bundle.fit E = true ∧ (∀ n ∈ xnames, Bundle.fit n = true) ∧ Cond.initialized E ∈ gtbl ∧ (vx_atS own ic E xnames).all (fun w => decide (w ∈ gtbl) || (decide (w ∈ ntbl) && w.onTables)) = true ∧ (Cond.classLink own ik E :: Cond.initialized E :: vx_atS own ic E xnames).all vx_ot = true
section AWT
variable {p : Program} {l : Launch} {e : Env} {R : Room} {s : State} {m : MethodId} {args : Array Value} {below : List Frame} {meth : Method} {c : Code} {G : GT} {nL : Nat} {Q : State → Prop} {h h' : AH} {k n pc : Nat} {lv : List (Nat × Value)} {st : List Value} {cc : ByteArray} {own : String} {ci N : Nat} {C : String} {T : u_T} {mc ms : Nat} {o : Except Nat (Option Value)}
theorem r_throw (kx : Nat) {ik is ic : Nat} {tx : String} (O : OkC p l s m args meth c G cc nL RX8) (hx : ∀ x ∈ c.exceptionTable.toList, False) (w1 : Cond.classLink RX8 ik (exN kx) ∈ gtbl) (w2 : XA RX8 ik ic (exN kx)) (w3 : Cond.stringRef RX8 is tx ∈ lw_tbl)
    (hF : 5 < R.frames) (hL : 90 ≤ R.locals) (hw : (st.map fun v => v.category).sum ≤ 8) (hc : k + 1 ≤ R.cells) (hs : n + 6 ≤ R.slots) (hm : k + 1 ≤ mc ∧ n + 6 ≤ ms)
    (d0 : decode cc pc = .ok (.new ik, 3)) (d3 : decode cc (pc + 3) = .ok (.dup, 1)) (d4 : decode cc (pc + 4) = .ok (.ldc is, 2)) (d6 : decode cc (pc + 6) = .ok (.invokespecial ic, 3)) (d9 : decode cc (pc + 9) = .ok (.athrow, 1)) :
    AW p l e R s m args below meth c G nL (vx_MQ below (QcN G (.error kx) (nx h)) (XcN G (.error kx) (nx h)) args s mc ms (gA G)) h k n pc lv st := by
  intro H locs ls hR hS hl
  have hts := O.2.2.2.2.1
  have E := O.2.2.2.2.2.1
  obtain ⟨sa, hstr⟩ := E.2.2.2.2.2.2.2.2.1 is tx w3
  refine vx_throwS (A := gA G) (names := xnames) (cls := exN kx) (text := tx) O.1 O.2.1 E.1 O.2.2.2.1 w2.1 w2.2.1 (hts _ w1) (hts _ w2.2.2.1) hstr (xa_hat hts E.2.2.1 w2.2.2.2.1) (List.all_eq_true.mp w2.2.2.2.2) E.2.2.2.2.2.2.1 E.2.2.2.2.2.2.2.1 hS (by rw [O.2.2.1]; exact hl.1) d0 d3 d4 d6 d9 (fun x hx' => (hx x hx').elim) hF (by rw [cv_sum]; show _ + (13 * (2 + 1) + 43) ≤ _; omega) hc hs O.2.2.2.2.2.2.1 (fun t _ hz hq => ⟨⟨kx, rfl, rfl, hR.thrown hz hq⟩, ?_⟩) (fun z hz => hS.2.2 z hz) hm.1 hm.2
  exact ⟨Nat.le_trans hS.1 (by omega), fun q h1 h2 => by rw [hq q (Nat.lt_of_lt_of_le h1 hS.1)]; exact hS.2.1 q h1 h2⟩
theorem r_throwW (kx : Nat) {ik is ic : Nat} {tx : String} (O : OkC p l s m args meth c G cc nL RX8) (hx : ∀ x ∈ c.exceptionTable.toList, False) (w1 : Cond.classLink RX8 ik (exN kx) ∈ gtbl) (w2 : XA RX8 ik ic (exN kx)) (w3 : Cond.stringRef RX8 is tx ∈ lw_tbl)
    (hF : 5 < R.frames) (hL : 90 ≤ R.locals) (hw : (st.map fun v => v.category).sum ≤ 8) (hc : k + 1 ≤ R.cells) (hs : n + 6 ≤ R.slots) (hm : k + 1 ≤ mc ∧ n + 6 ≤ ms)
    (d0 : decode cc pc = .ok (.new ik, 3)) (d3 : decode cc (pc + 3) = .ok (.dup, 1)) (d4 : decode cc (pc + 4) = .ok (.ldc_w is, 3)) (d6 : decode cc (pc + 7) = .ok (.invokespecial ic, 3)) (d9 : decode cc (pc + 10) = .ok (.athrow, 1)) :
    AW p l e R s m args below meth c G nL (vx_MQ below (QcN G (.error kx) (nx h)) (XcN G (.error kx) (nx h)) args s mc ms (gA G)) h k n pc lv st := by
  intro H locs ls hR hS hl
  have hts := O.2.2.2.2.1
  have E := O.2.2.2.2.2.1
  obtain ⟨sa, hstr⟩ := E.2.2.2.2.2.2.2.2.1 is tx w3
  refine vx_throwSW (A := gA G) (names := xnames) (cls := exN kx) (text := tx) O.1 O.2.1 E.1 O.2.2.2.1 w2.1 w2.2.1 (hts _ w1) (hts _ w2.2.2.1) hstr (xa_hat hts E.2.2.1 w2.2.2.2.1) (List.all_eq_true.mp w2.2.2.2.2) E.2.2.2.2.2.2.1 E.2.2.2.2.2.2.2.1 hS (by rw [O.2.2.1]; exact hl.1) d0 d3 d4 d6 d9 (fun x hx' => (hx x hx').elim) hF (by rw [cv_sum]; show _ + (13 * (2 + 1) + 43) ≤ _; omega) hc hs O.2.2.2.2.2.2.1 (fun t _ hz hq => ⟨⟨kx, rfl, rfl, hR.thrown hz hq⟩, ?_⟩) (fun z hz => hS.2.2 z hz) hm.1 hm.2
  exact ⟨Nat.le_trans hS.1 (by omega), fun q h1 h2 => by rw [hq q (Nat.lt_of_lt_of_le h1 hS.1)]; exact hS.2.1 q h1 h2⟩
theorem wo_i : Cond.instanceMethod objectInit ∈ gtbl := by decide +kernel
theorem wo_c : Cond.code objectInit ⟨#[0xb1]⟩ 1 none ∈ gtbl := by decide +kernel
theorem r_objInit (O : OkC p l s m args meth c G cc nL own) {a idx : Nat} (wl : Cond.methodLink own idx objectInit ∈ gtbl) (hF : 1 ≤ R.frames) (hL : 20 ≤ R.locals) (hw : (st.map fun v => v.category).sum ≤ 8) (hd : decode cc pc = .ok (.invokespecial idx, 3)) (kk : AW p l e R s m args below meth c G nL Q h k n (pc + 3) lv st) : AW p l e R s m args below meth c G nL Q h k n pc lv (.ref a :: st) := fun H locs ls hR hS hl =>
  W.objInit O.1 O.2.1 O.2.2.2.1 (O.2.2.2.2.1 _ wl) (O.2.2.2.2.1 _ wo_i) (O.2.2.2.2.1 _ wo_c) rfl (by rw [O.2.2.1]; exact hl.1) rfl hd hF (by show 2 * 0 + ((List.map (cv G) st).map fun v => v.category).sum + 12 ≤ _; rw [cv_sum]; omega) (kk H locs ls hR hS hl)
theorem r_aret (O : OkC p l s m args meth c G cc nL own) {cn : String} (hr : meth.sig.returnType = some (.object cn)) {v : Value} (hv : v.isRef = true) (ho : o = .ok (some v)) (hh : h = h') (h1 : k ≤ mc) (h2 : n ≤ ms) (hd : decode cc pc = .ok (.areturn, 1)) : AW p l e R s m args below meth c G nL (vx_MQ below (QcN G o h') (XcN G o h') args s mc ms (gA G)) h k n pc lv [v] := fun H locs ls hR hS hl =>
  W.widen h1 h2 (vx_ret (W.aret O.1 O.2.1 hr (Or.inl ⟨_, rfl⟩) (by cases v <;> first | (cases hv; done) | exact Or.inl rfl | exact Or.inr ⟨_, rfl⟩) (fun t ht _ => qc_of hR hS ho hh t ht) (fun q hq => hS.2.2 q hq) hd (hlocks := O.2.2.2.2.2.2.1)))
theorem wc_m : Cond.native arraycopyName ∈ gtbl := by decide +kernel
theorem wc_s : Cond.static arraycopyName ∈ gtbl := by decide +kernel
theorem wc_i : Cond.initialized "java/lang/System" ∈ gtbl := by decide +kernel

theorem r_cpI (O : OkC p l s m args meth c G cc nL own) {a b : Nat} {sp dp i : Int32} (hx : cpI h a sp b dp i = some h') {idx : Nat} (wl : Cond.methodLink own idx arraycopyName ∈ gtbl) (hF : 1 ≤ R.frames) (hL : (st.map fun v => v.category).sum + (nativeFrameWords "java/lang/System" "arraycopy" 5 + 11) ≤ R.locals) (hd : decode cc pc = .ok (.invokestatic idx, 3)) (kk : AW p l e R s m args below meth c G nL Q h' k n (pc + 3) lv st) : AW p l e R s m args below meth c G nL Q h k n pc lv (.int i :: .int dp :: .ref b :: .int sp :: .ref a :: st) := by
  unfold cpI at hx
  obtain ⟨⟨⟨ka, kb⟩, ⟨h1, h2, h3⟩, h4, h5⟩, h6⟩ := ifk hx
  cases h6
  intro H locs ls hR hS hl
  have hts := O.2.2.2.2.1
  have hK := O.2.2.2.2.2.1.2.1
  have ha := hR.at (a := a) (by omega)
  have hb := hR.at (a := b) (by omega)
  rw [cE_10 ka] at ha
  rw [cE_10 kb] at hb
  have nn : ∀ z : Int32, ¬ z < 0 → z.toInt = (z.toNatClampNeg : Int) := by
    intro z hz
    have hz0 : (0 : Int) ≤ z.toInt := by
      have := Int32.not_lt.mp hz
      simpa using Int32.le_iff_toInt_le.mp this
    show z.toInt = ((z.toInt.toNat : Nat) : Int)
    omega
  intro T hT X
  have hc0 : H[gZ G + a]? = some (vp_cell (gC G).1 (aE h a, .inl (aI h a))) := ha
  have hc1 : H[gZ G + b]? = some (vp_cell (gC G).1 (aE h b, .inl (aI h b))) := hb
  obtain ⟨-, k0, hk0, cm0, hkk0⟩ := (hK.2 0 _ rfl).1 (aE h a) (fun j => .int (aI h a j))
  obtain ⟨-, k1, hk1, cm1, hkk1⟩ := (hK.2 0 _ rfl).1 (aE h b) (fun j => .int (aI h b j))
  obtain ⟨vm', X', step⟩ := X.arraycopy O.1 O.2.2.2.1 (hts _ wl) (hts _ wc_m) (hts _ wc_s) (hts _ wc_i) (src := gZ G + a) (dst := gZ G + b) (cs := vp_cell (gC G).1 (aE h a, .inl (aI h a))) (cd := vp_cell (gC G).1 (aE h b, .inl (aI h b))) (srcPos := sp) (destPos := dp) (n := i) (by rw [hT]; exact hc0) (by rw [hT]; exact hc1)
    (fun _ h => by cases h) (fun _ h => by cases h) (fun h => by cases h) (fun h => by cases h) hk0 hk1 hkk0 hkk1 (by simp [refKind]) h1 h2 h3
    (by rw [nn sp h1, nn i h3]; show ¬ _ > ((arrV _ (aE h a) (fun j => .int (aI h a j))).slots.size : Int); rw [arrV_size]; omega)
    (by rw [nn dp h2, nn i h3]; show ¬ _ > ((arrV _ (aE h b) (fun j => .int (aI h b j))).slots.size : Int); rw [arrV_size]; omega)
    (fun vm₁ _ q hq => by
      have e : (vp_cell (gC G).1 (aE h a, .inl (aI h a))).slots.getD (sp.toNatClampNeg + q) .null = .int (aI h a (sp.toNatClampNeg + q)) := by
        show (arrV _ (aE h a) (fun j => .int (aI h a j))).slots.getD _ _ = _
        rw [Array.getD_eq_getD_getElem?, arrV_read _ _ (by omega)]
        rfl
      refine ⟨?_, ?_⟩
      · rw [e]; rfl
      · rw [e]; exact trivial)
    (g := F0 m pc ls (.int i :: .int dp :: .ref (gZ G + b) :: .int sp :: .ref (gZ G + a) :: st.map (cv G))) rfl (by rw [O.2.2.1]; exact hl.1) (rest := st.map (cv G)) rfl (by rw [O.2.1]; exact hd) hF (by show 2 * 0 + _ + _ ≤ _; rw [cv_sum]; omega)
  have e1 : copied (vp_cell (gC G).1 (aE h a, .inl (aI h a))) (vp_cell (gC G).1 (aE h b, .inl (aI h b))) sp dp i = vp_cell (gC G).1 (aE h b, .inl (va_cpy (aI h a) (aI h b) sp.toNatClampNeg dp.toNatClampNeg i.toNatClampNeg)) := va_copied (fun z => .int z) _ _ (aI h a) (aI h b) h4
  rw [e1] at X' step
  have hlt : gZ G + b < H.size := (Array.getElem?_eq_some_iff.mp hc1).1
  generalize hcell : vp_cell (gC G).1 (aE h b, .inl (va_cpy (aI h a) (aI h b) sp.toNatClampNeg dp.toNatClampNeg i.toNatClampNeg)) = cell at X' step
  have hheap : ((T.setVm vm').setCell (gZ G + b) cell).heap = H.setIfInBounds (gZ G + b) cell := by rw [← hT]; rfl
  have oq : ∀ q : Nat, q ≠ gZ G + b → (H.setIfInBounds (gZ G + b) cell)[q]? = H[q]? := fun q hq => by simp [Array.getElem?_setIfInBounds, Ne.symm hq]
  have hz : (H.setIfInBounds (gZ G + b) cell).size = H.size := by simp
  have hR1 : Rep G (rI h b (va_cpy (aI h a) (aI h b) sp.toNatClampNeg dp.toNatClampNeg i.toNatClampNeg)) (H.setIfInBounds (gZ G + b) cell) := by
    refine hR.put rfl rfl rI_o hz oq ?_
    have hk' : aK (rI h b (va_cpy (aI h a) (aI h b) sp.toNatClampNeg dp.toNatClampNeg i.toNatClampNeg)) b = 10 := kb
    rw [cE_10 hk']
    show (H.setIfInBounds (gZ G + b) cell)[gZ G + b]? = some (vp_cell _ _)
    have e2 : aI (rI h b (va_cpy (aI h a) (aI h b) sp.toNatClampNeg dp.toNatClampNeg i.toNatClampNeg)) b = va_cpy (aI h a) (aI h b) sp.toNatClampNeg dp.toNatClampNeg i.toNatClampNeg := upR_at _ _ _
    rw [e2]
    show _ = some (vp_cell (gC G).1 (aE h b, _))
    rw [hcell]
    simp [Array.getElem?_setIfInBounds, hlt]
  obtain ⟨t, a1, b1⟩ := kk _ _ ls hR1 ⟨by rw [hz]; exact hS.1, fun q g1 g2 => by
      rw [oq q (fun e => g2 (by rw [e]; exact Nat.le_add_right _ _))]
      exact hS.2.1 q g1 g2, fun q hq => by
      rcases List.mem_append.mp hq with h | h
      · exact hS.2.2 q h
      · obtain ⟨z, -, hz⟩ := List.mem_map.mp h
        rw [← hz]
        exact Nat.le_add_right _ _⟩ hl _ hheap X'
  exact ⟨t, step t a1, b1⟩

theorem r_cpJ (O : OkC p l s m args meth c G cc nL own) {a b : Nat} {sp dp i : Int32} (hx : cpJ h a sp b dp i = some h') {idx : Nat} (wl : Cond.methodLink own idx arraycopyName ∈ gtbl) (hF : 1 ≤ R.frames) (hL : (st.map fun v => v.category).sum + (nativeFrameWords "java/lang/System" "arraycopy" 5 + 11) ≤ R.locals) (hd : decode cc pc = .ok (.invokestatic idx, 3)) (kk : AW p l e R s m args below meth c G nL Q h' k n (pc + 3) lv st) : AW p l e R s m args below meth c G nL Q h k n pc lv (.int i :: .int dp :: .ref b :: .int sp :: .ref a :: st) := by
  unfold cpJ at hx
  obtain ⟨⟨⟨ka, kb⟩, ⟨h1, h2, h3⟩, h4, h5⟩, h6⟩ := ifk hx
  cases h6
  intro H locs ls hR hS hl
  have hts := O.2.2.2.2.1
  have hK := O.2.2.2.2.2.1.2.1
  have ha := hR.at (a := a) (by omega)
  have hb := hR.at (a := b) (by omega)
  rw [cE_11 ka] at ha
  rw [cE_11 kb] at hb
  have nn : ∀ z : Int32, ¬ z < 0 → z.toInt = (z.toNatClampNeg : Int) := by
    intro z hz
    have hz0 : (0 : Int) ≤ z.toInt := by
      have := Int32.not_lt.mp hz
      simpa using Int32.le_iff_toInt_le.mp this
    show z.toInt = ((z.toInt.toNat : Nat) : Int)
    omega
  intro T hT X
  have hc0 : H[gZ G + a]? = some (vp_cell (gC G).2.1 (aE h a, .inr (.inl (aJ h a)))) := ha
  have hc1 : H[gZ G + b]? = some (vp_cell (gC G).2.1 (aE h b, .inr (.inl (aJ h b)))) := hb
  obtain ⟨-, k0, hk0, cm0, hkk0⟩ := (hK.2 1 _ rfl).1 (aE h a) (fun j => .long (aJ h a j))
  obtain ⟨-, k1, hk1, cm1, hkk1⟩ := (hK.2 1 _ rfl).1 (aE h b) (fun j => .long (aJ h b j))
  obtain ⟨vm', X', step⟩ := X.arraycopy O.1 O.2.2.2.1 (hts _ wl) (hts _ wc_m) (hts _ wc_s) (hts _ wc_i) (src := gZ G + a) (dst := gZ G + b) (cs := vp_cell (gC G).2.1 (aE h a, .inr (.inl (aJ h a)))) (cd := vp_cell (gC G).2.1 (aE h b, .inr (.inl (aJ h b)))) (srcPos := sp) (destPos := dp) (n := i) (by rw [hT]; exact hc0) (by rw [hT]; exact hc1)
    (fun _ h => by cases h) (fun _ h => by cases h) (fun h => by cases h) (fun h => by cases h) hk0 hk1 hkk0 hkk1 (by simp [refKind]) h1 h2 h3
    (by rw [nn sp h1, nn i h3]; show ¬ _ > ((arrV _ (aE h a) (fun j => .long (aJ h a j))).slots.size : Int); rw [arrV_size]; omega)
    (by rw [nn dp h2, nn i h3]; show ¬ _ > ((arrV _ (aE h b) (fun j => .long (aJ h b j))).slots.size : Int); rw [arrV_size]; omega)
    (fun vm₁ _ q hq => by
      have e : (vp_cell (gC G).2.1 (aE h a, .inr (.inl (aJ h a)))).slots.getD (sp.toNatClampNeg + q) .null = .long (aJ h a (sp.toNatClampNeg + q)) := by
        show (arrV _ (aE h a) (fun j => .long (aJ h a j))).slots.getD _ _ = _
        rw [Array.getD_eq_getD_getElem?, arrV_read _ _ (by omega)]
        rfl
      refine ⟨?_, ?_⟩
      · rw [e]; rfl
      · rw [e]; exact trivial)
    (g := F0 m pc ls (.int i :: .int dp :: .ref (gZ G + b) :: .int sp :: .ref (gZ G + a) :: st.map (cv G))) rfl (by rw [O.2.2.1]; exact hl.1) (rest := st.map (cv G)) rfl (by rw [O.2.1]; exact hd) hF (by show 2 * 0 + _ + _ ≤ _; rw [cv_sum]; omega)
  have e1 : copied (vp_cell (gC G).2.1 (aE h a, .inr (.inl (aJ h a)))) (vp_cell (gC G).2.1 (aE h b, .inr (.inl (aJ h b)))) sp dp i = vp_cell (gC G).2.1 (aE h b, .inr (.inl (va_cpy (aJ h a) (aJ h b) sp.toNatClampNeg dp.toNatClampNeg i.toNatClampNeg))) := va_copied (fun z => .long z) _ _ (aJ h a) (aJ h b) h4
  rw [e1] at X' step
  have hlt : gZ G + b < H.size := (Array.getElem?_eq_some_iff.mp hc1).1
  generalize hcell : vp_cell (gC G).2.1 (aE h b, .inr (.inl (va_cpy (aJ h a) (aJ h b) sp.toNatClampNeg dp.toNatClampNeg i.toNatClampNeg))) = cell at X' step
  have hheap : ((T.setVm vm').setCell (gZ G + b) cell).heap = H.setIfInBounds (gZ G + b) cell := by rw [← hT]; rfl
  have oq : ∀ q : Nat, q ≠ gZ G + b → (H.setIfInBounds (gZ G + b) cell)[q]? = H[q]? := fun q hq => by simp [Array.getElem?_setIfInBounds, Ne.symm hq]
  have hz : (H.setIfInBounds (gZ G + b) cell).size = H.size := by simp
  have hR1 : Rep G (rJ h b (va_cpy (aJ h a) (aJ h b) sp.toNatClampNeg dp.toNatClampNeg i.toNatClampNeg)) (H.setIfInBounds (gZ G + b) cell) := by
    refine hR.put rfl rfl rJ_o hz oq ?_
    have hk' : aK (rJ h b (va_cpy (aJ h a) (aJ h b) sp.toNatClampNeg dp.toNatClampNeg i.toNatClampNeg)) b = 11 := kb
    rw [cE_11 hk']
    show (H.setIfInBounds (gZ G + b) cell)[gZ G + b]? = some (vp_cell _ _)
    have e2 : aJ (rJ h b (va_cpy (aJ h a) (aJ h b) sp.toNatClampNeg dp.toNatClampNeg i.toNatClampNeg)) b = va_cpy (aJ h a) (aJ h b) sp.toNatClampNeg dp.toNatClampNeg i.toNatClampNeg := upR_at _ _ _
    rw [e2]
    show _ = some (vp_cell (gC G).2.1 (aE h b, _))
    rw [hcell]
    simp [Array.getElem?_setIfInBounds, hlt]
  obtain ⟨t, a1, b1⟩ := kk _ _ ls hR1 ⟨by rw [hz]; exact hS.1, fun q g1 g2 => by
      rw [oq q (fun e => g2 (by rw [e]; exact Nat.le_add_right _ _))]
      exact hS.2.1 q g1 g2, fun q hq => by
      rcases List.mem_append.mp hq with h | h
      · exact hS.2.2 q h
      · obtain ⟨z, -, hz⟩ := List.mem_map.mp h
        rw [← hz]
        exact Nat.le_add_right _ _⟩ hl _ hheap X'
  exact ⟨t, step t a1, b1⟩

theorem r_newM (O : OkC p l s m args meth c G cc nL own) {idx : Nat} (wl : Cond.classLink own idx RX2 ∈ gtbl) {i : Int32} {len : Nat} (h0 : ¬ i < 0) (hlen : i.toNatClampNeg = len) (hb : len * 4 ≤ 536870912) (hc : k + 1 ≤ R.cells) (hs : n + len ≤ R.slots) (hd : decode cc pc = .ok (.anewarray idx, 3)) (kk : AW p l e R s m args below meth c G nL Q (nw h 13 len) (k + 1) (n + len) (pc + 3) lv (.ref (aN h) :: st)) : AW p l e R s m args below meth c G nL Q h k n pc lv (.int i :: st) := by
  subst hlen
  intro H locs ls hR hS hl
  refine W.anew O.1 O.2.1 O.2.2.2.1 (O.2.2.2.2.1 _ wl) (va_AO.use O.2.2.2.2.2.1.2.2.2.1) rfl hd rfl h0 hb hc hs fun cA kA comp f1 f2 f3 f4 => ?_
  obtain ⟨kA', comp', -, -, -, g4⟩ := (O.2.2.2.2.2.1.2.1.2 3 _ rfl).2
  have hcA : cA = (gC G).2.2.2 := Option.some.inj (f1.symm.trans g4)
  subst hcA
  generalize hH1 : H.push ({ cls := (gC G).2.2.2, slots := Array.replicate i.toNatClampNeg .null, vm := .none } : Cell) = H1
  have z1 : H1.size = H.size + 1 := by rw [← hH1, Array.size_push]
  have e1 : H1[H.size]? = some (arrV (gC G).2.2.2 i.toNatClampNeg (fun _ => .null)) := by rw [← hH1, Array.getElem?_push_size, ← arrV_new]
  have o1 : ∀ q : Nat, q < H.size → H1[q]? = H[q]? := fun q hq => by rw [← hH1, Array.getElem?_push, if_neg (Nat.ne_of_lt hq)]
  have hR1 : Rep G (nw h 13 i.toNatClampNeg) H1 := by
    refine hR.push z1 o1 ?_
    rw [cE_13 nw_K, ← hR.1]
    show H1[H.size]? = some (vp_cell _ _)
    rw [e1, vp_cell_q]
    have e : aN h = h.1 := rfl
    simp [aE, aP, nw, upR, va_up, e, va_rf]
  have h2 := kk H1 locs ls hR1 (hS.push z1 o1) hl
  have e3 : cv G (.ref (aN h)) = .ref H.size := by rw [hR.1]; rfl
  rw [List.map_cons, e3] at h2
  exact h2
end AWT
theorem cf0 : CF 0 RX0 TX0 8 := ⟨rfl, by decide +kernel, rfl, by decide, tyX0_ok, nmX0, by decide +kernel, by decide +kernel, by decide⟩
theorem cf1 : CF 1 RX1 TX1 12 := ⟨rfl, by decide +kernel, rfl, by decide, tyX1_ok, nmX1, by decide +kernel, by decide +kernel, by decide⟩
theorem cf2 : CF 2 RX2 TX2 2 := ⟨rfl, by decide +kernel, rfl, by decide, tyX2_ok, nmX2, by decide +kernel, by decide +kernel, by decide⟩
theorem cf3 : CF 3 RX3 TX3 3 := ⟨rfl, by decide +kernel, rfl, by decide, tyX3_ok, nmX3, by decide +kernel, by decide +kernel, by decide⟩
theorem cf4 : CF 4 RX4 TX4 8 := ⟨rfl, by decide +kernel, rfl, by decide, tyX4_ok, nmX4, by decide +kernel, by decide +kernel, by decide⟩
theorem cf5 : CF 5 RX5 TX5 14 := ⟨rfl, by decide +kernel, rfl, by decide, tyX5_ok, nmX5, by decide +kernel, by decide +kernel, by decide⟩
theorem cf6 : CF 6 RX6 TX6 2 := ⟨rfl, by decide +kernel, rfl, by decide, tyX6_ok, nmX6, by decide +kernel, by decide +kernel, by decide⟩
theorem cf7 : CF 7 RX7 TX7 8 := ⟨rfl, by decide +kernel, rfl, by decide, tyX7_ok, nmX7, by decide +kernel, by decide +kernel, by decide⟩
theorem cf8 : CF 8 RX8 TX8 13 := ⟨rfl, by decide +kernel, rfl, by decide, tyX8_ok, nmX8, by decide +kernel, by decide +kernel, by decide⟩
theorem cf9 : CF 9 RX9 TX9 42 := ⟨rfl, by decide +kernel, rfl, by decide, tyX9_ok, nmX9, by decide +kernel, by decide +kernel, by decide +kernel⟩
theorem waI : Cond.arrayClass .int ∈ gtbl := by decide +kernel
theorem waJ : Cond.arrayClass .long ∈ gtbl := by decide +kernel
theorem waZ : Cond.arrayClass .boolean ∈ gtbl := by decide +kernel
