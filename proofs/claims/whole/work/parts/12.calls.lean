/-! contracts, calls, ends -/
theorem EnvOk.to {G : GT} {l : Launch} {s U : State} (E : EnvOk G l s s.heap) (hW : s.WarmedH U.vm) (hq : ∀ q : Nat, q < s.heap.size → ¬ gA G q → U.heap[q]? = s.heap[q]?) : EnvOk G l U U.heap := by
  obtain ⟨e0, e1, e2, e3, ⟨e4, e5⟩, ⟨e6, e7⟩, e8, e9, e10, e11, e12, e13⟩ := E
  have hv := hW.alike
  refine ⟨e0, e1.moved hv, fun w hw => ?_, va_AO.moved hv e3, ⟨(e4.moved hv).kept hq, (e5.moved hv).kept hq⟩, ⟨(e6.moved hv).kept hq, (e7.moved hv).kept hq⟩, (vx_Zq.moved hv e8).kept hq, (vx_Zq.moved hv e9).kept hq, fun k t ht => ?_, va_Nc.moved hv e11, va_Nc.moved hv e12, va_Nc.moved hv e13⟩
  · have h1 := e2 w hw
    have h2 := (List.mem_filter.mp hw).2
    cases w <;> first | (cases h2; done) | exact va_Nw.warmF hW h1 | exact va_Nw.warmM hW h1 | exact va_Nw.warmC hW h1 | exact va_Nw.warmD hW h1
  · obtain ⟨sa, h1⟩ := e10 k t ht
    exact ⟨sa, vk_R.warm hW h1⟩
def exN (k : Nat) : String := match k with
  | 0 => "java/lang/IllegalStateException"
  | 1 => "java/lang/IllegalArgumentException"
  | _ => "java/lang/IndexOutOfBoundsException"
def QcN (G : GT) (o : Except Nat (Option Value)) (h' : AH) : Array Value → State → Outcome → State → Prop := fun _ st oc t => (∃ v, o = .ok v ∧ oc = .returned (v.map (cv G)) ∧ Rep G h' t.heap) ∧ va_F (gA G) st t
def XcN (G : GT) (o : Except Nat (Option Value)) (h' : AH) : String → State → State → Prop := fun E st t => (∃ k, o = .error k ∧ E = exN k ∧ Rep G h' t.heap) ∧ va_F (gA G) st t
def PcN (G : GT) (l : Launch) (h : AH) (av : List Value) : Array Value → State → Prop := va_Pc (av.map (cv G)) (fun U => Rep G h U.heap ∧ EnvOk G l U U.heap)
/-- THE CONTRACT of y at the abstract heap h and the arguments av: it ends by o, the heap being h' -/
def Cn (l : Launch) (y : MethodName) (cc : ByteArray) (mL : Nat) (ret : Option FieldType) (F Lo mc ms : Nat) (G : GT) (h : AH) (av : List Value) (o : Except Nat (Option Value)) (h' : AH) : Prop :=
  vx_Met l y (Cond.code y cc mL ret :: gtbl) { frames := F, cells := mc, slots := ms, locals := Lo } (PcN G l h av) (QcN G o h') (XcN G o h') mc ms (gA G)
theorem Cn.of {l : Launch} {y : MethodName} {cc : ByteArray} {mL : Nat} {ret : Option FieldType} {F Lo mc ms : Nat} {G : GT} {h : AH} {av : List Value} {o : Except Nat (Option Value)} {h' : AH} (hy : plainName y.cls = true) (hsl : (lg_sl av).length ≤ mL)
    (body : ∀ p e s m args below meth c, OkC p l s m args meth c G cc mL y.cls → meth.sig.returnType = ret → (∀ x ∈ c.exceptionTable.toList, False) → meth.name = y.name →
      AW p l e { frames := F, cells := mc, slots := ms, locals := Lo } s m args below meth c G mL (vx_MQ below (QcN G o h') (XcN G o h') args s mc ms (gA G)) h 0 0 0 (lv_args 0 av) []) : Cn l y cc mL ret F Lo mc ms G h av o h' := by
  refine vx_ofW (cc := cc) (maxL := mL) (ret := ret) hy rfl ?_
  intro p e s m args below meth c s₁ B hml hx hv
  obtain ⟨rfl, hR, hE⟩ := hv
  have hts := atoms_spec (ws := Cond.code y cc mL ret :: gtbl) B.pre
  have O : OkC p l s m (av.map (cv G)).toArray meth c G cc mL y.cls := ⟨B.exec, B.bytes, hml, findClass_of_methodNamed B.named, fun w hw => hts w (List.mem_cons_of_mem _ hw), hE, B.notSynchronized, by rw [hR.1]; exact Nat.le_add_right _ _⟩
  have hl := lv_entry (av.map (cv G)) (n := mL) (by rw [cv_sl]; exact hsl)
  rw [lg_entry_eq]
  rw [cv_args] at hl
  exact body p e s m _ below meth c O B.returns hx (name_of_methodNamed B.named B.method).1 s.heap [] _ hR va_S.rf hl
theorem Cn.met {l : Launch} {y : MethodName} {cc : ByteArray} {mL : Nat} {ret : Option FieldType} {F Lo mc ms : Nat} {G : GT} {h : AH} {av : List Value} {v : Option Value} {h' : AH} (hC : Cn l y cc mL ret F Lo mc ms G h av (.ok v) h') : Met l y (Cond.code y cc mL ret :: gtbl) { frames := F, cells := mc, slots := ms, locals := Lo } (PcN G l h av) (QcN G (.ok v) h') mc ms (gA G) := by
  intro p e ha hc hk s m args below hf happ hP hK
  obtain ⟨n, o, h1, h2, h3, h4⟩ := hC p e ha hc hk s m args below hf happ hP hK
  refine ⟨n, o, h1, h2, h3, ?_⟩
  rcases h4 with h4 | ⟨q, -, E, ce, L, ⟨⟨k, hk', -⟩, -⟩, -⟩
  · exact h4
  · cases hk'
theorem PcN.blind {G : GT} {l : Launch} {h : AH} {av : List Value} : FrameBlind (PcN G l h av) := by
  intro a U g mk hP
  obtain ⟨h1, h2, h3⟩ := hP
  exact ⟨h1, h2, h3.to (State.WarmedH.refl U) (fun _ _ _ => rfl)⟩
section AWE
variable {p : Program} {l : Launch} {e : Env} {R : Room} {s : State} {m : MethodId} {args : Array Value} {below : List Frame} {meth : Method} {c : Code} {G : GT} {nL : Nat} {Q : State → Prop} {h h' : AH} {k n pc : Nat} {lv : List (Nat × Value)} {st : List Value} {cc : ByteArray} {own : String} {mc ms : Nat} {o : Except Nat (Option Value)}
-- ends
theorem qc_of {H : Heap} {locs : List Loc} {v : Option Value} {a : Array Value} (hR : Rep G h H) (hS : va_S (gA G) s.heap H locs) (ho : o = .ok v) (hh : h = h') (t : State) (ht : t.heap = H) : QcN G o h' a s (.returned (v.map (cv G))) t := ⟨⟨v, ho, rfl, by rw [ht, ← hh]; exact hR⟩, hS.F ht⟩
theorem r_iret (O : OkC p l s m args meth c G cc nL own) (hr : meth.sig.returnType = some .int) {x : Int32} (ho : o = .ok (some (.int x))) (hh : h = h') (h1 : k ≤ mc) (h2 : n ≤ ms) (hd : decode cc pc = .ok (.ireturn, 1)) : AW p l e R s m args below meth c G nL (vx_MQ below (QcN G o h') (XcN G o h') args s mc ms (gA G)) h k n pc lv [.int x] := fun H locs ls hR hS hl =>
  W.widen h1 h2 (vx_ret (W.iret O.1 O.2.1 hr (fun t ht _ => qc_of hR hS ho hh t ht) (fun q hq => hS.2.2 q hq) hd (hlocks := O.2.2.2.2.2.2.1)))
theorem r_zret (O : OkC p l s m args meth c G cc nL own) (hr : meth.sig.returnType = some .boolean) {x : Int32} (hx : x = 0 ∨ x = 1) (ho : o = .ok (some (.int x))) (hh : h = h') (h1 : k ≤ mc) (h2 : n ≤ ms) (hd : decode cc pc = .ok (.ireturn, 1)) : AW p l e R s m args below meth c G nL (vx_MQ below (QcN G o h') (XcN G o h') args s mc ms (gA G)) h k n pc lv [.int x] := fun H locs ls hR hS hl =>
  W.widen h1 h2 (vx_ret (W.zret O.1 O.2.1 hr (by rcases hx with rfl | rfl <;> decide) (fun t ht _ => qc_of hR hS ho hh t ht) (fun q hq => hS.2.2 q hq) hd (hlocks := O.2.2.2.2.2.2.1)))
theorem r_lret (O : OkC p l s m args meth c G cc nL own) (hr : meth.sig.returnType = some .long) {x : Int64} (ho : o = .ok (some (.long x))) (hh : h = h') (h1 : k ≤ mc) (h2 : n ≤ ms) (hd : decode cc pc = .ok (.lreturn, 1)) : AW p l e R s m args below meth c G nL (vx_MQ below (QcN G o h') (XcN G o h') args s mc ms (gA G)) h k n pc lv [.long x] := fun H locs ls hR hS hl =>
  W.widen h1 h2 (vx_ret (W.lret O.1 O.2.1 hr (fun t ht _ => qc_of hR hS ho hh t ht) (fun q hq => hS.2.2 q hq) hd (hlocks := O.2.2.2.2.2.2.1)))
theorem r_vret (O : OkC p l s m args meth c G cc nL own) (hr : meth.sig.returnType = none) (ho : o = .ok none) (hh : h = h') (h1 : k ≤ mc) (h2 : n ≤ ms) (hd : decode cc pc = .ok (.return_, 1)) : AW p l e R s m args below meth c G nL (vx_MQ below (QcN G o h') (XcN G o h') args s mc ms (gA G)) h k n pc lv [] := fun H locs ls hR hS hl =>
  W.widen h1 h2 (vx_ret (W.vret O.1 O.2.1 hr (fun t ht _ => qc_of hR hS ho hh t ht) (fun q hq => hS.2.2 q hq) hd (hlocks := O.2.2.2.2.2.2.1)))
-- calls
theorem run_S {H : Heap} {locs L : List Loc} {st₀ t T' : State} (hS : va_S (gA G) s.heap H locs) (h0 : st₀.heap = H) (e1 : T'.heap = t.heap) (hL : ∀ q ∈ L, gA G q.base) (hF : va_F (gA G) st₀ t) : va_S (gA G) s.heap T'.heap (locs ++ L) := by
  obtain ⟨hz, hk⟩ := hF
  rw [h0] at hz hk
  refine ⟨Nat.le_trans hS.1 (by rw [e1]; exact hz), fun q h1 h2 => by rw [e1, hk q (Nat.lt_of_lt_of_le h1 hS.1) h2]; exact hS.2.1 q h1 h2, fun q hq => ?_⟩
  rcases List.mem_append.mp hq with h | h
  · exact hS.2.2 q h
  · exact hL q h
theorem run_ok {H : Heap} {locs : List Loc} {ls : Array Slot} {mc' ms' : Nat} {stc rest : List Value} {v : Option Value} {h1 : AH} {a : Array Value} (hS : va_S (gA G) s.heap H locs) (hl : lv_has ls nL (lv.map (cP G))) (hr : va_Run p l e R s m args below meth c H locs k n mc' ms' (F0 m pc ls stc) (rest.map (cv G)) (QcN G (.ok v) h1 a) (gA G))
    (kk : AW p l e R s m args below meth c G nL Q h1 (k + mc') (n + ms') (pc + 3) lv (v.toList ++ rest)) : W p l e R s m args below meth c H locs k n Q (F0 m pc ls stc) := by
  intro T hT X
  obtain ⟨v', st₀, t, T', L, h0, X', hL, e1, e2, ⟨⟨v2, hv, hv', hR1⟩, hF⟩, st⟩ := hr T hT X
  cases hv
  cases hv'
  have h2 := kk T'.heap (locs ++ L) ls (by rw [e1]; exact hR1) (run_S hS h0 e1 hL hF) hl
  rw [List.map_append] at h2
  have e9 : List.map (cv G) v.toList = (v.map (cv G)).toList := by cases v <;> rfl
  rw [e9] at h2
  obtain ⟨t2, a1, b1⟩ := h2 T' rfl X'
  exact ⟨t2, st t2 a1, b1⟩
theorem run_thr {H : Heap} {locs : List Loc} {ls : Array Slot} {mc' ms' : Nat} {stc rest : List Value} {kx : Nat} {a : Array Value} (O : OkC p l s m args meth c G cc nL own) (hx : ∀ x ∈ c.exceptionTable.toList, False) (hS : va_S (gA G) s.heap H locs) (hr : vx_Run p l e R s m args below meth c H locs k n mc' ms' (F0 m pc ls stc) rest (QcN G (.error kx) h' a) (XcN G (.error kx) h') (gA G)) (h1 : k + mc' ≤ mc) (h2 : n + ms' ≤ ms) :
    W p l e R s m args below meth c H locs k n (vx_MQ below (QcN G (.error kx) h') (XcN G (.error kx) h') args s mc ms (gA G)) (F0 m pc ls stc) := by
  intro T hT X
  rcases hr T hT X with ⟨v', st₀, t, T', L, h0, X', hL, e1, e2, ⟨⟨v2, hv, -⟩, -⟩, st⟩ | ⟨q, st₀, t, T', L, E, ce, h0, X', hL, e1, e2, ⟨⟨k2, hk2, hE, hR1⟩, hF⟩, hce, hcv, hcl, st⟩
  · cases hv
  · have hS1 := run_S hS h0 e1 hL hF
    have w := vx_out (p := p) (l := l) (e := e) (R := R) (s := s) (m := m) (args := args) (below := below) (meth := meth) (c := c) (H := T'.heap) (locs := locs ++ L) (cells := k + mc') (slots := n + ms') (free := gA G) (ls := ls) (rest := rest) (Qc := QcN G (.error kx) h') (XC := XcN G (.error kx) h') (pc := pc) (E := E) (ce := ce) (q := q) (mc := mc) (ms := ms) (fun x hx' => (hx x hx').elim) O.2.2.2.2.2.2.1 (by rw [e1]; exact hce) hcv hcl
      (fun t2 ht2 _ => ⟨⟨k2, hk2, hE, by rw [ht2, e1]; exact hR1⟩, hS1.F ht2⟩) (fun z hz => hS1.2.2 z hz) h1 h2
    obtain ⟨t2, a1, b1⟩ := w T' rfl X'
    exact ⟨t2, st.trans a1, b1⟩
/-- what is given of a callee once for all -/
def MF (y : MethodName) (cc : ByteArray) (mL : Nat) (ret : Option FieldType) (na : Nat) : Prop := Cond.initialized y.cls ∈ gtbl ∧ Cond.code y cc mL ret ∈ gtbl ∧ (y.cls ≠ "java/lang/invoke/MethodHandle" ∧ y.cls ≠ "java/lang/invoke/VarHandle" ∧ (parseMethodDescriptor y.desc).map (fun d => d.parameters.length) = some na)
theorem gt_good : ∀ w ∈ gtbl, (w.onTables && w.keeps) = true ∨ ∃ ty, w = .arrayClass ty := fun w hw => good_of_word (List.mem_filter.mp hw).2
theorem mk_B {y : MethodName} {cc' : ByteArray} {mL' : Nat} {ret' : Option FieldType} {na F' Lo' mc' ms' idx : Nat} (O : OkC p l s m args meth c G cc nL own) (M : MF y cc' mL' ret' na) (wl : Cond.methodLink own idx y ∈ gtbl) (hR : F' + 1 ≤ R.frames ∧ 8 + (mL' + 11) + Lo' ≤ R.locals) : CallB R s args own idx y cc' mL' ret' (Cond.code y cc' mL' ret' :: gtbl) { frames := F', cells := mc', slots := ms', locals := Lo' } mc' ms' na := by
  have hts := O.2.2.2.2.1
  refine callB_of na hts (fun w hw => ?_) rfl rfl rfl (hts _ M.1) (hts _ wl) M.2.2 hR
  rcases List.mem_cons.mp hw with rfl | hw
  · exact ⟨M.2.1, gt_good _ M.2.1⟩
  · exact ⟨hw, gt_good _ hw⟩
theorem pc_of {H : Heap} {locs : List Loc} {av : List Value} (O : OkC p l s m args meth c G cc nL own) (hR : Rep G h H) (hS : va_S (gA G) s.heap H locs) : ∀ U : State, U.heap = H → s.WarmedH U.vm → PcN G l h av (av.map (cv G)).toArray U := fun U hU hW => ⟨rfl, by rw [hU]; exact hR, O.2.2.2.2.2.1.to hW (fun q h1 h2 => by rw [hU]; exact hS.2.1 q h1 h2)⟩
theorem rec_of {H : Heap} {ci N a : Nat} {C : String} {T : u_T} (O : OkC p l s m args meth c G cc nL own) (F : CF ci C T N) (hR : Rep G h H) (hk : aK h a = ci) : ∃ cellB : Cell, H[gZ G + a]? = some cellB ∧ cellB.vm.isStatics = false ∧ s.vm.findClass C = some cellB.cls := by
  have hat := hR.at (a := a) (by rw [hk]; have := F.2.2.2.1; omega)
  rw [cE_ob hk F.2.2.2.1] at hat
  exact va_recv O.2.2.2.2.2.1.2.1 (one_P hat) F.1 (q0 := 0) rfl
theorem rv_map (av st : List Value) (b : Value) : (av.reverse ++ b :: st).map (cv G) = (av.map (cv G)).reverse ++ cv G b :: st.map (cv G) := by simp
theorem r_callV {y : MethodName} {cc' : ByteArray} {mL' : Nat} {ret' : Option FieldType} {F' Lo' mc' ms' idx ci N a : Nat} {C : String} {T : u_T} {av : List Value} {v : Option Value} {h1 : AH} (O : OkC p l s m args meth c G cc nL own) (hC : Cn l y cc' mL' ret' F' Lo' mc' ms' G h (.ref a :: av) (.ok v) h1) (M : MF y cc' mL' ret' av.length) (F : CF ci C T N) (hk : aK h a = ci) (wl : Cond.methodLink own idx y ∈ gtbl) (wi : Cond.instanceMethod y ∈ gtbl) (wS : Cond.selects C y y ∈ gtbl)
    (hR : F' + 1 ≤ R.frames ∧ 8 + (mL' + 11) + Lo' ≤ R.locals) (hw : (st.map fun v => v.category).sum ≤ 8) (hf : k + mc' ≤ R.cells ∧ n + ms' ≤ R.slots) (hd : decode cc pc = .ok (.invokevirtual idx, 3)) (kk : AW p l e R s m args below meth c G nL Q h1 (k + mc') (n + ms') (pc + 3) lv (v.toList ++ st)) : AW p l e R s m args below meth c G nL Q h k n pc lv (av.reverse ++ .ref a :: st) := by
  intro H locs ls hRp hS hl
  have hts := O.2.2.2.2.1
  refine run_ok hS hl (rest := st) (a := (Value.ref (gZ G + a) :: av.map (cv G)).toArray) (va_runV (As := av.map (cv G)) ⟨O.1, O.2.1, O.2.2.1, O.2.2.2.1, hts⟩ hC.met ⟨mk_B O M wl hR, hts _ wi, hts _ wS⟩ ⟨PcN.blind, rec_of O F hRp hk, fun U hU hW => pc_of (av := .ref a :: av) O hRp hS U hU hW⟩ rfl (by simp) hl.1 (rv_map av st (.ref a)) (lv_room (by rw [cv_sum]; exact hw)) hd hf) kk
theorem r_callS {y : MethodName} {cc' : ByteArray} {mL' : Nat} {ret' : Option FieldType} {F' Lo' mc' ms' idx : Nat} {av : List Value} {v : Option Value} {h1 : AH} (O : OkC p l s m args meth c G cc nL own) (hC : Cn l y cc' mL' ret' F' Lo' mc' ms' G h av (.ok v) h1) (M : MF y cc' mL' ret' av.length) (wl : Cond.methodLink own idx y ∈ gtbl) (wi : Cond.static y ∈ gtbl)
    (hR : F' + 1 ≤ R.frames ∧ 8 + (mL' + 11) + Lo' ≤ R.locals) (hw : (st.map fun v => v.category).sum ≤ 8) (hf : k + mc' ≤ R.cells ∧ n + ms' ≤ R.slots) (hd : decode cc pc = .ok (.invokestatic idx, 3)) (kk : AW p l e R s m args below meth c G nL Q h1 (k + mc') (n + ms') (pc + 3) lv (v.toList ++ st)) : AW p l e R s m args below meth c G nL Q h k n pc lv (av.reverse ++ st) := by
  intro H locs ls hRp hS hl
  have hts := O.2.2.2.2.1
  refine run_ok hS hl (rest := st) (a := (av.map (cv G)).toArray) (va_runS (As := av.map (cv G)) ⟨O.1, O.2.1, O.2.2.1, O.2.2.2.1, hts⟩ hC.met ⟨mk_B O M wl hR, hts _ wi⟩ ⟨PcN.blind, fun U hU hW => pc_of (av := av) O hRp hS U hU hW⟩ rfl (by simp) hl.1 (by simp) (lv_room (by rw [cv_sum]; exact hw)) hd hf) kk
theorem r_callI {y : MethodName} {cc' : ByteArray} {mL' : Nat} {F' Lo' mc' ms' idx a : Nat} {av : List Value} {v : Option Value} {h1 : AH} (O : OkC p l s m args meth c G cc nL own) (hC : Cn l y cc' mL' none F' Lo' mc' ms' G h (.ref a :: av) (.ok v) h1) (M : MF y cc' mL' none av.length) (hy : y.name = "<init>") (wl : Cond.methodLink own idx y ∈ gtbl) (wi : Cond.instanceMethod y ∈ gtbl)
    (hR : F' + 1 ≤ R.frames ∧ 8 + (mL' + 11) + Lo' ≤ R.locals) (hw : (st.map fun v => v.category).sum ≤ 8) (hf : k + mc' ≤ R.cells ∧ n + ms' ≤ R.slots) (hd : decode cc pc = .ok (.invokespecial idx, 3)) (kk : AW p l e R s m args below meth c G nL Q h1 (k + mc') (n + ms') (pc + 3) lv (v.toList ++ st)) : AW p l e R s m args below meth c G nL Q h k n pc lv (av.reverse ++ .ref a :: st) := by
  intro H locs ls hRp hS hl
  have hts := O.2.2.2.2.1
  refine run_ok hS hl (rest := st) (a := (Value.ref (gZ G + a) :: av.map (cv G)).toArray) (va_runI (As := av.map (cv G)) ⟨O.1, O.2.1, O.2.2.1, O.2.2.2.1, hts⟩ hC.met ⟨mk_B O M wl hR, hy, hts _ wi⟩ ⟨PcN.blind, fun U hU hW => pc_of (av := .ref a :: av) O hRp hS U hU hW⟩ rfl (by simp) hl.1 (rv_map av st (.ref a)) (lv_room (by rw [cv_sum]; exact hw)) hd hf) kk
-- calls of a nest mate's private members
theorem mk_N {y : MethodName} {cc' : ByteArray} {mL' : Nat} {ret' : Option FieldType} {na F' Lo' mc' ms' idx : Nat} {host : String} (O : OkC p l s m args meth c G cc nL own) (M : MF y cc' mL' ret' na) (wl : Cond.methodLinkNest own idx y host ∈ ntbl) (hR : F' + 1 ≤ R.frames ∧ 8 + (mL' + 11) + Lo' ≤ R.locals) : va_CN R s args own idx y host cc' mL' ret' (Cond.code y cc' mL' ret' :: gtbl) { frames := F', cells := mc', slots := ms', locals := Lo' } mc' ms' na := by
  have hts := O.2.2.2.2.1
  refine va_cnB na hts (fun w hw => ?_) rfl rfl rfl (O.2.2.2.2.2.1.2.2.1 _ wl) (hts _ M.1) M.2.2 hR
  rcases List.mem_cons.mp hw with rfl | hw
  · exact ⟨M.2.1, gt_good _ M.2.1⟩
  · exact ⟨hw, gt_good _ hw⟩
theorem r_callSN {y : MethodName} {cc' : ByteArray} {mL' : Nat} {ret' : Option FieldType} {F' Lo' mc' ms' idx : Nat} {host : String} {av : List Value} {v : Option Value} {h1 : AH} (O : OkC p l s m args meth c G cc nL own) (hC : Cn l y cc' mL' ret' F' Lo' mc' ms' G h av (.ok v) h1) (M : MF y cc' mL' ret' av.length) (wl : Cond.methodLinkNest own idx y host ∈ ntbl) (wi : Cond.static y ∈ gtbl)
    (hR : F' + 1 ≤ R.frames ∧ 8 + (mL' + 11) + Lo' ≤ R.locals) (hw : (st.map fun v => v.category).sum ≤ 8) (hf : k + mc' ≤ R.cells ∧ n + ms' ≤ R.slots) (hd : decode cc pc = .ok (.invokestatic idx, 3)) (kk : AW p l e R s m args below meth c G nL Q h1 (k + mc') (n + ms') (pc + 3) lv (v.toList ++ st)) : AW p l e R s m args below meth c G nL Q h k n pc lv (av.reverse ++ st) := by
  intro H locs ls hRp hS hl
  have hts := O.2.2.2.2.1
  refine run_ok hS hl (rest := st) (a := (av.map (cv G)).toArray) (va_runSN (As := av.map (cv G)) ⟨O.1, O.2.1, O.2.2.1, O.2.2.2.1, hts⟩ hC.met ⟨mk_N O M wl hR, hts _ wi, trivial⟩ ⟨PcN.blind, fun U hU hW => pc_of (av := av) O hRp hS U hU hW⟩ rfl (by simp) hl.1 (by simp) (lv_room (by rw [cv_sum]; exact hw)) hd hf) kk
theorem r_callIN {y : MethodName} {cc' : ByteArray} {mL' : Nat} {F' Lo' mc' ms' idx a : Nat} {host : String} {av : List Value} {v : Option Value} {h1 : AH} (O : OkC p l s m args meth c G cc nL own) (hC : Cn l y cc' mL' none F' Lo' mc' ms' G h (.ref a :: av) (.ok v) h1) (M : MF y cc' mL' none av.length) (hy : y.name = "<init>") (wl : Cond.methodLinkNest own idx y host ∈ ntbl) (wi : Cond.instanceMethod y ∈ gtbl)
    (hR : F' + 1 ≤ R.frames ∧ 8 + (mL' + 11) + Lo' ≤ R.locals) (hw : (st.map fun v => v.category).sum ≤ 8) (hf : k + mc' ≤ R.cells ∧ n + ms' ≤ R.slots) (hd : decode cc pc = .ok (.invokespecial idx, 3)) (kk : AW p l e R s m args below meth c G nL Q h1 (k + mc') (n + ms') (pc + 3) lv (v.toList ++ st)) : AW p l e R s m args below meth c G nL Q h k n pc lv (av.reverse ++ .ref a :: st) := by
  intro H locs ls hRp hS hl
  have hts := O.2.2.2.2.1
  refine run_ok hS hl (rest := st) (a := (Value.ref (gZ G + a) :: av.map (cv G)).toArray) (va_runIN (As := av.map (cv G)) ⟨O.1, O.2.1, O.2.2.1, O.2.2.2.1, hts⟩ hC.met ⟨mk_N O M wl hR, hy, hts _ wi⟩ ⟨PcN.blind, fun U hU hW => pc_of (av := .ref a :: av) O hRp hS U hU hW⟩ rfl (by simp) hl.1 (rv_map av st (.ref a)) (lv_room (by rw [cv_sum]; exact hw)) hd hf) kk
-- calls that throw, and are not caught here
theorem r_thrV {y : MethodName} {cc' : ByteArray} {mL' : Nat} {ret' : Option FieldType} {F' Lo' mc' ms' idx ci N a kx : Nat} {C : String} {T : u_T} {av : List Value} (O : OkC p l s m args meth c G cc nL own) (hx : ∀ x ∈ c.exceptionTable.toList, False) (hC : Cn l y cc' mL' ret' F' Lo' mc' ms' G h (.ref a :: av) (.error kx) h') (M : MF y cc' mL' ret' av.length) (F : CF ci C T N) (hk : aK h a = ci) (wl : Cond.methodLink own idx y ∈ gtbl) (wi : Cond.instanceMethod y ∈ gtbl) (wS : Cond.selects C y y ∈ gtbl)
    (hR : F' + 1 ≤ R.frames ∧ 8 + (mL' + 11) + Lo' ≤ R.locals) (hw : (st.map fun v => v.category).sum ≤ 8) (hf : k + mc' ≤ R.cells ∧ n + ms' ≤ R.slots) (h1 : k + mc' ≤ mc) (h2 : n + ms' ≤ ms) (hd : decode cc pc = .ok (.invokevirtual idx, 3)) : AW p l e R s m args below meth c G nL (vx_MQ below (QcN G (.error kx) h') (XcN G (.error kx) h') args s mc ms (gA G)) h k n pc lv (av.reverse ++ .ref a :: st) := by
  intro H locs ls hRp hS hl
  have hts := O.2.2.2.2.1
  exact run_thr O hx hS (rest := st.map (cv G)) (a := (Value.ref (gZ G + a) :: av.map (cv G)).toArray) (vx_runV (As := av.map (cv G)) ⟨O.1, O.2.1, O.2.2.1, O.2.2.2.1, hts⟩ hC ⟨mk_B O M wl hR, hts _ wi, hts _ wS⟩ ⟨PcN.blind, rec_of O F hRp hk, fun U hU hW => pc_of (av := .ref a :: av) O hRp hS U hU hW⟩ rfl (by simp) hl.1 (rv_map av st (.ref a)) (lv_room (by rw [cv_sum]; exact hw)) hd hf) h1 h2
theorem r_thrS {y : MethodName} {cc' : ByteArray} {mL' : Nat} {ret' : Option FieldType} {F' Lo' mc' ms' idx kx : Nat} {av : List Value} (O : OkC p l s m args meth c G cc nL own) (hx : ∀ x ∈ c.exceptionTable.toList, False) (hC : Cn l y cc' mL' ret' F' Lo' mc' ms' G h av (.error kx) h') (M : MF y cc' mL' ret' av.length) (wl : Cond.methodLink own idx y ∈ gtbl) (wi : Cond.static y ∈ gtbl)
    (hR : F' + 1 ≤ R.frames ∧ 8 + (mL' + 11) + Lo' ≤ R.locals) (hw : (st.map fun v => v.category).sum ≤ 8) (hf : k + mc' ≤ R.cells ∧ n + ms' ≤ R.slots) (h1 : k + mc' ≤ mc) (h2 : n + ms' ≤ ms) (hd : decode cc pc = .ok (.invokestatic idx, 3)) : AW p l e R s m args below meth c G nL (vx_MQ below (QcN G (.error kx) h') (XcN G (.error kx) h') args s mc ms (gA G)) h k n pc lv (av.reverse ++ st) := by
  intro H locs ls hRp hS hl
  have hts := O.2.2.2.2.1
  exact run_thr O hx hS (rest := st.map (cv G)) (a := (av.map (cv G)).toArray) (vx_runS (As := av.map (cv G)) ⟨O.1, O.2.1, O.2.2.1, O.2.2.2.1, hts⟩ hC ⟨mk_B O M wl hR, hts _ wi⟩ ⟨PcN.blind, fun U hU hW => pc_of (av := av) O hRp hS U hU hW⟩ rfl (by simp) hl.1 (by simp) (lv_room (by rw [cv_sum]; exact hw)) hd hf) h1 h2
end AWE
