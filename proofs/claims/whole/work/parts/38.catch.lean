/-! a call whose exception is caught in the caller (the law's own little methods) -/
def ctF (e : Env) (s : State) (f : JFrame) (a : Addr) (h : Handler) (vm' : Vm) : Prop :=
  ∀ (Q : Handler → Pre) (E : CtlPost) (d : Bool) (acts : List Action), wp (findHandler f a) Q E e d acts s ↔ Q h d acts (s.setVm vm')
/-- a row that doesn't take the thrown object -/
def ctNo (pl : Platform) (s₀ : State) (d : ClassId) (pc : Nat) (thrown : ClassId) (y : ExceptionTableEntry) : Prop :=
  covers y pc = false ∨ (y.catchType ≠ 0 ∧ ∃ c, s₀.vm.ClassLinks pl d y.catchType c ∧ s₀.vm.assignable thrown c = false)
theorem ct_asks {e : Env} {s : State} {f : JFrame} {a : Addr} {x : ExceptionTableEntry} {t : List ExceptionTableEntry} {c : ClassId} {cell : Cell} (hx : covers x f.pc = true) (h0 : x.catchType ≠ 0)
    (hl : s.vm.ClassLinks e.platform f.method.cls x.catchType c) (hcell : s.heap[a]? = some cell) (hobj : ∀ k, cell.vm ≠ .statics k)
    (hk : ∃ k, s.vm.classes[cell.cls]? = some k) (hc : ∃ k, s.vm.classes[c]? = some k) {b : Bool} (hfit : s.vm.assignable cell.cls c = b) (Q : Handler → Pre) (E : CtlPost) (d : Bool) (acts : List Action) :
    wp (findHandler.go f a (x :: t)) Q E e d acts s ↔ (if b = true then Q (.found x.handlerPc) d acts (s.setVm (s.vm.noted f.method.cls x.catchType (.cls c))) else wp (findHandler.go f a t) Q E e d acts (s.setVm (s.vm.noted f.method.cls x.catchType (.cls c)))) := by
  simp only [covers] at hx
  obtain ⟨ha, ht⟩ := (resolveClass_links e.toSetting hl).op (op := VmOp.resolveClass f.method.cls x.catchType) rfl
  have hal : s.vm.Alike (s.vm.noted f.method.cls x.catchType (.cls c)) := (Vm.Alike.refl s.vm).noted _ _ _
  obtain ⟨k1, hk1⟩ := hk
  obtain ⟨k2, hk2⟩ := hc
  obtain ⟨k1', hk1', -⟩ := hal.2.2 _ _ hk1
  obtain ⟨k2', hk2', -⟩ := hal.2.2 _ _ hk2
  have hfit' : (s.vm.noted f.method.cls x.catchType (.cls c)).assignable cell.cls c = b := by rw [hal.assignable]; exact hfit
  cases b <;> simp [findHandler.go, hx, h0, ha, ht, hcell, hobj, hk1', hk2', hfit', VmOp.dirties, VmOp.acts]
theorem ct_go {e : Env} {s₀ : State} {f : JFrame} {a : Addr} {cell : Cell} (hobj : ∀ k, cell.vm ≠ .statics k) (hk0 : ∃ k, s₀.vm.classes[cell.cls]? = some k)
    (x : ExceptionTableEntry) (rest : List ExceptionTableEntry) (hx : covers x f.pc = true) (h0 : x.catchType ≠ 0) {cx : ClassId} (hl : s₀.vm.ClassLinks e.platform f.method.cls x.catchType cx) (hfit : s₀.vm.assignable cell.cls cx = true) :
    ∀ (pre : List ExceptionTableEntry) (S : State), s₀.WarmedH S.vm → S.heap[a]? = some cell → (∀ y ∈ pre, ctNo e.platform s₀ f.method.cls f.pc cell.cls y) →
      ∃ vm', s₀.WarmedH vm' ∧ ∀ (Q : Handler → Pre) (E : CtlPost) (d : Bool) (acts : List Action), wp (findHandler.go f a (pre ++ x :: rest)) Q E e d acts S ↔ Q (.found x.handlerPc) d acts (S.setVm vm') := by
  obtain ⟨k0, hk0⟩ := hk0
  intro pre
  induction pre with
  | nil =>
    intro S hW hcell _
    obtain ⟨k0', hk0', -⟩ := hW.alike.2.2 _ _ hk0
    obtain ⟨dk, _, _, kt, hd, _, _, _, _, hkt, _, hopen⟩ := hl.here
    obtain ⟨kt', hkt', -⟩ := hW.alike.2.2 _ _ hkt
    refine ⟨_, hW.noted hd hopen (State.rightAt_cls hl), fun Q E d acts => ?_⟩
    rw [List.nil_append, ct_asks hx h0 (hW.classLinks hl) hcell hobj ⟨k0', hk0'⟩ ⟨kt', hkt'⟩ (b := true) (by rw [hW.alike.assignable]; exact hfit) Q E d acts, if_pos rfl]
  | cons y ys ih =>
    intro S hW hcell hpass
    obtain ⟨k0', hk0', -⟩ := hW.alike.2.2 _ _ hk0
    have hrest : ∀ z ∈ ys, ctNo e.platform s₀ f.method.cls f.pc cell.cls z := fun z hz => hpass z (List.mem_cons_of_mem _ hz)
    by_cases hcov : covers y f.pc = true
    · rcases hpass y List.mem_cons_self with h | ⟨h1, c, hl1, hno⟩
      · rw [h] at hcov; cases hcov
      · obtain ⟨dk, _, _, kt, hd, _, _, _, _, hkt, _, hopen⟩ := hl1.here
        obtain ⟨kt', hkt', -⟩ := hW.alike.2.2 _ _ hkt
        obtain ⟨vm', hW', hq⟩ := ih (S.setVm (S.vm.noted f.method.cls y.catchType (.cls c))) (hW.noted hd hopen (State.rightAt_cls hl1)) hcell hrest
        refine ⟨vm', hW', fun Q E d acts => ?_⟩
        rw [List.cons_append, ct_asks hcov h1 (hW.classLinks hl1) hcell hobj ⟨k0', hk0'⟩ ⟨kt', hkt'⟩ (b := false) (by rw [hW.alike.assignable]; exact hno) Q E d acts, if_neg (by decide)]
        exact hq Q E d acts
    · obtain ⟨vm', hW', hq⟩ := ih S hW hcell hrest
      refine ⟨vm', hW', fun Q E d acts => ?_⟩
      rw [List.cons_append, W.findHandler_go_skip (by simpa using hcov)]
      exact hq Q E d acts
theorem ct_step {e : Env} {s : State} {a : Addr} {f : JFrame} {r : List Frame} {pc : Nat} {vm' : Vm} (hfind : ctF e s f a (.found pc) vm') :
    (stepThrowing e s a (.java f :: r)).Is ((s.setVm vm').setFrames (.java { f with pc := pc, stack := [.ref a] } :: r)) [] := by
  simp only [stepThrowing, searchFrame, vmDo]
  generalize hr : Sem.go _ e false [] s = res
  obtain ⟨as, rfl, ha⟩ := Sem.eq_ok_of hr (a := Handler.found pc) (s' := s.setVm vm') (acts' := []) (by simp [hfind _ _ _ _])
  exact ⟨rfl, ha⟩
theorem ct_sf (u : State) (vm' : Vm) (F K : List Frame) : ((u.setFrames F).setVm vm').setFrames K = (u.setVm vm').setFrames K := by
  have h1 : (u.setFrames F).setVm vm' = (u.setVm vm').setFrames F := rfl
  rw [h1, State.setFrames_setFrames]
theorem ct_steps {tb : Tables} {e : Env} {s target : State} {g : JFrame} {c : Code} {below : List Frame} {a : Addr} (h : At s g.method c below) {pc : Nat} {vm' : Vm}
    (hfind : ctF e ((s.setTop g).pushFrame (.throwing a)) g a (.found pc) vm') (hrest : Steps tb e below ((s.setVm vm').setTop { g with pc := pc, stack := [.ref a] }) target) :
    Steps tb e below ((s.setTop g).pushFrame (.throwing a)) target := by
  obtain ⟨hgo, hw⟩ := h.throwing a
  refine Steps.head hgo hw ?_
  rw [stepThread_throwing (frames_entered h.top _), (ct_step (s := (s.setTop g).pushFrame (.throwing a)) hfind).1]
  obtain ⟨g₀, hg⟩ := Option.isSome_iff_exists.mp h.top
  obtain ⟨r, hr⟩ := State.topJava?_eq_some.mp hg
  have hr' : (s.setVm vm').frames = .java g₀ :: r := hr
  rw [State.setTop_of_frames _ hr'] at hrest
  rw [hr, List.tail_cons, State.pushFrame, ct_sf, State.setTop_of_frames _ hr, ct_sf]
  exact hrest
section AWX
variable {p : Program} {l : Launch} {e : Env} {R : Room} {s : State} {m : MethodId} {args : Array Value} {below : List Frame} {meth : Method} {c : Code} {G : GT} {nL : Nat} {Q : State → Prop} {h h' : AH} {k n pc : Nat} {lv : List (Nat × Value)} {st : List Value} {cc : ByteArray} {own : String} {H : Heap} {locs : List Loc} {ls : Array Slot} {rest : List Value}
theorem ct_catch {own name : String} {E : String} {ce : Cell} {q : Addr} (hown : s.vm.findClass own = some m.cls) (pre : List ExceptionTableEntry) (x : ExceptionTableEntry) (suf : List ExceptionTableEntry) (hsplit : c.exceptionTable.toList = pre ++ x :: suf)
    (hpass : ∀ z ∈ pre, covers z pc = false ∨ (z.catchType ≠ 0 ∧ ∃ nm : String, (Cond.classLink own z.catchType nm).before args s = true ∧ va_Nc E nm s)) (hx : covers x pc = true) (h0 : x.catchType ≠ 0)
    (hlink : (Cond.classLink own x.catchType name).before args s = true) (hcast : (Cond.castable E name).before args s = true) (hcell : H[q]? = some ce) (hv : ce.vm = .none) (hcl : s.vm.findClass E = some ce.cls)
    (kk : W p l e R s m args below meth c H locs k n Q (F0 m x.handlerPc ls [.ref q])) : vx_W p l e R s m args below meth c H locs k n Q (F0 m pc ls rest) q := by
  intro T hT X
  have hpl : e.platform.magicAccessors = ({} : Platform).magicAccessors := by rw [X.admits.platform]
  obtain ⟨c3, c4, hc3, hc4, hasg⟩ := Cond.castable_spec hcast
  cases Option.some.inj (hc3.symm.trans hcl)
  obtain ⟨c5, hc5, hcl5⟩ := Cond.classLink_spec hown hlink e.platform hpl
  cases Option.some.inj (hc4.symm.trans hc5)
  have hk0 : ∃ k, s.vm.classes[ce.cls]? = some k := by obtain ⟨k9, h9, -⟩ := Vm.findClass_spec hcl; exact ⟨k9, h9⟩
  obtain ⟨vm', hW', hq⟩ := ct_go (e := e) (s₀ := s) (f := F0 m pc ls rest) (a := q) (cell := ce) (fun k hk => by rw [hv] at hk; cases hk) hk0 x suf hx h0 hcl5 hasg pre ((T.setTop (F0 m pc ls rest)).pushFrame (.throwing q)) X.warmed (by show T.heap[q]? = _; rw [hT]; exact hcell)
    (fun z hz => by
      rcases hpass z hz with h | ⟨hz0, nm, hl1, hn1⟩
      · exact Or.inl h
      · obtain ⟨c6, hc6, hcl6⟩ := Cond.classLink_spec hown hl1 e.platform hpl
        obtain ⟨a8, b8, h1, h2, h3⟩ := hn1
        cases Option.some.inj (h1.symm.trans hcl)
        cases Option.some.inj (h2.symm.trans hc6)
        exact Or.inr ⟨hz0, _, hcl6, h3⟩)
  have hf : ctF e ((T.setTop (F0 m pc ls rest)).pushFrame (.throwing q)) (F0 m pc ls rest) q (.found x.handlerPc) vm' := fun Q E d acts => by
    rw [W.findHandler_eq X.method' X.code, hsplit]
    exact hq Q E d acts
  obtain ⟨t, a1, b1⟩ := kk (T.setVm vm') hT (X.noted hW')
  exact ⟨t, ct_steps (g := F0 m pc ls rest) X.here hf a1, b1⟩
/-- a virtual call that throws kx; the row of the table at place j takes it; its handler begins with a store of the exception -/
theorem r_callC {y : MethodName} {cc' : ByteArray} {mL' : Nat} {ret' : Option FieldType} {F' Lo' mc' ms' idx ci N a kx : Nat} {C : String} {T : u_T} {av : List Value} {hh : List (Nat × Nat × Nat × Nat)} (O : OkC p l s m args meth c G cc nL own) (ht : c.exceptionTable.toList = tableOf hh) (hC : Cn l y cc' mL' ret' F' Lo' mc' ms' G h (.ref a :: av) (.error kx) h') (M : MF y cc' mL' ret' av.length) (F : CF ci C T N) (hk : aK h a = ci) (wl : Cond.methodLink own idx y ∈ gtbl) (wi : Cond.instanceMethod y ∈ gtbl) (wS : Cond.selects C y y ∈ gtbl)
    (hR : F' + 1 ≤ R.frames ∧ 8 + (mL' + 11) + Lo' ≤ R.locals) (hw : (st.map fun v => v.category).sum ≤ 8) (hf : k + mc' ≤ R.cells ∧ n + ms' ≤ R.slots) (hd : decode cc pc = .ok (.invokevirtual idx, 3))
    (pre : List ExceptionTableEntry) (x : ExceptionTableEntry) (suf : List ExceptionTableEntry) (hsplit : tableOf hh = pre ++ x :: suf)
    (hpass : ∀ z ∈ pre, covers z pc = false ∨ (z.catchType ≠ 0 ∧ ∃ nm : String, Cond.classLink own z.catchType nm ∈ gtbl ∧ va_Nc (exN kx) nm s)) (hx : covers x pc = true) (h0 : x.catchType ≠ 0) (wx : Cond.classLink own x.catchType (exN kx) ∈ gtbl) (wy : Cond.castable (exN kx) (exN kx) ∈ ntbl)
    (i : Nat) (len : Nat) (hda : (∃ q : Fin 4, q.val = i ∧ len = 1 ∧ decode cc x.handlerPc = .ok (.astore_n q, 1)) ∨ (len = 2 ∧ decode cc x.handlerPc = .ok (.astore i, 2))) (hi : i < nL) (ks : List Nat) (lv' : List (Nat × Value)) (hlv : lv_pick lv ks = lv') (hks : lv'.filter (fun z => !(z.1 == i) && !(z.1 + 1 == i && z.2.category == 2)) = lv')
    (kk : AW p l e R s m args below meth c G nL Q h' (k + mc') (n + ms') (x.handlerPc + len) lv' []) : AW p l e R s m args below meth c G nL Q h k n pc lv (av.reverse ++ .ref a :: st) := by
  intro H locs ls hRp hS hl
  have hts := O.2.2.2.2.1
  have hr := vx_runV (As := av.map (cv G)) (rest := st.map (cv G)) (g := F0 m pc ls ((av.reverse ++ .ref a :: st).map (cv G))) (locs := locs) (cells := k) (slots := n) (e := e) (below := below) (meth := meth) ⟨O.1, O.2.1, O.2.2.1, O.2.2.2.1, hts⟩ hC ⟨mk_B O M wl hR, hts _ wi, hts _ wS⟩ ⟨PcN.blind, rec_of O F hRp hk, fun U hU hW => pc_of (av := .ref a :: av) O hRp hS U hU hW⟩ rfl (by simp) hl.1 (rv_map av st (.ref a)) (lv_room (by rw [cv_sum]; exact hw)) hd hf
  intro T0 hT X
  rcases hr T0 hT X with ⟨v', st₀, t, T', L, h0', X', hL, e1, e2, ⟨⟨v2, hv, -⟩, -⟩, st2⟩ | ⟨q, st₀, t, T', L, E, ce, h0', X', hL, e1, e2, ⟨⟨k2, hk2, hE, hR1⟩, hF⟩, hce, hcv, hcl, st2⟩
  · cases hv
  · cases hk2
    subst hE
    have hS1 := run_S hS h0' e1 hL hF
    have hl1 : lv_has ls nL (lv'.map (cP G)) := lv_sub hl ks (by
      rw [← hlv]
      unfold lv_pick
      rw [List.map_filterMap]
      congr 1
      funext z
      rw [List.getElem?_map])
    have w := ct_catch (p := p) (l := l) (e := e) (R := R) (s := s) (m := m) (args := args) (below := below) (meth := meth) (c := c) (Q := Q) (H := T'.heap) (locs := locs ++ L) (k := k + mc') (n := n + ms') (ls := ls) (rest := st.map (cv G)) (pc := pc) (own := own) (name := exN kx) (E := exN kx) (ce := ce) (q := q) O.2.2.2.1 pre x suf (ht.trans hsplit)
      (fun z hz => by
        rcases hpass z hz with h | ⟨h1, nm, h2, h3⟩
        · exact Or.inl h
        · exact Or.inr ⟨h1, nm, hts _ h2, h3⟩) hx h0 (hts _ wx) (va_Nw.use rfl (O.2.2.2.2.2.1.2.2.1 _ wy)) (by rw [e1]; exact hce) hcv hcl (by
        have key : ∀ ls' : Array Slot, lv_has ls' nL ((i, Value.ref q) :: (lv'.map (cP G)).filter (fun z => !(z.1 == i) && !(z.1 + 1 == i && z.2.category == 2))) → W p l e R s m args below meth c T'.heap (locs ++ L) (k + mc') (n + ms') Q (F0 m (x.handlerPc + len) ls' []) := fun ls' hl' => by
          refine kk T'.heap (locs ++ L) ls' (by rw [e1]; exact hR1) hS1 ?_
          have e9 : (lv'.map (cP G)).filter (fun z => !(z.1 == i) && !(z.1 + 1 == i && z.2.category == 2)) = lv'.map (cP G) := by
            rw [List.filter_map]
            congr 1
            exact (List.filter_congr (fun z _ => lvc1 (G := G) i z)).trans hks
          rw [e9] at hl'
          exact ⟨hl'.1, hl'.2.1, fun z hz => hl'.2.2 z (List.mem_cons_of_mem _ hz)⟩
        rcases hda with ⟨q4, hq4, hlen, hdd⟩ | ⟨hlen, hdd⟩
        · subst hq4; subst hlen
          exact lv_astore_n O.1 O.2.1 hdd rfl hl1 hi rfl (fun ls' hl' => key ls' hl')
        · subst hlen
          exact lv_astore O.1 O.2.1 hdd hl1 hi rfl (fun ls' hl' => key ls' hl'))
    obtain ⟨t2, a1, b1⟩ := w T' rfl X'
    exact ⟨t2, st2.trans a1, b1⟩
end AWX
