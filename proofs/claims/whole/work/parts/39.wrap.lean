/-! contracts of methods with a table of handlers -/
def CnW (l : Launch) (y : MethodName) (cc : ByteArray) (mL : Nat) (ret : Option FieldType) (hh : List (Nat × Nat × Nat × Nat)) (F Lo mc ms : Nat) (G : GT) (h : AH) (av : List Value) (o : Except Nat (Option Value)) (h' : AH) : Prop :=
  vx_Met l y (Cond.codeWith y cc mL ret hh :: gtbl) { frames := F, cells := mc, slots := ms, locals := Lo } (PcN G l h av) (QcN G o h') (XcN G o h') mc ms (gA G)
theorem CnW.of {l : Launch} {y : MethodName} {cc : ByteArray} {mL : Nat} {ret : Option FieldType} {hh : List (Nat × Nat × Nat × Nat)} {F Lo mc ms : Nat} {G : GT} {h : AH} {av : List Value} {o : Except Nat (Option Value)} {h' : AH} (hy : plainName y.cls = true) (hsl : (lg_sl av).length ≤ mL)
    (body : ∀ p e s m args below meth c, OkC p l s m args meth c G cc mL y.cls → meth.sig.returnType = ret → c.exceptionTable.toList = tableOf hh → meth.name = y.name →
      AW p l e { frames := F, cells := mc, slots := ms, locals := Lo } s m args below meth c G mL (vx_MQ below (QcN G o h') (XcN G o h') args s mc ms (gA G)) h 0 0 0 (lv_args 0 av) []) : CnW l y cc mL ret hh F Lo mc ms G h av o h' := by
  refine vx_ofWH (cc := cc) (maxL := mL) (ret := ret) (hh := hh) hy rfl ?_
  intro p e s m args below meth c s₁ B hml hv
  obtain ⟨rfl, hR, hE⟩ := hv
  have hts := atoms_spec (ws := Cond.codeWith y cc mL ret hh :: gtbl) B.pre
  have O : OkC p l s m (av.map (cv G)).toArray meth c G cc mL y.cls := ⟨B.exec, B.bytes, hml, findClass_of_methodNamed B.named, fun w hw => hts w (List.mem_cons_of_mem _ hw), hE, B.notSynchronized, by rw [hR.1]; exact Nat.le_add_right _ _⟩
  have hl := lv_entry (av.map (cv G)) (n := mL) (by rw [cv_sl]; exact hsl)
  rw [lg_entry_eq]
  rw [cv_args] at hl
  exact body p e s m _ below meth c O B.returns (vx_table (x := y) B (hts _ List.mem_cons_self)) (name_of_methodNamed B.named B.method).1 s.heap [] _ hR va_S.rf hl
theorem CnW.met {l : Launch} {y : MethodName} {cc : ByteArray} {mL : Nat} {ret : Option FieldType} {hh : List (Nat × Nat × Nat × Nat)} {F Lo mc ms : Nat} {G : GT} {h : AH} {av : List Value} {v : Option Value} {h' : AH} (hC : CnW l y cc mL ret hh F Lo mc ms G h av (.ok v) h') : Met l y (Cond.codeWith y cc mL ret hh :: gtbl) { frames := F, cells := mc, slots := ms, locals := Lo } (PcN G l h av) (QcN G (.ok v) h') mc ms (gA G) := by
  intro p e ha hc hk s m args below hf happ hP hK
  obtain ⟨n, o, h1, h2, h3, h4⟩ := hC p e ha hc hk s m args below hf happ hP hK
  refine ⟨n, o, h1, h2, h3, ?_⟩
  rcases h4 with h4 | ⟨q, -, E, ce, L, ⟨⟨k, hk', -⟩, -⟩, -⟩
  · exact h4
  · cases hk'
def MFW (y : MethodName) (cc : ByteArray) (mL : Nat) (ret : Option FieldType) (hh : List (Nat × Nat × Nat × Nat)) (na : Nat) : Prop := Cond.initialized y.cls ∈ gtbl ∧ Cond.codeWith y cc mL ret hh ∈ gtbl ∧ (y.cls ≠ "java/lang/invoke/MethodHandle" ∧ y.cls ≠ "java/lang/invoke/VarHandle" ∧ (parseMethodDescriptor y.desc).map (fun d => d.parameters.length) = some na)
section AWY
variable {p : Program} {l : Launch} {e : Env} {R : Room} {s : State} {m : MethodId} {args : Array Value} {below : List Frame} {meth : Method} {c : Code} {G : GT} {nL : Nat} {Q : State → Prop} {h h' : AH} {k n pc : Nat} {lv : List (Nat × Value)} {st : List Value} {cc : ByteArray} {own : String}
theorem r_callSW {y : MethodName} {cc' : ByteArray} {mL' : Nat} {ret' : Option FieldType} {hh : List (Nat × Nat × Nat × Nat)} {F' Lo' mc' ms' idx : Nat} {av : List Value} {v : Option Value} {h1 : AH} (O : OkC p l s m args meth c G cc nL own) (hC : CnW l y cc' mL' ret' hh F' Lo' mc' ms' G h av (.ok v) h1) (M : MFW y cc' mL' ret' hh av.length) (wl : Cond.methodLink own idx y ∈ gtbl) (wi : Cond.static y ∈ gtbl)
    (hR : F' + 1 ≤ R.frames ∧ 8 + (mL' + 11) + Lo' ≤ R.locals) (hw : (st.map fun v => v.category).sum ≤ 8) (hf : k + mc' ≤ R.cells ∧ n + ms' ≤ R.slots) (hd : decode cc pc = .ok (.invokestatic idx, 3)) (kk : AW p l e R s m args below meth c G nL Q h1 (k + mc') (n + ms') (pc + 3) lv (v.toList ++ st)) : AW p l e R s m args below meth c G nL Q h k n pc lv (av.reverse ++ st) := by
  intro H locs ls hRp hS hl
  have hts := O.2.2.2.2.1
  refine run_ok hS hl (rest := st) (a := (av.map (cv G)).toArray) (vx_runSW (n := av.length) (hh := hh) (As := av.map (cv G)) ⟨O.1, O.2.1, O.2.2.1, O.2.2.2.1, hts⟩ hC.met ⟨⟨rfl, rfl, hR.1, hR.2, fun w hw => ?_, List.mem_cons_self⟩, hts _ M.2.1, hts _ M.1, ⟨M.2.2.1, M.2.2.2.1⟩, fun sig h => ?_, hts _ wl, hts _ wi⟩ ⟨PcN.blind, fun U hU hW => pc_of (av := av) O hRp hS U hU hW⟩ rfl (by simp) hl.1 (by simp) (lv_room (by rw [cv_sum]; exact hw)) hd hf) kk
  · rcases List.mem_cons.mp hw with rfl | hw
    · exact fun a' U hW => word_at hW (gt_good _ M.2.1) (hts _ M.2.1)
    · exact fun a' U hW => word_at hW (gt_good _ hw) (hts _ hw)
  · have h2 := M.2.2.2.2
    rw [h] at h2
    exact (Option.some.inj h2).symm
theorem nc02 (O : OkC p l s m args meth c G cc nL own) : va_Nc (exN 0) "java/lang/IndexOutOfBoundsException" s := O.2.2.2.2.2.1.2.2.2.2.2.2.2.2.2.1
theorem nc12 (O : OkC p l s m args meth c G cc nL own) : va_Nc (exN 1) "java/lang/IndexOutOfBoundsException" s := O.2.2.2.2.2.1.2.2.2.2.2.2.2.2.2.2.1
theorem nc10 (O : OkC p l s m args meth c G cc nL own) : va_Nc (exN 1) "java/lang/IllegalStateException" s := O.2.2.2.2.2.1.2.2.2.2.2.2.2.2.2.2.2
end AWY
theorem wy0 : Cond.castable (exN 0) (exN 0) ∈ ntbl := by decide +kernel
theorem wy1 : Cond.castable (exN 1) (exN 1) ∈ ntbl := by decide +kernel
theorem wy2 : Cond.castable (exN 2) (exN 2) ∈ ntbl := by decide +kernel
