/-! THE JUDGEMENT 'AW': the machine, at pc, over every heap that holds the abstract heap h, with locals lv and stack st, comes to Q; and a row for each instruction -/
def gtbl : List Cond := lw_tbl.filter goodWord
def isNest : Cond → Bool
  | .fieldLinkNest .. => true
  | .methodLinkNest .. => true
  | .castable .. => true
  | .declares .. => true
  | _ => false
def ntbl : List Cond := lw_tbl.filter isNest
theorem gt_in {w : Cond} (h : w ∈ lw_tbl) (hg : goodWord w = true) : w ∈ gtbl := List.mem_filter.mpr ⟨h, hg⟩
theorem nt_in {w : Cond} (h : w ∈ lw_tbl) (hg : isNest w = true) : w ∈ ntbl := List.mem_filter.mpr ⟨h, hg⟩
def tysG (G : GT) : List (ClassId × FieldType) := [((gC G).1, .int), ((gC G).2.1, .long), ((gC G).2.2.1, .boolean), ((gC G).2.2.2, .object RX2)]
def takesL : List Int32 := [0, 0, 0, 0, 0, 1, 1, 1, 0, 0, 1, 1, 1, 1, 2, 2, 2, 2, 2, 2, 3, 1, 1, 2, 1]
def givesL : List Int32 := [1, 1, 1, 1, 1, 1, 1, 1, 1, 1, 1, 1, 1, 1, 1, 1, 1, 1, 1, 1, 1, 0, 2, 2, 0]
/-- what a walk of ours needs of the state beside its own cells -/
def EnvOk (G : GT) (l : Launch) (U : State) (H : Heap) : Prop :=
  l.stackTraces = false ∧ va_K (gD G) vwCl (tysG G) U ∧ (∀ w ∈ ntbl, va_Nw w U) ∧ va_AO RX2 U ∧
  (va_Z RX8 "TAKES" "[I" (.ref (gS G 1)) (gA G) U H ∧ va_T .int (gS G 1) 25 (fun j => .int (takesL.getD j 0)) (gA G) U H) ∧
  (va_Z RX8 "GIVES" "[I" (.ref (gS G 2)) (gA G) U H ∧ va_T .int (gS G 2) 25 (fun j => .int (givesL.getD j 0)) (gA G) U H) ∧
  vx_Zq Bundle.tN "UNASSIGNED_STACK" Bundle.steD (gA G) U H ∧ vx_Zq Bundle.tN "SUPPRESSED_SENTINEL" Bundle.listD (gA G) U H ∧
  (∀ k t, Cond.stringRef RX8 k t ∈ lw_tbl → ∃ sa : Nat, vk_R RX8 k t sa U) ∧
  (va_Nc "java/lang/IllegalStateException" "java/lang/IndexOutOfBoundsException" U ∧ va_Nc "java/lang/IllegalArgumentException" "java/lang/IndexOutOfBoundsException" U ∧ va_Nc "java/lang/IllegalArgumentException" "java/lang/IllegalStateException" U)
/-- the walked method, and what is given of it -/
def OkC (p : Program) (l : Launch) (s : State) (m : MethodId) (args : Array Value) (meth : Method) (c : Code) (G : GT) (cc : ByteArray) (nL : Nat) (own : String) : Prop :=
  p.tables.exec = Jvm.exec ∧ c.code = cc ∧ c.maxLocals = nL ∧ s.vm.findClass own = some m.cls ∧ (∀ w ∈ gtbl, w.before args s = true) ∧ EnvOk G l s s.heap ∧ meth.locks = false ∧ gZ G ≤ s.heap.size
def AW (p : Program) (l : Launch) (e : Env) (R : Room) (s : State) (m : MethodId) (args : Array Value) (below : List Frame) (meth : Method) (c : Code) (G : GT) (nL : Nat) (Q : State → Prop) (h : AH) (k n pc : Nat) (lv : List (Nat × Value)) (st : List Value) : Prop :=
  ∀ (H : Heap) (locs : List Loc) (ls : Array Slot), Rep G h H → va_S (gA G) s.heap H locs → lv_has ls nL (lv.map (cP G)) → W p l e R s m args below meth c H locs k n Q (F0 m pc ls (st.map (cv G)))
section AWR
variable {p : Program} {l : Launch} {e : Env} {R : Room} {s : State} {m : MethodId} {args : Array Value} {below : List Frame} {meth : Method} {c : Code} {G : GT} {nL : Nat} {Q : State → Prop} {h : AH} {k n pc : Nat} {lv : List (Nat × Value)} {st : List Value} {cc : ByteArray} {own : String}
theorem lvm {lv : List (Nat × Value)} {j i : Nat} {v : Value} (hj : lv[j]? = some (i, v)) : (lv.map (cP G))[j]? = some (i, cv G v) := by rw [List.getElem?_map, hj]; rfl
theorem AW.sub (ks : List Nat) {lv' : List (Nat × Value)} (hl : lv_pick lv ks = lv') (kk : AW p l e R s m args below meth c G nL Q h k n pc lv' st) : AW p l e R s m args below meth c G nL Q h k n pc lv st := fun H locs ls hR hS hv => kk H locs ls hR hS (lv_sub hv ks (by
  rw [← hl]
  unfold lv_pick
  rw [List.map_filterMap]
  congr 1
  funext x
  rw [List.getElem?_map]))
theorem AW.widen {k' n' : Nat} (h1 : k ≤ k') (h2 : n ≤ n') (kk : AW p l e R s m args below meth c G nL Q h k' n' pc lv st) : AW p l e R s m args below meth c G nL Q h k n pc lv st := fun H locs ls hR hS hv => W.widen h1 h2 (kk H locs ls hR hS hv)
-- constants
theorem r_iconst (O : OkC p l s m args meth c G cc nL own) {i : Int} {v : Int32} (hd : decode cc pc = .ok (.iconst i, 1)) (hv : Int32.ofInt i = v) (kk : AW p l e R s m args below meth c G nL Q h k n (pc + 1) lv (.int v :: st)) : AW p l e R s m args below meth c G nL Q h k n pc lv st := fun H locs ls hR hS hl => lv_iconst O.1 O.2.1 hd hv (kk H locs ls hR hS hl)
theorem r_bipush (O : OkC p l s m args meth c G cc nL own) {i : Int} {v : Int32} (hd : decode cc pc = .ok (.bipush i, 2)) (hv : (Int8.ofInt i).toInt32 = v) (kk : AW p l e R s m args below meth c G nL Q h k n (pc + 2) lv (.int v :: st)) : AW p l e R s m args below meth c G nL Q h k n pc lv st := fun H locs ls hR hS hl => lv_bipush O.1 O.2.1 hd hv (kk H locs ls hR hS hl)
theorem r_sipush (O : OkC p l s m args meth c G cc nL own) {i : Int} {v : Int32} (hd : decode cc pc = .ok (.sipush i, 3)) (hv : (Int16.ofInt i).toInt32 = v) (kk : AW p l e R s m args below meth c G nL Q h k n (pc + 3) lv (.int v :: st)) : AW p l e R s m args below meth c G nL Q h k n pc lv st := fun H locs ls hR hS hl => lv_sipush O.1 O.2.1 hd hv (kk H locs ls hR hS hl)
theorem r_lconst (O : OkC p l s m args meth c G cc nL own) {i : Fin 2} {v : Int64} (hd : decode cc pc = .ok (.lconst i, 1)) (hv : Int64.ofNat (i : Nat) = v) (kk : AW p l e R s m args below meth c G nL Q h k n (pc + 1) lv (.long v :: st)) : AW p l e R s m args below meth c G nL Q h k n pc lv st := fun H locs ls hR hS hl => lv_lconst O.1 O.2.1 hd hv (kk H locs ls hR hS hl)
theorem r_ldc (O : OkC p l s m args meth c G cc nL own) {i : Nat} {v : Int32} (hw : Cond.constant own i v ∈ gtbl) (hd : decode cc pc = .ok (.ldc i, 2)) (kk : AW p l e R s m args below meth c G nL Q h k n (pc + 2) lv (.int v :: st)) : AW p l e R s m args below meth c G nL Q h k n pc lv st := fun H locs ls hR hS hl => lv_ldc O.1 O.2.1 O.2.2.2.1 (O.2.2.2.2.1 _ hw) hd (kk H locs ls hR hS hl)
theorem r_ldc2 (O : OkC p l s m args meth c G cc nL own) {i : Nat} {v : Int64} (hw : Cond.constantLong own i v ∈ gtbl) (hd : decode cc pc = .ok (.ldc2_w i, 3)) (kk : AW p l e R s m args below meth c G nL Q h k n (pc + 3) lv (.long v :: st)) : AW p l e R s m args below meth c G nL Q h k n pc lv st := fun H locs ls hR hS hl => lv_ldc2 O.1 O.2.1 O.2.2.2.1 (O.2.2.2.2.1 _ hw) hd (kk H locs ls hR hS hl)
theorem r_null (O : OkC p l s m args meth c G cc nL own) (hd : decode cc pc = .ok (.aconst_null, 1)) (kk : AW p l e R s m args below meth c G nL Q h k n (pc + 1) lv (.null :: st)) : AW p l e R s m args below meth c G nL Q h k n pc lv st := fun H locs ls hR hS hl => lv_null O.1 O.2.1 hd (kk H locs ls hR hS hl)
-- loads
theorem r_iload_n (O : OkC p l s m args meth c G cc nL own) {q : Fin 4} {x : Int32} (j : Nat) (hd : decode cc pc = .ok (.iload_n q, 1)) (hj : lv[j]? = some (q.val, .int x)) (kk : AW p l e R s m args below meth c G nL Q h k n (pc + 1) lv (.int x :: st)) : AW p l e R s m args below meth c G nL Q h k n pc lv st := fun H locs ls hR hS hl => lv_iload_n O.1 O.2.1 hd rfl (lv_at hl j (lvm hj)) (kk H locs ls hR hS hl)
theorem r_iload (O : OkC p l s m args meth c G cc nL own) {i : Nat} {x : Int32} (j : Nat) (hd : decode cc pc = .ok (.iload i, 2)) (hj : lv[j]? = some (i, .int x)) (kk : AW p l e R s m args below meth c G nL Q h k n (pc + 2) lv (.int x :: st)) : AW p l e R s m args below meth c G nL Q h k n pc lv st := fun H locs ls hR hS hl => lv_iload O.1 O.2.1 hd (lv_at hl j (lvm hj)) (kk H locs ls hR hS hl)
theorem r_lload_n (O : OkC p l s m args meth c G cc nL own) {q : Fin 4} {x : Int64} (j : Nat) (hd : decode cc pc = .ok (.lload_n q, 1)) (hj : lv[j]? = some (q.val, .long x)) (kk : AW p l e R s m args below meth c G nL Q h k n (pc + 1) lv (.long x :: st)) : AW p l e R s m args below meth c G nL Q h k n pc lv st := fun H locs ls hR hS hl => lv_lload_n O.1 O.2.1 hd rfl (lv_at hl j (lvm hj)) (kk H locs ls hR hS hl)
theorem r_lload (O : OkC p l s m args meth c G cc nL own) {i : Nat} {x : Int64} (j : Nat) (hd : decode cc pc = .ok (.lload i, 2)) (hj : lv[j]? = some (i, .long x)) (kk : AW p l e R s m args below meth c G nL Q h k n (pc + 2) lv (.long x :: st)) : AW p l e R s m args below meth c G nL Q h k n pc lv st := fun H locs ls hR hS hl => lv_lload O.1 O.2.1 hd (lv_at hl j (lvm hj)) (kk H locs ls hR hS hl)
theorem r_aload_n (O : OkC p l s m args meth c G cc nL own) {q : Fin 4} {v : Value} (j : Nat) (hd : decode cc pc = .ok (.aload_n q, 1)) (hj : lv[j]? = some (q.val, v)) (hv : v.isRef = true ∨ ∃ t, v = .retAddr t) (kk : AW p l e R s m args below meth c G nL Q h k n (pc + 1) lv (v :: st)) : AW p l e R s m args below meth c G nL Q h k n pc lv st := fun H locs ls hR hS hl => by
  have h1 := lv_at hl j (lvm hj)
  have h2 := kk H locs ls hR hS hl
  rcases hv with hv | ⟨t, rfl⟩
  · cases v <;> first | (cases hv; done) | exact lv_aload_n O.1 O.2.1 hd rfl h1 h2 | exact lv_aload_nN O.1 O.2.1 hd rfl h1 h2
  · exact lv_aload_n O.1 O.2.1 hd rfl h1 h2
theorem r_aload (O : OkC p l s m args meth c G cc nL own) {i : Nat} {v : Value} (j : Nat) (hd : decode cc pc = .ok (.aload i, 2)) (hj : lv[j]? = some (i, v)) (hv : v.isRef = true ∨ ∃ t, v = .retAddr t) (kk : AW p l e R s m args below meth c G nL Q h k n (pc + 2) lv (v :: st)) : AW p l e R s m args below meth c G nL Q h k n pc lv st := fun H locs ls hR hS hl => by
  have h1 := lv_at hl j (lvm hj)
  have h2 := kk H locs ls hR hS hl
  rcases hv with hv | ⟨t, rfl⟩
  · cases v <;> first | (cases hv; done) | exact lv_aload O.1 O.2.1 hd h1 h2 | exact lv_aloadN O.1 O.2.1 hd h1 h2
  · exact lv_aload O.1 O.2.1 hd h1 h2
theorem lvf {lv lv' : List (Nat × Value)} {i : Nat} {v : Value} {f : Nat × Value → Bool} (hf : ∀ q, f (cP G q) = f q) (hl : (i, v) :: lv.filter f = lv') : (i, cv G v) :: (lv.map (cP G)).filter f = lv'.map (cP G) := by
  rw [← hl, List.map_cons, List.filter_map]
  congr 2
  apply List.filter_congr
  intro q _
  exact hf q
theorem lvc1 (i : Nat) : ∀ q : Nat × Value, (fun q : Nat × Value => !(q.1 == i) && !(q.1 + 1 == i && q.2.category == 2)) (cP G q) = (fun q : Nat × Value => !(q.1 == i) && !(q.1 + 1 == i && q.2.category == 2)) q := fun q => by simp only [cP, cv_cat]
theorem lvc2 (i : Nat) : ∀ q : Nat × Value, (fun q : Nat × Value => !(q.1 == i) && (!(q.1 == i + 1) && !(q.1 + 1 == i && q.2.category == 2))) (cP G q) = (fun q : Nat × Value => !(q.1 == i) && (!(q.1 == i + 1) && !(q.1 + 1 == i && q.2.category == 2))) q := fun q => by simp only [cP, cv_cat]
-- stores
theorem r_istore_n (O : OkC p l s m args meth c G cc nL own) {q : Fin 4} {x : Int32} (lv' : List (Nat × Value)) (hd : decode cc pc = .ok (.istore_n q, 1)) (hn : q.val < nL) (hl' : (q.val, Value.int x) :: lv.filter (fun z => !(z.1 == q.val) && !(z.1 + 1 == q.val && z.2.category == 2)) = lv') (kk : AW p l e R s m args below meth c G nL Q h k n (pc + 1) lv' st) : AW p l e R s m args below meth c G nL Q h k n pc lv (.int x :: st) := fun H locs ls hR hS hl => lv_istore_n O.1 O.2.1 hd rfl hl hn (lvf (lvc1 _) hl') (fun ls hl => kk H locs ls hR hS hl)
theorem r_istore (O : OkC p l s m args meth c G cc nL own) {i : Nat} {x : Int32} (lv' : List (Nat × Value)) (hd : decode cc pc = .ok (.istore i, 2)) (hn : i < nL) (hl' : (i, Value.int x) :: lv.filter (fun z => !(z.1 == i) && !(z.1 + 1 == i && z.2.category == 2)) = lv') (kk : AW p l e R s m args below meth c G nL Q h k n (pc + 2) lv' st) : AW p l e R s m args below meth c G nL Q h k n pc lv (.int x :: st) := fun H locs ls hR hS hl => lv_istore O.1 O.2.1 hd hl hn (lvf (lvc1 _) hl') (fun ls hl => kk H locs ls hR hS hl)
theorem r_lstore_n (O : OkC p l s m args meth c G cc nL own) {q : Fin 4} {x : Int64} (lv' : List (Nat × Value)) (hd : decode cc pc = .ok (.lstore_n q, 1)) (hn : q.val + 1 < nL) (hl' : (q.val, Value.long x) :: lv.filter (fun z => !(z.1 == q.val) && (!(z.1 == q.val + 1) && !(z.1 + 1 == q.val && z.2.category == 2))) = lv') (kk : AW p l e R s m args below meth c G nL Q h k n (pc + 1) lv' st) : AW p l e R s m args below meth c G nL Q h k n pc lv (.long x :: st) := fun H locs ls hR hS hl => lv_lstore_n O.1 O.2.1 hd rfl hl hn (lvf (lvc2 _) hl') (fun ls hl => kk H locs ls hR hS hl)
theorem r_lstore (O : OkC p l s m args meth c G cc nL own) {i : Nat} {x : Int64} (lv' : List (Nat × Value)) (hd : decode cc pc = .ok (.lstore i, 2)) (hn : i + 1 < nL) (hl' : (i, Value.long x) :: lv.filter (fun z => !(z.1 == i) && (!(z.1 == i + 1) && !(z.1 + 1 == i && z.2.category == 2))) = lv') (kk : AW p l e R s m args below meth c G nL Q h k n (pc + 2) lv' st) : AW p l e R s m args below meth c G nL Q h k n pc lv (.long x :: st) := fun H locs ls hR hS hl => lv_lstore O.1 O.2.1 hd hl hn (lvf (lvc2 _) hl') (fun ls hl => kk H locs ls hR hS hl)
theorem r_astore_n (O : OkC p l s m args meth c G cc nL own) {q : Fin 4} {v : Value} (lv' : List (Nat × Value)) (hd : decode cc pc = .ok (.astore_n q, 1)) (hv : v.isRef = true) (hn : q.val < nL) (hl' : (q.val, v) :: lv.filter (fun z => !(z.1 == q.val) && !(z.1 + 1 == q.val && z.2.category == 2)) = lv') (kk : AW p l e R s m args below meth c G nL Q h k n (pc + 1) lv' st) : AW p l e R s m args below meth c G nL Q h k n pc lv (v :: st) := fun H locs ls hR hS hl => by
  have h2 := lvf (G := G) (lvc1 q.val) hl'
  cases v <;> first | (cases hv; done) | exact lv_astore_n O.1 O.2.1 hd rfl hl hn h2 (fun ls hl => kk H locs ls hR hS hl) | exact lv_astore_nN O.1 O.2.1 hd rfl hl hn h2 (fun ls hl => kk H locs ls hR hS hl)
theorem r_astore (O : OkC p l s m args meth c G cc nL own) {i : Nat} {v : Value} (lv' : List (Nat × Value)) (hd : decode cc pc = .ok (.astore i, 2)) (hv : v.isRef = true) (hn : i < nL) (hl' : (i, v) :: lv.filter (fun z => !(z.1 == i) && !(z.1 + 1 == i && z.2.category == 2)) = lv') (kk : AW p l e R s m args below meth c G nL Q h k n (pc + 2) lv' st) : AW p l e R s m args below meth c G nL Q h k n pc lv (v :: st) := fun H locs ls hR hS hl => by
  have h2 := lvf (G := G) (lvc1 i) hl'
  cases v <;> first | (cases hv; done) | exact lv_astore O.1 O.2.1 hd hl hn h2 (fun ls hl => kk H locs ls hR hS hl) | exact lv_astoreN O.1 O.2.1 hd hl hn h2 (fun ls hl => kk H locs ls hR hS hl)
theorem r_iinc (O : OkC p l s m args meth c G cc nL own) {i : Nat} {d : Int} {x v : Int32} (j : Nat) (lv' : List (Nat × Value)) (hd : decode cc pc = .ok (.iinc i d, 3)) (hj : lv[j]? = some (i, .int x)) (hv : x + Int32.ofInt d = v) (hn : i < nL) (hl' : (i, Value.int v) :: lv.filter (fun z => !(z.1 == i) && !(z.1 + 1 == i && z.2.category == 2)) = lv') (kk : AW p l e R s m args below meth c G nL Q h k n (pc + 3) lv' st) : AW p l e R s m args below meth c G nL Q h k n pc lv st := fun H locs ls hR hS hl => lv_iinc O.1 O.2.1 hd hl (lvm hj) hv hn (lvf (lvc1 _) hl') (fun ls hl => kk H locs ls hR hS hl)
end AWR
