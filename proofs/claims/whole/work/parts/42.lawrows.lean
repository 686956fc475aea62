def R_law : String := "ShadowOrderLaw"
def lw_P (b : Addr) (xs : List Int32) (args : Array Value) (s : State) : Prop := args = #[.ref b] ∧ s.IntsAt b xs ∧ xs.length ≤ 2560 ∧ (Jvm.Cond.and given_1 narrow_1).before args s = true
def lw_Q (_ : Array Value) (s : State) (o : Outcome) (t : State) : Prop := o = .returned (some (.int 1)) ∧ Framed s o t [] 601024 7293034
def lw_Z (below : List Frame) (a : Array Value) (s : State) : State → Prop := fun t => ∃ o, t.status = .running ∧ Ended t below o ∧ lw_Q a s o t
/-- the law's own end, with 1 on the stack, nothing written that was there before, its room as the claim has it -/
theorem lw_ret {p : Program} {l : Launch} {e : Env} {s : State} {m : MethodId} {below : List Frame} {meth : Method} {c : Code} {b : Nat} (hx : p.tables.exec = Jvm.exec) (hb : c.code = code) (hr : meth.sig.returnType = ret) (hlocks : meth.locks = false) {pc : Nat} {H : Heap} {ls : Array Slot} (hdg : decode code pc = .ok (.ireturn, 1)) : W p l e room_1 s m #[Value.ref b] below meth c H [] 601024 7293034 (lw_Z below #[Value.ref b] s) (F0 m pc ls [.int 1]) := by
  intro T hT X
  obtain ⟨fs, hret, hrun, hended, hW, hframe⟩ := X.leave (v := some (.int 1)) (hlocks := hlocks) (fun h => by rw [hr] at h; cases h)
  have hmeth' : T.vm.method? m = some meth := X.method'
  refine ⟨T.setFrames fs, ?_, .returned (some (.int 1)), hrun, hended, rfl, ⟨_, rfl⟩, hW, hframe⟩
  jvm_step X.here [X.here.top, hx, hb, hdg, hmeth', hr, ret, narrow_b1]
  (try refine ⟨rfl, ?_⟩); (try refine ⟨rfl, ?_⟩)
  first | (intro acts; rw [hret _ acts rfl rfl rfl]) | rw [hret _ _ rfl rfl rfl]
  exact Steps.refl _
/-- what holds at the law's entry: the machine, the code, the tables' words (any of lw_tbl by 'hts w (by decide +kernel)'), the script of L ints xs at the cell b, what the Statement gives of the start (any of its parts by flat_of_before) -/
def lw_At (p : Program) (s : State) (m : MethodId) (meth : Method) (c : Code) (b L : Nat) (xs : Nat → Int32) : Prop :=
  p.tables.exec = Jvm.exec ∧ c.code = code ∧ meth.sig.returnType = ret ∧ c.maxLocals = 8 ∧ s.vm.findClass R_law = some m.cls ∧ (∀ w ∈ lw_tbl, w.before #[Value.ref b] s = true) ∧ va_X b L xs s s.heap ∧ b < s.heap.size ∧ meth.locks = false ∧ (Jvm.Cond.and given_1 narrow_1).before #[Value.ref b] s = true
/-! the script -/
def scI (L : Nat) (xs : Nat → Int32) (i : Int32) : Option Int32 := if ¬ (i < 0 ∨ L ≤ i.toNatClampNeg) then some (xs i.toNatClampNeg) else none
def scX (G : GT) (L : Nat) (xs : Nat → Int32) (s : State) : Prop := va_X (gS G 0) L xs s s.heap ∧ gS G 0 < s.heap.size ∧ ¬ gA G (gS G 0)
section AWZ
variable {p : Program} {l : Launch} {e : Env} {R : Room} {s : State} {m : MethodId} {args : Array Value} {below : List Frame} {meth : Method} {c : Code} {G : GT} {nL : Nat} {Q : State → Prop} {h : AH} {k n pc : Nat} {lv : List (Nat × Value)} {st : List Value} {cc : ByteArray} {own : String} {L : Nat} {xs : Nat → Int32}
theorem r_scI (O : OkC p l s m args meth c G cc nL own) (hX : scX G L xs s) {i x : Int32} (hx : scI L xs i = some x) (hd : decode cc pc = .ok (.iaload, 1)) (kk : AW p l e R s m args below meth c G nL Q h k n (pc + 1) lv (.int x :: st)) : AW p l e R s m args below meth c G nL Q h k n pc lv (.int i :: .retAddr 0 :: st) := by
  unfold scI at hx
  obtain ⟨h1, h2⟩ := ifk hx
  cases h2
  exact fun H locs ls hR hS hl => va_sld O.1 O.2.1 hX.1 hX.2.1 hX.2.2 hS h1 hd (kk H locs ls hR hS hl)
theorem r_sclen (O : OkC p l s m args meth c G cc nL own) (hX : scX G L xs s) (hd : decode cc pc = .ok (.arraylength, 1)) (kk : AW p l e R s m args below meth c G nL Q h k n (pc + 1) lv (.int (nI L) :: st)) : AW p l e R s m args below meth c G nL Q h k n pc lv (.retAddr 0 :: st) :=
  fun H locs ls hR hS hl => va_slen O.1 O.2.1 hX.1 hX.2.1 hX.2.2 hS hd (kk H locs ls hR hS hl)
end AWZ
theorem kl_L_8 : Cond.classLink RL 8 RX8 ∈ gtbl := gm_at 91 (by decide +kernel)
theorem kl_L_97 : Cond.classLink RL 97 RX9 ∈ gtbl := gm_at 1150 (by decide +kernel)
theorem ml_L_100 : Cond.methodLink RL 100 yL_thing ∈ gtbl := gm_at 545 (by decide +kernel)
theorem ml_L_105 : Cond.methodLink RL 105 yX9_thing ∈ gtbl := gm_at 1288 (by decide +kernel)
theorem ml_L_106 : Cond.methodLink RL 106 yX9_thrown ∈ gtbl := gm_at 1146 (by decide +kernel)
theorem ml_L_109 : Cond.methodLink RL 109 yL_list ∈ gtbl := gm_at 630 (by decide +kernel)
theorem ml_L_112 : Cond.methodLink RL 112 yX9_list ∈ gtbl := gm_at 1296 (by decide +kernel)
theorem ml_L_113 : Cond.methodLink RL 113 yL_step ∈ gtbl := gm_at 642 (by decide +kernel)
theorem ml_L_115 : Cond.methodLink RL 115 yX9_step ∈ gtbl := gm_at 1300 (by decide +kernel)
theorem ml_L_116 : Cond.methodLink RL 116 yL_maker ∈ gtbl := gm_at 654 (by decide +kernel)
theorem ml_L_119 : Cond.methodLink RL 119 yX9_maker ∈ gtbl := gm_at 1304 (by decide +kernel)
theorem ml_L_120 : Cond.methodLink RL 120 yL_open ∈ gtbl := gm_at 702 (by decide +kernel)
theorem ml_L_123 : Cond.methodLink RL 123 yX9_open ∈ gtbl := gm_at 1317 (by decide +kernel)
theorem ml_L_124 : Cond.methodLink RL 124 yL_place ∈ gtbl := gm_at 887 (by decide +kernel)
theorem ml_L_127 : Cond.methodLink RL 127 yX9_place ∈ gtbl := gm_at 1415 (by decide +kernel)
theorem ml_L_128 : Cond.methodLink RL 128 yL_take ∈ gtbl := gm_at 966 (by decide +kernel)
theorem ml_L_130 : Cond.methodLink RL 130 yX9_take ∈ gtbl := gm_at 1439 (by decide +kernel)
theorem ml_L_131 : Cond.methodLink RL 131 yL_move ∈ gtbl := gm_at 978 (by decide +kernel)
theorem ml_L_133 : Cond.methodLink RL 133 yX9_move ∈ gtbl := gm_at 1447 (by decide +kernel)
theorem ml_L_134 : Cond.methodLink RL 134 yL_swap ∈ gtbl := gm_at 985 (by decide +kernel)
theorem ml_L_136 : Cond.methodLink RL 136 yX9_swap ∈ gtbl := gm_at 1451 (by decide +kernel)
theorem ml_L_137 : Cond.methodLink RL 137 yL_turn ∈ gtbl := gm_at 1000 (by decide +kernel)
theorem ml_L_139 : Cond.methodLink RL 139 yX9_turn ∈ gtbl := gm_at 1455 (by decide +kernel)
theorem ml_L_140 : Cond.methodLink RL 140 yL_tails ∈ gtbl := gm_at 1011 (by decide +kernel)
theorem ml_L_142 : Cond.methodLink RL 142 yX9_tails ∈ gtbl := gm_at 1459 (by decide +kernel)
theorem ml_L_143 : Cond.methodLink RL 143 yL_fact ∈ gtbl := gm_at 1022 (by decide +kernel)
theorem ml_L_145 : Cond.methodLink RL 145 yX9_fact ∈ gtbl := gm_at 1463 (by decide +kernel)
theorem ml_L_146 : Cond.methodLink RL 146 yL_listFact ∈ gtbl := gm_at 1029 (by decide +kernel)
theorem ml_L_148 : Cond.methodLink RL 148 yX9_listFact ∈ gtbl := gm_at 1467 (by decide +kernel)
theorem ml_L_149 : Cond.methodLink RL 149 yL_link ∈ gtbl := gm_at 1036 (by decide +kernel)
theorem ml_L_151 : Cond.methodLink RL 151 yX9_link ∈ gtbl := gm_at 1471 (by decide +kernel)
theorem ml_L_152 : Cond.methodLink RL 152 yL_freeze ∈ gtbl := gm_at 1043 (by decide +kernel)
theorem ml_L_154 : Cond.methodLink RL 154 yX9_freeze ∈ gtbl := gm_at 1475 (by decide +kernel)
theorem ml_L_155 : Cond.methodLink RL 155 yL_begin ∈ gtbl := gm_at 1050 (by decide +kernel)
theorem ml_L_158 : Cond.methodLink RL 158 yX9_begin ∈ gtbl := gm_at 1479 (by decide +kernel)
theorem ml_L_159 : Cond.methodLink RL 159 yL_end ∈ gtbl := gm_at 1058 (by decide +kernel)
theorem ml_L_161 : Cond.methodLink RL 161 yX9_end ∈ gtbl := gm_at 1483 (by decide +kernel)
theorem ml_L_162 : Cond.methodLink RL 162 yL_drop ∈ gtbl := gm_at 1070 (by decide +kernel)
theorem ml_L_164 : Cond.methodLink RL 164 yX9_drop ∈ gtbl := gm_at 1487 (by decide +kernel)
theorem ml_L_165 : Cond.methodLink RL 165 yL_undo ∈ gtbl := gm_at 1077 (by decide +kernel)
theorem ml_L_167 : Cond.methodLink RL 167 yX9_undo ∈ gtbl := gm_at 1491 (by decide +kernel)
theorem ml_L_168 : Cond.methodLink RL 168 yL_shadow ∈ gtbl := gm_at 1095 (by decide +kernel)
theorem ml_L_170 : Cond.methodLink RL 170 yX9_shadow ∈ gtbl := gm_at 1495 (by decide +kernel)
theorem ml_L_171 : Cond.methodLink RL 171 yL_listShadow ∈ gtbl := gm_at 1104 (by decide +kernel)
theorem ml_L_173 : Cond.methodLink RL 173 yX9_listShadow ∈ gtbl := gm_at 1499 (by decide +kernel)
theorem ml_L_174 : Cond.methodLink RL 174 yL_where ∈ gtbl := gm_at 1113 (by decide +kernel)
theorem ml_L_176 : Cond.methodLink RL 176 yX9_where ∈ gtbl := gm_at 1503 (by decide +kernel)
theorem ml_L_177 : Cond.methodLink RL 177 yL_at ∈ gtbl := gm_at 1124 (by decide +kernel)
theorem ml_L_179 : Cond.methodLink RL 179 yX9_at ∈ gtbl := gm_at 1507 (by decide +kernel)
theorem ml_L_180 : Cond.methodLink RL 180 yX8_worked ∈ gtbl := gm_at 401 (by decide +kernel)
theorem ml_L_183 : Cond.methodLink RL 183 yX9_worked ∈ gtbl := gm_at 1511 (by decide +kernel)
theorem ml_L_184 : Cond.methodLink RL 184 yX8_order ∈ gtbl := gm_at 409 (by decide +kernel)
theorem ml_L_187 : Cond.methodLink RL 187 yX9_order ∈ gtbl := gm_at 1515 (by decide +kernel)
theorem ml_L_188 : Cond.methodLink RL 188 yX8_ring ∈ gtbl := gm_at 413 (by decide +kernel)
theorem ml_L_191 : Cond.methodLink RL 191 yX9_ring ∈ gtbl := gm_at 1519 (by decide +kernel)
theorem ml_L_192 : Cond.methodLink RL 192 yL_cause ∈ gtbl := gm_at 1132 (by decide +kernel)
theorem ml_L_194 : Cond.methodLink RL 194 yX9_cause ∈ gtbl := gm_at 1523 (by decide +kernel)
theorem ml_L_195 : Cond.methodLink RL 195 yL_count ∈ gtbl := gm_at 1139 (by decide +kernel)
theorem ml_L_197 : Cond.methodLink RL 197 yX9_count ∈ gtbl := gm_at 1527 (by decide +kernel)
theorem ml_L_198 : Cond.methodLink RL 198 yX8_isSame ∈ gtbl := gm_at 417 (by decide +kernel)
theorem ml_L_202 : Cond.methodLink RL 202 yX9_isSame ∈ gtbl := gm_at 1531 (by decide +kernel)
theorem ml_L_96 : Cond.methodLink RL 96 yX8_init ∈ gtbl := gm_at 93 (by decide +kernel)
theorem ml_L_99 : Cond.methodLink RL 99 yX9_init ∈ gtbl := gm_at 1152 (by decide +kernel)
