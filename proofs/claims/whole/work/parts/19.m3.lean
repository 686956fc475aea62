def f_X5_gather_71 (l0 : Nat) (l1 : Int32) (l2 : Int32) (l3 : Int32) (l5 : Int32) (l6 : Int32) (n : Nat) (h : AH) (l7 : Int32) : Option AH := match n with
| 0 => none
| n + 1 =>
Option.bind (gP h 5 l0 12) fun x26 =>
Option.bind (gP h 4 x26 6) fun x27 =>
Option.bind (ldI h x27 l6) fun x28 =>
if x28 ≤ l7 then
some h
else
Option.bind (gP h 5 l0 12) fun x29 =>
Option.bind (f_X4_standsAt h x29 l6 l7) fun x30 =>
Option.bind (f_X8_shadowOf h x30 l5) fun x32 =>
Option.bind (f_X5_addRead h l0 l1 x32) fun h35 =>
f_X5_gather_71 l0 l1 l2 l3 l5 l6 n h35 (l7 + 1)
def f_X5_gather_23 (l0 : Nat) (l1 : Int32) (l2 : Int32) (n : Nat) (h : AH) (l3 : Int32) : Option AH := match n with
| 0 => none
| n + 1 =>
if l2 ≤ l3 then
some h
else
Option.bind (gP h 5 l0 0) fun x7 =>
Option.bind (f_X0_codeOf h x7 l1 l3) fun x8 =>
Option.bind (gP h 5 l0 0) fun x10 =>
Option.bind (f_X0_valueOf h x10 l1 l3) fun x11 =>
Option.bind (f_X8_isOverAll h x8) fun x13 =>
Option.bind (if x13 = 0 then
Option.bind (f_X8_isOverOne h x8) fun x16 =>
if x16 = 0 then
some h
else
Option.bind (gP h 5 l0 12) fun x18 =>
Option.bind (f_X4_shadowSeen h x18 l1 x8 x11) fun x19 =>
Option.bind (f_X5_addRead h l0 l1 x19) fun h22 =>
some h22
else
Option.bind (gP h 5 l0 12) fun x23 =>
Option.bind (f_X4_listOf h x23 l1) fun x24 =>
Option.bind (f_X5_gather_71 l0 l1 l2 l3 x11 x24 FU h 0) fun h36 =>
some h36) fun h15 =>
f_X5_gather_23 l0 l1 l2 n h15 (l3 + 1)
def f_X5_gather (h : AH) (a0 : Nat) (a1 : Int32) : Option AH :=
if aK h a0 = 5 then
Option.bind (gP h 5 a0 12) fun x1 =>
Option.bind (f_X4_isFrozenCell h x1 a1) fun x2 =>
if x2 = 0 then
Option.bind (gP h 5 a0 0) fun x4 =>
Option.bind (f_X0_stepsOf h x4 a1) fun x5 =>
Option.bind (f_X5_gather_23 a0 a1 x5 FU h 0) fun h37 =>
some h37
else
some h
else none
set_option maxRecDepth 100000 in
set_option maxHeartbeats 4000000 in
theorem s_X5_gather_71 {p : Program} {l : Launch} {e : Env} {s : State} {m : MethodId} {args : Array Value} {below : List Frame} {meth : Method} {c : Code} {G : GT} {Q : State → Prop} (O : OkC p l s m args meth c G cX5_gather 8 RX5) {l0 : Nat} {l1 : Int32} {l2 : Int32} {l3 : Int32} {l5 : Int32} {l6 : Int32} {wh : AH} (kk : AW p l e { frames := 3, cells := 0, slots := 0, locals := 67 } s m args below meth c G 8 Q wh 0 0 113 [(0, .ref l0), (1, .int l1), (2, .int l2), (3, .int l3)] []) : ∀ (n : Nat), ∀ (h : AH) (l7 : Int32), f_X5_gather_71 l0 l1 l2 l3 l5 l6 n h l7 = some wh → AW p l e { frames := 3, cells := 0, slots := 0, locals := 67 } s m args below meth c G 8 Q h 0 0 71 [(0, .ref l0), (1, .int l1), (2, .int l2), (3, .int l3), (5, .int l5), (6, .int l6), (7, .int l7)] [] := by
  intro n
  induction n with
  | zero =>
    intro h l7 hf
    simp [f_X5_gather_71] at hf
  | succ n ih =>
    intro h l7 hf
    unfold f_X5_gather_71 at hf
    refine r_iload O 6 dX5_gather_71 rfl ?_
    refine r_aload_n O 0 dX5_gather_73 rfl (Or.inl rfl) ?_
    obtain ⟨x26, ex26, hf⟩ := bnd hf
    refine r_gP O cf5 12 (by decide) rfl fl_X5_54 ex26 dX5_gather_74 ?_
    obtain ⟨x27, ex27, hf⟩ := bnd hf
    refine r_gP O cf4 6 (by decide) rfl fl_X5_117 ex27 dX5_gather_77 ?_
    refine r_iload O 5 dX5_gather_80 rfl ?_
    obtain ⟨x28, ex28, hf⟩ := bnd hf
    refine r_ldI O ex28 dX5_gather_82 ?_
    by_cases hc : x28 ≤ l7
    · rw [if_pos hc] at hf
      refine r_icmp_ge_t (tgt := 113) O dX5_gather_83 (by decide) hc ?_
      obtain rfl := oi1 hf
      refine AW.sub [0, 1, 2, 3] rfl ?_
      exact kk
    · rw [if_neg hc] at hf
      refine r_icmp_ge_f (tgt := 113) O dX5_gather_83 (by decide) hc ?_
      refine r_aload_n O 0 dX5_gather_86 rfl (Or.inl rfl) ?_
      refine r_iload_n O 1 dX5_gather_87 rfl ?_
      refine r_aload_n O 0 dX5_gather_88 rfl (Or.inl rfl) ?_
      obtain ⟨x29, ex29, hf⟩ := bnd hf
      refine r_gP O cf5 12 (by decide) rfl fl_X5_54 ex29 dX5_gather_89 ?_
      refine r_iload O 5 dX5_gather_92 rfl ?_
      refine r_iload O 6 dX5_gather_94 rfl ?_
      obtain ⟨x30, ex30, hf⟩ := bnd hf
      refine r_callV (av := [.int l6, .int l7]) (st := [.int l1, .ref l0]) O (c_X4_standsAt ex30) mf_X4_standsAt cf4 (kd_X4_standsAt ex30) ml_X5_120 mi_X4_standsAt mv_X4_standsAt (by decide) (Nat.le_of_ble_eq_true rfl) (by decide) dX5_gather_96 ?_
      refine r_iload O 4 dX5_gather_99 rfl ?_
      obtain ⟨x32, ex32, hf⟩ := bnd hf
      refine r_callSN (av := [.int x30, .int l5]) (st := [.int l1, .ref l0]) O (c_X8_shadowOf ex32) mf_X8_shadowOf mn_X5_123 ms_X8_shadowOf (by decide) (Nat.le_of_ble_eq_true rfl) (by decide) dX5_gather_101 ?_
      obtain ⟨h35, eh35, hf⟩ := bnd hf
      refine r_callV (av := [.int l1, .int x32]) (st := []) O (c_X5_addRead eh35) mf_X5_addRead cf5 (kd_X5_addRead eh35) ml_X5_126 mi_X5_addRead mv_X5_addRead (by decide) (Nat.le_of_ble_eq_true rfl) (by decide) dX5_gather_104 ?_
      refine r_iinc O 6 [(7, .int (l7 + 1)), (0, .ref l0), (1, .int l1), (2, .int l2), (3, .int l3), (5, .int l5), (6, .int l6)] dX5_gather_107 rfl rfl (by decide) rfl ?_
      refine r_goto (tgt := 71) O dX5_gather_110 (by decide) ?_
      refine AW.sub [1, 2, 3, 4, 5, 6, 0] rfl ?_
      exact ih _ _ hf
set_option maxRecDepth 100000 in
set_option maxHeartbeats 4000000 in
theorem s_X5_gather_23 {p : Program} {l : Launch} {e : Env} {s : State} {m : MethodId} {args : Array Value} {below : List Frame} {meth : Method} {c : Code} {G : GT} {Q : State → Prop} (O : OkC p l s m args meth c G cX5_gather 8 RX5) {l0 : Nat} {l1 : Int32} {l2 : Int32} {wh : AH} (kk : AW p l e { frames := 3, cells := 0, slots := 0, locals := 67 } s m args below meth c G 8 Q wh 0 0 147 [] []) : ∀ (n : Nat), ∀ (h : AH) (l3 : Int32), f_X5_gather_23 l0 l1 l2 n h l3 = some wh → AW p l e { frames := 3, cells := 0, slots := 0, locals := 67 } s m args below meth c G 8 Q h 0 0 23 [(0, .ref l0), (1, .int l1), (2, .int l2), (3, .int l3)] [] := by
  intro n
  induction n with
  | zero =>
    intro h l3 hf
    simp [f_X5_gather_23] at hf
  | succ n ih =>
    intro h l3 hf
    unfold f_X5_gather_23 at hf
    refine r_iload_n O 3 dX5_gather_23 rfl ?_
    refine r_iload_n O 2 dX5_gather_24 rfl ?_
    by_cases hc : l2 ≤ l3
    · rw [if_pos hc] at hf
      refine r_icmp_ge_t (tgt := 147) O dX5_gather_25 (by decide) hc ?_
      obtain rfl := oi1 hf
      refine AW.sub [] rfl ?_
      exact kk
    · rw [if_neg hc] at hf
      refine r_icmp_ge_f (tgt := 147) O dX5_gather_25 (by decide) hc ?_
      refine r_aload_n O 0 dX5_gather_28 rfl (Or.inl rfl) ?_
      obtain ⟨x7, ex7, hf⟩ := bnd hf
      refine r_gP O cf5 0 (by decide) rfl fl_X5_50 ex7 dX5_gather_29 ?_
      refine r_iload_n O 1 dX5_gather_32 rfl ?_
      refine r_iload_n O 3 dX5_gather_33 rfl ?_
      obtain ⟨x8, ex8, hf⟩ := bnd hf
      refine r_callV (av := [.int l1, .int l3]) (st := []) O (c_X0_codeOf ex8) mf_X0_codeOf cf0 (kd_X0_codeOf ex8) ml_X5_104 mi_X0_codeOf mv_X0_codeOf (by decide) (Nat.le_of_ble_eq_true rfl) (by decide) dX5_gather_34 ?_
      refine r_istore O [(4, .int x8), (0, .ref l0), (1, .int l1), (2, .int l2), (3, .int l3)] dX5_gather_37 (by decide) rfl ?_
      refine r_aload_n O 1 dX5_gather_39 rfl (Or.inl rfl) ?_
      obtain ⟨x10, ex10, hf⟩ := bnd hf
      refine r_gP O cf5 0 (by decide) rfl fl_X5_50 ex10 dX5_gather_40 ?_
      refine r_iload_n O 2 dX5_gather_43 rfl ?_
      refine r_iload_n O 4 dX5_gather_44 rfl ?_
      obtain ⟨x11, ex11, hf⟩ := bnd hf
      refine r_callV (av := [.int l1, .int l3]) (st := []) O (c_X0_valueOf ex11) mf_X0_valueOf cf0 (kd_X0_valueOf ex11) ml_X5_108 mi_X0_valueOf mv_X0_valueOf (by decide) (Nat.le_of_ble_eq_true rfl) (by decide) dX5_gather_45 ?_
      refine r_istore O [(5, .int x11), (4, .int x8), (0, .ref l0), (1, .int l1), (2, .int l2), (3, .int l3)] dX5_gather_48 (by decide) rfl ?_
      refine r_iload O 1 dX5_gather_50 rfl ?_
      obtain ⟨x13, ex13, hf⟩ := bnd hf
      refine r_callSN (av := [.int x8]) (st := []) O (c_X8_isOverAll ex13) mf_X8_isOverAll mn_X5_111 ms_X8_isOverAll (by decide) (Nat.le_of_ble_eq_true rfl) (by decide) dX5_gather_52 ?_
      obtain ⟨h15, hg, hf⟩ := bnd hf
      have hJ : AW p l e { frames := 3, cells := 0, slots := 0, locals := 67 } s m args below meth c G 8 Q h15 0 0 141 [(0, .ref l0), (1, .int l1), (2, .int l2), (3, .int l3)] [] := by
        refine r_iinc O 3 [(3, .int (l3 + 1)), (0, .ref l0), (1, .int l1), (2, .int l2)] dX5_gather_141 rfl rfl (by decide) rfl ?_
        refine r_goto (tgt := 23) O dX5_gather_144 (by decide) ?_
        refine AW.sub [1, 2, 3, 0] rfl ?_
        exact ih _ _ hf
      clear hf
      have hf := hg
      clear hg
      by_cases hc : x13 = 0
      · rw [if_pos hc] at hf
        refine r_if_eq_t (tgt := 116) O dX5_gather_55 (by decide) hc ?_
        refine r_iload O 1 dX5_gather_116 rfl ?_
        obtain ⟨x16, ex16, hf⟩ := bnd hf
        refine r_callSN (av := [.int x8]) (st := []) O (c_X8_isOverOne ex16) mf_X8_isOverOne mn_X5_130 ms_X8_isOverOne (by decide) (Nat.le_of_ble_eq_true rfl) (by decide) dX5_gather_118 ?_
        by_cases hc : x16 = 0
        · rw [if_pos hc] at hf
          refine r_if_eq_t (tgt := 141) O dX5_gather_121 (by decide) hc ?_
          obtain rfl := oi1 hf
          refine AW.sub [2, 3, 4, 5] rfl ?_
          exact hJ
        · rw [if_neg hc] at hf
          refine r_if_eq_f (tgt := 141) O dX5_gather_121 (by decide) hc ?_
          refine r_aload_n O 2 dX5_gather_124 rfl (Or.inl rfl) ?_
          refine r_iload_n O 3 dX5_gather_125 rfl ?_
          refine r_aload_n O 2 dX5_gather_126 rfl (Or.inl rfl) ?_
          obtain ⟨x18, ex18, hf⟩ := bnd hf
          refine r_gP O cf5 12 (by decide) rfl fl_X5_54 ex18 dX5_gather_127 ?_
          refine r_iload_n O 3 dX5_gather_130 rfl ?_
          refine r_iload O 1 dX5_gather_131 rfl ?_
          refine r_iload O 0 dX5_gather_133 rfl ?_
          obtain ⟨x19, ex19, hf⟩ := bnd hf
          refine r_callV (av := [.int l1, .int x8, .int x11]) (st := [.int l1, .ref l0]) O (c_X4_shadowSeen ex19) mf_X4_shadowSeen cf4 (kd_X4_shadowSeen ex19) ml_X5_133 mi_X4_shadowSeen mv_X4_shadowSeen (by decide) (Nat.le_of_ble_eq_true rfl) (by decide) dX5_gather_135 ?_
          obtain ⟨h22, eh22, hf⟩ := bnd hf
          refine r_callV (av := [.int l1, .int x19]) (st := []) O (c_X5_addRead eh22) mf_X5_addRead cf5 (kd_X5_addRead eh22) ml_X5_126 mi_X5_addRead mv_X5_addRead (by decide) (Nat.le_of_ble_eq_true rfl) (by decide) dX5_gather_138 ?_
          obtain rfl := oi1 hf
          refine AW.sub [2, 3, 4, 5] rfl ?_
          exact hJ
      · rw [if_neg hc] at hf
        refine r_if_eq_f (tgt := 116) O dX5_gather_55 (by decide) hc ?_
        refine r_aload_n O 2 dX5_gather_58 rfl (Or.inl rfl) ?_
        obtain ⟨x23, ex23, hf⟩ := bnd hf
        refine r_gP O cf5 12 (by decide) rfl fl_X5_54 ex23 dX5_gather_59 ?_
        refine r_iload_n O 3 dX5_gather_62 rfl ?_
        obtain ⟨x24, ex24, hf⟩ := bnd hf
        refine r_callV (av := [.int l1]) (st := []) O (c_X4_listOf ex24) mf_X4_listOf cf4 (kd_X4_listOf ex24) ml_X5_114 mi_X4_listOf mv_X4_listOf (by decide) (Nat.le_of_ble_eq_true rfl) (by decide) dX5_gather_63 ?_
        refine r_istore O [(6, .int x24), (5, .int x11), (4, .int x8), (0, .ref l0), (1, .int l1), (2, .int l2), (3, .int l3)] dX5_gather_66 (by decide) rfl ?_
        refine r_iconst O (v := 0) dX5_gather_68 (by decide) ?_
        refine r_istore O [(7, .int 0), (6, .int x24), (5, .int x11), (4, .int x8), (0, .ref l0), (1, .int l1), (2, .int l2), (3, .int l3)] dX5_gather_69 (by decide) rfl ?_
        obtain ⟨h36, hw, hf⟩ := bnd hf
        refine AW.sub [4, 5, 6, 7, 2, 1, 0] rfl ?_
        refine s_X5_gather_71 O ?_ _ _ _ hw
        refine r_goto (tgt := 141) O dX5_gather_113 (by decide) ?_
        obtain rfl := oi1 hf
        refine AW.sub [0, 1, 2, 3] rfl ?_
        exact hJ
theorem kd_X5_gather {h : AH} {a0 : Nat} {a1 : Int32} {r : AH} (hf : f_X5_gather h a0 a1 = some r) : aK h a0 = 5 := by
  unfold f_X5_gather at hf
  exact (ifk hf).1
set_option maxRecDepth 100000 in
set_option maxHeartbeats 4000000 in
theorem c_X5_gather {l : Launch} {G : GT} {h : AH} {a0 : Nat} {a1 : Int32} {r : AH} (hf : f_X5_gather h a0 a1 = some r) : Cn l yX5_gather cX5_gather 8 none 3 67 0 0 G h [.ref a0, .int a1] (.ok none) r := by
  refine Cn.of (by decide) (Nat.le_of_ble_eq_true rfl) ?_
  intro p e s m args below meth c O hr hx hin
  have O : OkC p l s m args meth c G cX5_gather 8 RX5 := O
  unfold f_X5_gather at hf
  obtain ⟨hk0, hf⟩ := ifk hf
  refine AW.sub (lv' := [(0, .ref a0), (1, .int a1)]) [0, 1] rfl ?_
  refine r_aload_n O 0 dX5_gather_0 rfl (Or.inl rfl) ?_
  obtain ⟨x1, ex1, hf⟩ := bnd hf
  refine r_gP O cf5 12 (by decide) rfl fl_X5_54 ex1 dX5_gather_1 ?_
  refine r_iload_n O 1 dX5_gather_4 rfl ?_
  obtain ⟨x2, ex2, hf⟩ := bnd hf
  refine r_callV (av := [.int a1]) (st := []) O (c_X4_isFrozenCell ex2) mf_X4_isFrozenCell cf4 (kd_X4_isFrozenCell ex2) ml_X5_94 mi_X4_isFrozenCell mv_X4_isFrozenCell (by decide) (Nat.le_of_ble_eq_true rfl) (by decide) dX5_gather_5 ?_
  by_cases hc : x2 = 0
  · rw [if_pos hc] at hf
    refine r_if_eq_t (tgt := 12) O dX5_gather_8 (by decide) hc ?_
    refine r_aload_n O 0 dX5_gather_12 rfl (Or.inl rfl) ?_
    obtain ⟨x4, ex4, hf⟩ := bnd hf
    refine r_gP O cf5 0 (by decide) rfl fl_X5_50 ex4 dX5_gather_13 ?_
    refine r_iload_n O 1 dX5_gather_16 rfl ?_
    obtain ⟨x5, ex5, hf⟩ := bnd hf
    refine r_callV (av := [.int a1]) (st := []) O (c_X0_stepsOf ex5) mf_X0_stepsOf cf0 (kd_X0_stepsOf ex5) ml_X5_100 mi_X0_stepsOf mv_X0_stepsOf (by decide) (Nat.le_of_ble_eq_true rfl) (by decide) dX5_gather_17 ?_
    refine r_istore_n O [(2, .int x5), (0, .ref a0), (1, .int a1)] dX5_gather_20 (by decide) rfl ?_
    refine r_iconst O (v := 0) dX5_gather_21 (by decide) ?_
    refine r_istore_n O [(3, .int 0), (2, .int x5), (0, .ref a0), (1, .int a1)] dX5_gather_22 (by decide) rfl ?_
    obtain ⟨h37, hw, hf⟩ := bnd hf
    refine AW.sub [2, 3, 1, 0] rfl ?_
    refine s_X5_gather_23 O ?_ _ _ _ hw
    obtain rfl := Option.some.inj hf
    exact r_vret O hr rfl rfl (by decide) (by decide) dX5_gather_147
  · rw [if_neg hc] at hf
    refine r_if_eq_f (tgt := 12) O dX5_gather_8 (by decide) hc ?_
    obtain rfl := Option.some.inj hf
    exact r_vret O hr rfl rfl (by decide) (by decide) dX5_gather_11
def f_J13_bitCount_95d88 (h : AH) (a0 : Int64) : Option Int32 :=
Option.bind (some (a0 - (((a0.toUInt64 >>> ((1 : Int32).toInt64.toUInt64 &&& Int64.toUInt64 63)).toInt64) &&& 6148914691236517205))) fun x1 =>
Option.bind (some ((x1 &&& 3689348814741910323) + (((x1.toUInt64 >>> ((2 : Int32).toInt64.toUInt64 &&& Int64.toUInt64 63)).toInt64) &&& 3689348814741910323))) fun x2 =>
Option.bind (some ((x2 + ((x2.toUInt64 >>> ((4 : Int32).toInt64.toUInt64 &&& Int64.toUInt64 63)).toInt64)) &&& 1085102592571150095)) fun x3 =>
Option.bind (some (x3 + ((x3.toUInt64 >>> ((8 : Int32).toInt64.toUInt64 &&& Int64.toUInt64 63)).toInt64))) fun x4 =>
Option.bind (some (x4 + ((x4.toUInt64 >>> ((16 : Int32).toInt64.toUInt64 &&& Int64.toUInt64 63)).toInt64))) fun x5 =>
Option.bind (some (x5 + ((x5.toUInt64 >>> ((32 : Int32).toInt64.toUInt64 &&& Int64.toUInt64 63)).toInt64))) fun x6 =>
some (x6.toInt32 &&& 127)
set_option maxRecDepth 100000 in
set_option maxHeartbeats 4000000 in
theorem c_J13_bitCount_95d88 {l : Launch} {G : GT} {h : AH} {a0 : Int64} {r : Int32} (hf : f_J13_bitCount_95d88 h a0 = some r) : Cn l yJ13_bitCount_95d88 cJ13_bitCount_95d88 2 (some .int) 0 0 0 0 G h [.long a0] (.ok (some (.int r))) h := by
  refine Cn.of (by decide) (Nat.le_of_ble_eq_true rfl) ?_
  intro p e s m args below meth c O hr hx hin
  have O : OkC p l s m args meth c G cJ13_bitCount_95d88 2 RJ13 := O
  unfold f_J13_bitCount_95d88 at hf
  refine AW.sub (lv' := [(0, .long a0)]) [0] rfl ?_
  refine r_lload_n O 0 dJ13_bitCount_95d88_0 rfl ?_
  refine r_lload_n O 0 dJ13_bitCount_95d88_1 rfl ?_
  refine r_iconst O (v := 1) dJ13_bitCount_95d88_2 (by decide) ?_
  refine r_lushr O dJ13_bitCount_95d88_3 ?_
  refine r_ldc2 O cl_J13_314 dJ13_bitCount_95d88_4 ?_
  refine r_land O dJ13_bitCount_95d88_7 ?_
  refine r_lsub O dJ13_bitCount_95d88_8 ?_
  obtain ⟨x1, ex1, hf⟩ := bnd hf
  refine r_nmJ (Option.some.inj ex1) ?_
  refine r_lstore_n O [(0, .long x1)] dJ13_bitCount_95d88_9 (by decide) rfl ?_
  refine r_lload_n O 0 dJ13_bitCount_95d88_10 rfl ?_
  refine r_ldc2 O cl_J13_316 dJ13_bitCount_95d88_11 ?_
  refine r_land O dJ13_bitCount_95d88_14 ?_
  refine r_lload_n O 0 dJ13_bitCount_95d88_15 rfl ?_
  refine r_iconst O (v := 2) dJ13_bitCount_95d88_16 (by decide) ?_
  refine r_lushr O dJ13_bitCount_95d88_17 ?_
  refine r_ldc2 O cl_J13_316 dJ13_bitCount_95d88_18 ?_
  refine r_land O dJ13_bitCount_95d88_21 ?_
  refine r_ladd O dJ13_bitCount_95d88_22 ?_
  obtain ⟨x2, ex2, hf⟩ := bnd hf
  refine r_nmJ (Option.some.inj ex2) ?_
  refine r_lstore_n O [(0, .long x2)] dJ13_bitCount_95d88_23 (by decide) rfl ?_
  refine r_lload_n O 0 dJ13_bitCount_95d88_24 rfl ?_
  refine r_lload_n O 0 dJ13_bitCount_95d88_25 rfl ?_
  refine r_iconst O (v := 4) dJ13_bitCount_95d88_26 (by decide) ?_
  refine r_lushr O dJ13_bitCount_95d88_27 ?_
  refine r_ladd O dJ13_bitCount_95d88_28 ?_
  refine r_ldc2 O cl_J13_318 dJ13_bitCount_95d88_29 ?_
  refine r_land O dJ13_bitCount_95d88_32 ?_
  obtain ⟨x3, ex3, hf⟩ := bnd hf
  refine r_nmJ (Option.some.inj ex3) ?_
  refine r_lstore_n O [(0, .long x3)] dJ13_bitCount_95d88_33 (by decide) rfl ?_
  refine r_lload_n O 0 dJ13_bitCount_95d88_34 rfl ?_
  refine r_lload_n O 0 dJ13_bitCount_95d88_35 rfl ?_
  refine r_bipush O (v := 8) dJ13_bitCount_95d88_36 (by decide) ?_
  refine r_lushr O dJ13_bitCount_95d88_38 ?_
  refine r_ladd O dJ13_bitCount_95d88_39 ?_
  obtain ⟨x4, ex4, hf⟩ := bnd hf
  refine r_nmJ (Option.some.inj ex4) ?_
  refine r_lstore_n O [(0, .long x4)] dJ13_bitCount_95d88_40 (by decide) rfl ?_
  refine r_lload_n O 0 dJ13_bitCount_95d88_41 rfl ?_
  refine r_lload_n O 0 dJ13_bitCount_95d88_42 rfl ?_
  refine r_bipush O (v := 16) dJ13_bitCount_95d88_43 (by decide) ?_
  refine r_lushr O dJ13_bitCount_95d88_45 ?_
  refine r_ladd O dJ13_bitCount_95d88_46 ?_
  obtain ⟨x5, ex5, hf⟩ := bnd hf
  refine r_nmJ (Option.some.inj ex5) ?_
  refine r_lstore_n O [(0, .long x5)] dJ13_bitCount_95d88_47 (by decide) rfl ?_
  refine r_lload_n O 0 dJ13_bitCount_95d88_48 rfl ?_
  refine r_lload_n O 0 dJ13_bitCount_95d88_49 rfl ?_
  refine r_bipush O (v := 32) dJ13_bitCount_95d88_50 (by decide) ?_
  refine r_lushr O dJ13_bitCount_95d88_52 ?_
  refine r_ladd O dJ13_bitCount_95d88_53 ?_
  obtain ⟨x6, ex6, hf⟩ := bnd hf
  refine r_nmJ (Option.some.inj ex6) ?_
  refine r_lstore_n O [(0, .long x6)] dJ13_bitCount_95d88_54 (by decide) rfl ?_
  refine r_lload_n O 0 dJ13_bitCount_95d88_55 rfl ?_
  refine r_l2i O dJ13_bitCount_95d88_56 ?_
  refine r_bipush O (v := 127) dJ13_bitCount_95d88_57 (by decide) ?_
  refine r_iand O dJ13_bitCount_95d88_59 ?_
  obtain rfl := Option.some.inj hf
  exact r_iret O hr rfl rfl (by decide) (by decide) dJ13_bitCount_95d88_60
def f_X5_firstMissing_2 (l0 : Nat) (l1 : Int32) (n : Nat) (h : AH) (l2 : Int32) : Option (Int32 ⊕ Unit) := match n with
| 0 => none
| n + 1 =>
if 5 ≤ l2 then
some (.inr ())
else
Option.bind (gP h 5 l0 1) fun x1 =>
Option.bind (ldJ h x1 ((5 * l1) + l2)) fun x2 =>
Option.bind (gP h 5 l0 2) fun x3 =>
Option.bind (ldJ h x3 l2) fun x4 =>
if (lg_cmp (x2 &&& (x4 ^^^ (-1))) 0) = 0 then
f_X5_firstMissing_2 l0 l1 n h (l2 + 1)
else
Option.bind (f_J13_bitCount_95d88 h (((x2 &&& (x4 ^^^ (-1))) &&& (0 - (x2 &&& (x4 ^^^ (-1))))) - 1)) fun x5 =>
some (.inl ((64 * l2) + x5))
def f_X5_firstMissing (h : AH) (a0 : Nat) (a1 : Int32) : Option Int32 :=
if aK h a0 = 5 then
Option.bind (f_X5_firstMissing_2 a0 a1 FU h 0) fun w => match w with
| .inl r9 => some r9
| .inr () =>
some (-1)
else none
set_option maxRecDepth 100000 in
set_option maxHeartbeats 4000000 in
theorem s_X5_firstMissing_2 {p : Program} {l : Launch} {e : Env} {s : State} {m : MethodId} {args : Array Value} {below : List Frame} {meth : Method} {c : Code} {G : GT} {o : Except Nat (Option Value)} {h9 : AH} (O : OkC p l s m args meth c G cX5_firstMissing 5 RX5) (hr : meth.sig.returnType = (some .int)) {l0 : Nat} {l1 : Int32} {h : AH} {w : (Int32 ⊕ Unit)} (he : ∀ r, w = .inl r → o = (.ok (some (.int r))) ∧ h9 = h) (kk : w = .inr () → AW p l e { frames := 1, cells := 0, slots := 0, locals := 21 } s m args below meth c G 5 (vx_MQ below (QcN G o h9) (XcN G o h9) args s 0 0 (gA G)) h 0 0 56 [] []) : ∀ (n : Nat), ∀ (l2 : Int32), f_X5_firstMissing_2 l0 l1 n h l2 = some w → AW p l e { frames := 1, cells := 0, slots := 0, locals := 21 } s m args below meth c G 5 (vx_MQ below (QcN G o h9) (XcN G o h9) args s 0 0 (gA G)) h 0 0 2 [(0, .ref l0), (1, .int l1), (2, .int l2)] [] := by
  intro n
  induction n with
  | zero =>
    intro l2 hf
    simp [f_X5_firstMissing_2] at hf
  | succ n ih =>
    intro l2 hf
    unfold f_X5_firstMissing_2 at hf
    refine r_iload_n O 2 dX5_firstMissing_2 rfl ?_
    refine r_iconst O (v := 5) dX5_firstMissing_3 (by decide) ?_
    by_cases hc : 5 ≤ l2
    · rw [if_pos hc] at hf
      refine r_icmp_ge_t (tgt := 56) O dX5_firstMissing_4 (by decide) hc ?_
      obtain rfl := Option.some.inj hf
      refine AW.sub [] rfl ?_
      exact kk  rfl
    · rw [if_neg hc] at hf
      refine r_icmp_ge_f (tgt := 56) O dX5_firstMissing_4 (by decide) hc ?_
      refine r_aload_n O 0 dX5_firstMissing_7 rfl (Or.inl rfl) ?_
      obtain ⟨x1, ex1, hf⟩ := bnd hf
      refine r_gP O cf5 1 (by decide) rfl fl_X5_9 ex1 dX5_firstMissing_8 ?_
      refine r_iconst O (v := 5) dX5_firstMissing_11 (by decide) ?_
      refine r_iload_n O 1 dX5_firstMissing_12 rfl ?_
      refine r_imul O dX5_firstMissing_13 ?_
      refine r_iload_n O 2 dX5_firstMissing_14 rfl ?_
      refine r_iadd O dX5_firstMissing_15 ?_
      obtain ⟨x2, ex2, hf⟩ := bnd hf
      refine r_ldJ O ex2 dX5_firstMissing_16 ?_
      refine r_aload_n O 0 dX5_firstMissing_17 rfl (Or.inl rfl) ?_
      obtain ⟨x3, ex3, hf⟩ := bnd hf
      refine r_gP O cf5 2 (by decide) rfl fl_X5_15 ex3 dX5_firstMissing_18 ?_
      refine r_iload_n O 2 dX5_firstMissing_21 rfl ?_
      obtain ⟨x4, ex4, hf⟩ := bnd hf
      refine r_ldJ O ex4 dX5_firstMissing_22 ?_
      refine r_ldc2 O cl_X5_149 dX5_firstMissing_23 ?_
      refine r_lxor O dX5_firstMissing_26 ?_
      refine r_land O dX5_firstMissing_27 ?_
      refine r_lstore_n O [(3, .long (x2 &&& (x4 ^^^ (-1)))), (0, .ref l0), (1, .int l1), (2, .int l2)] dX5_firstMissing_28 (by decide) rfl ?_
      refine r_lload_n O 0 dX5_firstMissing_29 rfl ?_
      refine r_lconst O (v := 0) dX5_firstMissing_30 (by decide) ?_
      refine r_lcmp O dX5_firstMissing_31 ?_
      by_cases hc : (lg_cmp (x2 &&& (x4 ^^^ (-1))) 0) = 0
      · rw [if_pos hc] at hf
        refine r_if_eq_t (tgt := 50) O dX5_firstMissing_32 (by decide) hc ?_
        refine r_iinc O 3 [(2, .int (l2 + 1)), (3, .long (x2 &&& (x4 ^^^ (-1)))), (0, .ref l0), (1, .int l1)] dX5_firstMissing_50 rfl rfl (by decide) rfl ?_
        refine r_goto (tgt := 2) O dX5_firstMissing_53 (by decide) ?_
        refine AW.sub [2, 3, 0] rfl ?_
        exact ih _ hf
      · rw [if_neg hc] at hf
        refine r_if_eq_f (tgt := 50) O dX5_firstMissing_32 (by decide) hc ?_
        refine r_bipush O (v := 64) dX5_firstMissing_35 (by decide) ?_
        refine r_iload_n O 3 dX5_firstMissing_37 rfl ?_
        refine r_imul O dX5_firstMissing_38 ?_
        refine r_lload_n O 0 dX5_firstMissing_39 rfl ?_
        refine r_lload_n O 0 dX5_firstMissing_40 rfl ?_
        refine r_lneg O dX5_firstMissing_41 ?_
        refine r_land O dX5_firstMissing_42 ?_
        refine r_lconst O (v := 1) dX5_firstMissing_43 (by decide) ?_
        refine r_lsub O dX5_firstMissing_44 ?_
        obtain ⟨x5, ex5, hf⟩ := bnd hf
        refine r_callS (av := [.long (((x2 &&& (x4 ^^^ (-1))) &&& (0 - (x2 &&& (x4 ^^^ (-1))))) - 1)]) (st := [.int (64 * l2)]) O (c_J13_bitCount_95d88 ex5) mf_J13_bitCount_95d88 ml_X5_151 ms_J13_bitCount_95d88 (by decide) (Nat.le_of_ble_eq_true rfl) (by decide) dX5_firstMissing_45 ?_
        refine r_iadd O dX5_firstMissing_48 ?_
        obtain rfl := Option.some.inj hf
        obtain ⟨ho, hh⟩ := he _ rfl
        exact r_iret O hr ho hh.symm (by decide) (by decide) dX5_firstMissing_49
theorem kd_X5_firstMissing {h : AH} {a0 : Nat} {a1 : Int32} {r : Int32} (hf : f_X5_firstMissing h a0 a1 = some r) : aK h a0 = 5 := by
  unfold f_X5_firstMissing at hf
  exact (ifk hf).1
set_option maxRecDepth 100000 in
set_option maxHeartbeats 4000000 in
theorem c_X5_firstMissing {l : Launch} {G : GT} {h : AH} {a0 : Nat} {a1 : Int32} {r : Int32} (hf : f_X5_firstMissing h a0 a1 = some r) : Cn l yX5_firstMissing cX5_firstMissing 5 (some .int) 1 21 0 0 G h [.ref a0, .int a1] (.ok (some (.int r))) h := by
  refine Cn.of (by decide) (Nat.le_of_ble_eq_true rfl) ?_
  intro p e s m args below meth c O hr hx hin
  have O : OkC p l s m args meth c G cX5_firstMissing 5 RX5 := O
  unfold f_X5_firstMissing at hf
  obtain ⟨hk0, hf⟩ := ifk hf
  refine AW.sub (lv' := [(0, .ref a0), (1, .int a1)]) [0, 1] rfl ?_
  refine r_iconst O (v := 0) dX5_firstMissing_0 (by decide) ?_
  refine r_istore_n O [(2, .int 0), (0, .ref a0), (1, .int a1)] dX5_firstMissing_1 (by decide) rfl ?_
  obtain ⟨w9, hw, hf⟩ := bnd hf
  refine AW.sub [1, 2, 0] rfl ?_
  refine s_X5_firstMissing_2 O hr (w := w9) ?_ ?_ _ _ hw
  · intro r9 hr9
    subst hr9
    dsimp only at hf
    obtain rfl := Option.some.inj hf
    exact ⟨rfl, rfl⟩
  · intro hw9
    subst hw9
    dsimp only at hf
    refine r_iconst O (v := -1) dX5_firstMissing_56 (by decide) ?_
    obtain rfl := Option.some.inj hf
    exact r_iret O hr rfl rfl (by decide) (by decide) dX5_firstMissing_57
def f_X5_await (h : AH) (a0 : Nat) (a1 : Int32) : Option AH :=
if aK h a0 = 5 then
Option.bind (f_X5_firstMissing h a0 a1) fun x1 =>
Option.bind (if x1 = (-1) then
Option.bind (gP h 5 a0 5) fun x10 =>
Option.bind (stI h x10 a1 1) fun h11 =>
Option.bind (gI h11 5 a0 13) fun x12 =>
Option.bind (some (mnI x12 a1)) fun x13 =>
Option.bind (pI h11 5 a0 13 x13) fun h14 =>
some h14
else
Option.bind (gP h 5 a0 7) fun x4 =>
Option.bind (gP h 5 a0 6) fun x5 =>
Option.bind (ldI h x5 x1) fun x6 =>
Option.bind (stI h x4 a1 x6) fun h7 =>
Option.bind (gP h7 5 a0 6) fun x8 =>
Option.bind (stI h7 x8 x1 a1) fun h9 =>
some h9) fun h3 =>
some h3
else none
theorem kd_X5_await {h : AH} {a0 : Nat} {a1 : Int32} {r : AH} (hf : f_X5_await h a0 a1 = some r) : aK h a0 = 5 := by
  unfold f_X5_await at hf
  exact (ifk hf).1
set_option maxRecDepth 100000 in
set_option maxHeartbeats 4000000 in
theorem c_X5_await {l : Launch} {G : GT} {h : AH} {a0 : Nat} {a1 : Int32} {r : AH} (hf : f_X5_await h a0 a1 = some r) : Cn l yX5_await cX5_await 3 none 2 45 0 0 G h [.ref a0, .int a1] (.ok none) r := by
  refine Cn.of (by decide) (Nat.le_of_ble_eq_true rfl) ?_
  intro p e s m args below meth c O hr hx hin
  have O : OkC p l s m args meth c G cX5_await 3 RX5 := O
  unfold f_X5_await at hf
  obtain ⟨hk0, hf⟩ := ifk hf
  refine AW.sub (lv' := [(0, .ref a0), (1, .int a1)]) [0, 1] rfl ?_
  refine r_aload_n O 0 dX5_await_0 rfl (Or.inl rfl) ?_
  refine r_iload_n O 1 dX5_await_1 rfl ?_
  obtain ⟨x1, ex1, hf⟩ := bnd hf
  refine r_callV (av := [.int a1]) (st := []) O (c_X5_firstMissing ex1) mf_X5_firstMissing cf5 (kd_X5_firstMissing ex1) ml_X5_141 mi_X5_firstMissing mv_X5_firstMissing (by decide) (Nat.le_of_ble_eq_true rfl) (by decide) dX5_await_2 ?_
  refine r_istore_n O [(2, .int x1), (0, .ref a0), (1, .int a1)] dX5_await_5 (by decide) rfl ?_
  refine r_iload_n O 0 dX5_await_6 rfl ?_
  refine r_iconst O (v := -1) dX5_await_7 (by decide) ?_
  obtain ⟨h3, hg, hf⟩ := bnd hf
  have hJ : AW p l e { frames := 2, cells := 0, slots := 0, locals := 45 } s m args below meth c G 3 (vx_MQ below (QcN G (.ok none) r) (XcN G (.ok none) r) args s 0 0 (gA G)) h3 0 0 52 [] [] := by
    obtain rfl := Option.some.inj hf
    exact r_vret O hr rfl rfl (by decide) (by decide) dX5_await_52
  clear hf
  have hf := hg
  clear hg
  by_cases hc : x1 = (-1)
  · rw [if_pos hc] at hf
    refine r_icmp_ne_f (tgt := 33) O dX5_await_8 (by decide) hc ?_
    refine r_aload_n O 1 dX5_await_11 rfl (Or.inl rfl) ?_
    obtain ⟨x10, ex10, hf⟩ := bnd hf
    refine r_gP O cf5 5 (by decide) rfl fl_X5_24 ex10 dX5_await_12 ?_
    refine r_iload_n O 2 dX5_await_15 rfl ?_
    refine r_iconst O (v := 1) dX5_await_16 (by decide) ?_
    obtain ⟨h11, eh11, hf⟩ := bnd hf
    refine r_stI O eh11 dX5_await_17 ?_
    refine r_aload_n O 1 dX5_await_18 rfl (Or.inl rfl) ?_
    refine r_aload_n O 1 dX5_await_19 rfl (Or.inl rfl) ?_
    obtain ⟨x12, ex12, hf⟩ := bnd hf
    refine r_gI O cf5 13 (by decide) rfl fl_X5_70 ex12 dX5_await_20 ?_
    refine r_iload_n O 2 dX5_await_23 rfl ?_
    obtain ⟨x13, ex13, hf⟩ := bnd hf
    refine r_mnI O ml_X5_144 (by decide) (Nat.le_of_ble_eq_true rfl) (by decide) (by decide) dX5_await_24 ?_
    refine r_nmI (Option.some.inj ex13) ?_
    obtain ⟨h14, eh14, hf⟩ := bnd hf
    refine r_pI O cf5 13 (by decide) rfl fl_X5_70 rfl eh14 dX5_await_27 ?_
    refine r_goto (tgt := 52) O dX5_await_30 (by decide) ?_
    obtain rfl := oi1 hf
    refine AW.sub [] rfl ?_
    exact hJ
  · rw [if_neg hc] at hf
    refine r_icmp_ne_t (tgt := 33) O dX5_await_8 (by decide) hc ?_
    refine r_aload_n O 1 dX5_await_33 rfl (Or.inl rfl) ?_
    obtain ⟨x4, ex4, hf⟩ := bnd hf
    refine r_gP O cf5 7 (by decide) rfl fl_X5_31 ex4 dX5_await_34 ?_
    refine r_iload_n O 2 dX5_await_37 rfl ?_
    refine r_aload_n O 1 dX5_await_38 rfl (Or.inl rfl) ?_
    obtain ⟨x5, ex5, hf⟩ := bnd hf
    refine r_gP O cf5 6 (by decide) rfl fl_X5_28 ex5 dX5_await_39 ?_
    refine r_iload_n O 0 dX5_await_42 rfl ?_
    obtain ⟨x6, ex6, hf⟩ := bnd hf
    refine r_ldI O ex6 dX5_await_43 ?_
    obtain ⟨h7, eh7, hf⟩ := bnd hf
    refine r_stI O eh7 dX5_await_44 ?_
    refine r_aload_n O 1 dX5_await_45 rfl (Or.inl rfl) ?_
    obtain ⟨x8, ex8, hf⟩ := bnd hf
    refine r_gP O cf5 6 (by decide) rfl fl_X5_28 ex8 dX5_await_46 ?_
    refine r_iload_n O 0 dX5_await_49 rfl ?_
    refine r_iload_n O 2 dX5_await_50 rfl ?_
    obtain ⟨h9, eh9, hf⟩ := bnd hf
    refine r_stI O eh9 dX5_await_51 ?_
    obtain rfl := oi1 hf
    refine AW.sub [] rfl ?_
    exact hJ
def f_X5_takeReady_5 (l0 : Nat) (n : Nat) (h : AH) (l1 : Int32) : Option ((Int32 × AH) ⊕ Unit) := match n with
| 0 => none
| n + 1 =>
if 258 ≤ l1 then
some (.inr ())
else
Option.bind (gP h 5 l0 5) fun x2 =>
Option.bind (ldI h x2 l1) fun x3 =>
if x3 = 0 then
f_X5_takeReady_5 l0 n h (l1 + 1)
else
Option.bind (gP h 5 l0 5) fun x4 =>
Option.bind (stI h x4 l1 0) fun h5 =>
Option.bind (pI h5 5 l0 13 (l1 + 1)) fun h6 =>
some (.inl (l1, h6))
def f_X5_takeReady (h : AH) (a0 : Nat) : Option (Int32 × AH) :=
if aK h a0 = 5 then
Option.bind (gI h 5 a0 13) fun x1 =>
Option.bind (f_X5_takeReady_5 a0 FU h x1) fun w => match w with
| .inl r9 => some r9
| .inr () =>
some ((-1), h)
else none
set_option maxRecDepth 100000 in
set_option maxHeartbeats 4000000 in
theorem s_X5_takeReady_5 {p : Program} {l : Launch} {e : Env} {s : State} {m : MethodId} {args : Array Value} {below : List Frame} {meth : Method} {c : Code} {G : GT} {o : Except Nat (Option Value)} {h9 : AH} (O : OkC p l s m args meth c G cX5_takeReady 2 RX5) (hr : meth.sig.returnType = (some .int)) {l0 : Nat} {h : AH} {w : ((Int32 × AH) ⊕ Unit)} (he : ∀ r, w = .inl r → o = (.ok (some (.int r.1))) ∧ h9 = r.2) (kk : w = .inr () → AW p l e { frames := 0, cells := 0, slots := 0, locals := 0 } s m args below meth c G 2 (vx_MQ below (QcN G o h9) (XcN G o h9) args s 0 0 (gA G)) h 0 0 43 [] []) : ∀ (n : Nat), ∀ (l1 : Int32), f_X5_takeReady_5 l0 n h l1 = some w → AW p l e { frames := 0, cells := 0, slots := 0, locals := 0 } s m args below meth c G 2 (vx_MQ below (QcN G o h9) (XcN G o h9) args s 0 0 (gA G)) h 0 0 5 [(0, .ref l0), (1, .int l1)] [] := by
  intro n
  induction n with
  | zero =>
    intro l1 hf
    simp [f_X5_takeReady_5] at hf
  | succ n ih =>
    intro l1 hf
    unfold f_X5_takeReady_5 at hf
    refine r_iload_n O 1 dX5_takeReady_5 rfl ?_
    refine r_sipush O (v := 258) dX5_takeReady_6 (by decide) ?_
    by_cases hc : 258 ≤ l1
    · rw [if_pos hc] at hf
      refine r_icmp_ge_t (tgt := 43) O dX5_takeReady_9 (by decide) hc ?_
      obtain rfl := Option.some.inj hf
      refine AW.sub [] rfl ?_
      exact kk  rfl
    · rw [if_neg hc] at hf
      refine r_icmp_ge_f (tgt := 43) O dX5_takeReady_9 (by decide) hc ?_
      refine r_aload_n O 0 dX5_takeReady_12 rfl (Or.inl rfl) ?_
      obtain ⟨x2, ex2, hf⟩ := bnd hf
      refine r_gP O cf5 5 (by decide) rfl fl_X5_24 ex2 dX5_takeReady_13 ?_
      refine r_iload_n O 1 dX5_takeReady_16 rfl ?_
      obtain ⟨x3, ex3, hf⟩ := bnd hf
      refine r_ldI O ex3 dX5_takeReady_17 ?_
      by_cases hc : x3 = 0
      · rw [if_pos hc] at hf
        refine r_if_eq_t (tgt := 37) O dX5_takeReady_18 (by decide) hc ?_
        refine r_iinc O 1 [(1, .int (l1 + 1)), (0, .ref l0)] dX5_takeReady_37 rfl rfl (by decide) rfl ?_
        refine r_goto (tgt := 5) O dX5_takeReady_40 (by decide) ?_
        refine AW.sub [1, 0] rfl ?_
        exact ih _ hf
      · rw [if_neg hc] at hf
        refine r_if_eq_f (tgt := 37) O dX5_takeReady_18 (by decide) hc ?_
        refine r_aload_n O 0 dX5_takeReady_21 rfl (Or.inl rfl) ?_
        obtain ⟨x4, ex4, hf⟩ := bnd hf
        refine r_gP O cf5 5 (by decide) rfl fl_X5_24 ex4 dX5_takeReady_22 ?_
        refine r_iload_n O 1 dX5_takeReady_25 rfl ?_
        refine r_iconst O (v := 0) dX5_takeReady_26 (by decide) ?_
        obtain ⟨h5, eh5, hf⟩ := bnd hf
        refine r_stI O eh5 dX5_takeReady_27 ?_
        refine r_aload_n O 0 dX5_takeReady_28 rfl (Or.inl rfl) ?_
        refine r_iload_n O 1 dX5_takeReady_29 rfl ?_
        refine r_iconst O (v := 1) dX5_takeReady_30 (by decide) ?_
        refine r_iadd O dX5_takeReady_31 ?_
        obtain ⟨h6, eh6, hf⟩ := bnd hf
        refine r_pI O cf5 13 (by decide) rfl fl_X5_70 rfl eh6 dX5_takeReady_32 ?_
        refine r_iload_n O 1 dX5_takeReady_35 rfl ?_
        obtain rfl := Option.some.inj hf
        obtain ⟨ho, hh⟩ := he _ rfl
        exact r_iret O hr ho hh.symm (by decide) (by decide) dX5_takeReady_36
theorem kd_X5_takeReady {h : AH} {a0 : Nat} {r : (Int32 × AH)} (hf : f_X5_takeReady h a0 = some r) : aK h a0 = 5 := by
  unfold f_X5_takeReady at hf
  exact (ifk hf).1
set_option maxRecDepth 100000 in
set_option maxHeartbeats 4000000 in
theorem c_X5_takeReady {l : Launch} {G : GT} {h : AH} {a0 : Nat} {r : (Int32 × AH)} (hf : f_X5_takeReady h a0 = some r) : Cn l yX5_takeReady cX5_takeReady 2 (some .int) 0 0 0 0 G h [.ref a0] (.ok (some (.int r.1))) r.2 := by
  refine Cn.of (by decide) (Nat.le_of_ble_eq_true rfl) ?_
  intro p e s m args below meth c O hr hx hin
  have O : OkC p l s m args meth c G cX5_takeReady 2 RX5 := O
  unfold f_X5_takeReady at hf
  obtain ⟨hk0, hf⟩ := ifk hf
  refine AW.sub (lv' := [(0, .ref a0)]) [0] rfl ?_
  refine r_aload_n O 0 dX5_takeReady_0 rfl (Or.inl rfl) ?_
  obtain ⟨x1, ex1, hf⟩ := bnd hf
  refine r_gI O cf5 13 (by decide) rfl fl_X5_70 ex1 dX5_takeReady_1 ?_
  refine r_istore_n O [(1, .int x1), (0, .ref a0)] dX5_takeReady_4 (by decide) rfl ?_
  obtain ⟨w9, hw, hf⟩ := bnd hf
  refine AW.sub [1, 0] rfl ?_
  refine s_X5_takeReady_5 O hr (w := w9) ?_ ?_ _ _ hw
  · intro r9 hr9
    subst hr9
    dsimp only at hf
    obtain rfl := Option.some.inj hf
    exact ⟨rfl, rfl⟩
  · intro hw9
    subst hw9
    dsimp only at hf
    refine r_iconst O (v := -1) dX5_takeReady_43 (by decide) ?_
    obtain rfl := Option.some.inj hf
    exact r_iret O hr rfl rfl (by decide) (by decide) dX5_takeReady_44
def f_X6_add (h : AH) (a0 : Nat) (a1 : Int32) : Option AH :=
if aK h a0 = 6 then
Option.bind (gI h 6 a0 1) fun x1 =>
Option.bind (if 258 ≤ x1 then
some h
else
Option.bind (gP h 6 a0 0) fun x3 =>
Option.bind (gI h 6 a0 1) fun x4 =>
Option.bind (stI h x3 x4 a1) fun h5 =>
Option.bind (gI h5 6 a0 1) fun x6 =>
Option.bind (pI h5 6 a0 1 (x6 + 1)) fun h7 =>
some h7) fun h2 =>
some h2
else none
theorem kd_X6_add {h : AH} {a0 : Nat} {a1 : Int32} {r : AH} (hf : f_X6_add h a0 a1 = some r) : aK h a0 = 6 := by
  unfold f_X6_add at hf
  exact (ifk hf).1
set_option maxRecDepth 100000 in
set_option maxHeartbeats 4000000 in
theorem c_X6_add {l : Launch} {G : GT} {h : AH} {a0 : Nat} {a1 : Int32} {r : AH} (hf : f_X6_add h a0 a1 = some r) : Cn l yX6_add cX6_add 2 none 0 0 0 0 G h [.ref a0, .int a1] (.ok none) r := by
  refine Cn.of (by decide) (Nat.le_of_ble_eq_true rfl) ?_
  intro p e s m args below meth c O hr hx hin
  have O : OkC p l s m args meth c G cX6_add 2 RX6 := O
  unfold f_X6_add at hf
  obtain ⟨hk0, hf⟩ := ifk hf
  refine AW.sub (lv' := [(0, .ref a0), (1, .int a1)]) [0, 1] rfl ?_
  refine r_aload_n O 0 dX6_add_0 rfl (Or.inl rfl) ?_
  obtain ⟨x1, ex1, hf⟩ := bnd hf
  refine r_gI O cf6 1 (by decide) rfl fl_X6_15 ex1 dX6_add_1 ?_
  refine r_sipush O (v := 258) dX6_add_4 (by decide) ?_
  obtain ⟨h2, hg, hf⟩ := bnd hf
  have hJ : AW p l e { frames := 0, cells := 0, slots := 0, locals := 0 } s m args below meth c G 2 (vx_MQ below (QcN G (.ok none) r) (XcN G (.ok none) r) args s 0 0 (gA G)) h2 0 0 30 [] [] := by
    obtain rfl := Option.some.inj hf
    exact r_vret O hr rfl rfl (by decide) (by decide) dX6_add_30
  clear hf
  have hf := hg
  clear hg
  by_cases hc : 258 ≤ x1
  · rw [if_pos hc] at hf
    refine r_icmp_ge_t (tgt := 30) O dX6_add_7 (by decide) hc ?_
    obtain rfl := oi1 hf
    refine AW.sub [] rfl ?_
    exact hJ
  · rw [if_neg hc] at hf
    refine r_icmp_ge_f (tgt := 30) O dX6_add_7 (by decide) hc ?_
    refine r_aload_n O 0 dX6_add_10 rfl (Or.inl rfl) ?_
    obtain ⟨x3, ex3, hf⟩ := bnd hf
    refine r_gP O cf6 0 (by decide) rfl fl_X6_9 ex3 dX6_add_11 ?_
    refine r_aload_n O 0 dX6_add_14 rfl (Or.inl rfl) ?_
    obtain ⟨x4, ex4, hf⟩ := bnd hf
    refine r_gI O cf6 1 (by decide) rfl fl_X6_15 ex4 dX6_add_15 ?_
    refine r_iload_n O 1 dX6_add_18 rfl ?_
    obtain ⟨h5, eh5, hf⟩ := bnd hf
    refine r_stI O eh5 dX6_add_19 ?_
    refine r_aload_n O 0 dX6_add_20 rfl (Or.inl rfl) ?_
    refine r_dup O dX6_add_21 rfl ?_
    obtain ⟨x6, ex6, hf⟩ := bnd hf
    refine r_gI O cf6 1 (by decide) rfl fl_X6_15 ex6 dX6_add_22 ?_
    refine r_iconst O (v := 1) dX6_add_25 (by decide) ?_
    refine r_iadd O dX6_add_26 ?_
    obtain ⟨h7, eh7, hf⟩ := bnd hf
    refine r_pI O cf6 1 (by decide) rfl fl_X6_15 rfl eh7 dX6_add_27 ?_
    obtain rfl := oi1 hf
    refine AW.sub [] rfl ?_
    exact hJ
def f_X5_comes_33 (l0 : Nat) (n : Nat) (h : AH) (l2 : Int32) (l3 : Int32) : Option AH := match n with
| 0 => none
| n + 1 =>
if 258 ≤ l3 then
some h
else
if l2 = (-1) then
some h
else
Option.bind (gP h 5 l0 7) fun x11 =>
Option.bind (ldI h x11 l2) fun x12 =>
Option.bind (f_X5_await h l0 l2) fun h14 =>
f_X5_comes_33 l0 n h14 x12 (l3 + 1)
def f_X5_comes (h : AH) (a0 : Nat) (a1 : Int32) : Option AH :=
if aK h a0 = 5 then
Option.bind (gP h 5 a0 9) fun x1 =>
Option.bind (f_X6_add h x1 a1) fun h3 =>
Option.bind (gP h3 5 a0 2) fun x4 =>
Option.bind (ldJ h3 x4 (a1 / 64)) fun x5 =>
Option.bind (f_X5_bitOf h3 a1) fun x6 =>
Option.bind (stJ h3 x4 (a1 / 64) (x5 ||| x6)) fun h8 =>
Option.bind (gP h8 5 a0 6) fun x9 =>
Option.bind (ldI h8 x9 a1) fun x10 =>
Option.bind (f_X5_comes_33 a0 FU h8 x10 0) fun h15 =>
some h15
else none
set_option maxRecDepth 100000 in
set_option maxHeartbeats 4000000 in
theorem s_X5_comes_33 {p : Program} {l : Launch} {e : Env} {s : State} {m : MethodId} {args : Array Value} {below : List Frame} {meth : Method} {c : Code} {G : GT} {Q : State → Prop} (O : OkC p l s m args meth c G cX5_comes 5 RX5) {l0 : Nat} {wh : AH} (kk : AW p l e { frames := 3, cells := 0, slots := 0, locals := 67 } s m args below meth c G 5 Q wh 0 0 67 [] []) : ∀ (n : Nat), ∀ (h : AH) (l2 : Int32) (l3 : Int32), f_X5_comes_33 l0 n h l2 l3 = some wh → AW p l e { frames := 3, cells := 0, slots := 0, locals := 67 } s m args below meth c G 5 Q h 0 0 33 [(0, .ref l0), (2, .int l2), (3, .int l3)] [] := by
  intro n
  induction n with
  | zero =>
    intro h l2 l3 hf
    simp [f_X5_comes_33] at hf
  | succ n ih =>
    intro h l2 l3 hf
    unfold f_X5_comes_33 at hf
    refine r_iload_n O 2 dX5_comes_33 rfl ?_
    refine r_sipush O (v := 258) dX5_comes_34 (by decide) ?_
    by_cases hc : 258 ≤ l3
    · rw [if_pos hc] at hf
      refine r_icmp_ge_t (tgt := 67) O dX5_comes_37 (by decide) hc ?_
      obtain rfl := oi1 hf
      refine AW.sub [] rfl ?_
      exact kk
    · rw [if_neg hc] at hf
      refine r_icmp_ge_f (tgt := 67) O dX5_comes_37 (by decide) hc ?_
      refine r_iload_n O 1 dX5_comes_40 rfl ?_
      refine r_iconst O (v := -1) dX5_comes_41 (by decide) ?_
      by_cases hc : l2 = (-1)
      · rw [if_pos hc] at hf
        refine r_icmp_eq_t (tgt := 67) O dX5_comes_42 (by decide) hc ?_
        obtain rfl := oi1 hf
        refine AW.sub [] rfl ?_
        exact kk
      · rw [if_neg hc] at hf
        refine r_icmp_eq_f (tgt := 67) O dX5_comes_42 (by decide) hc ?_
        refine r_aload_n O 0 dX5_comes_45 rfl (Or.inl rfl) ?_
        obtain ⟨x11, ex11, hf⟩ := bnd hf
        refine r_gP O cf5 7 (by decide) rfl fl_X5_31 ex11 dX5_comes_46 ?_
        refine r_iload_n O 1 dX5_comes_49 rfl ?_
        obtain ⟨x12, ex12, hf⟩ := bnd hf
        refine r_ldI O ex12 dX5_comes_50 ?_
        refine r_istore O [(4, .int x12), (0, .ref l0), (2, .int l2), (3, .int l3)] dX5_comes_51 (by decide) rfl ?_
        refine r_aload_n O 1 dX5_comes_53 rfl (Or.inl rfl) ?_
        refine r_iload_n O 2 dX5_comes_54 rfl ?_
        obtain ⟨h14, eh14, hf⟩ := bnd hf
        refine r_callV (av := [.int l2]) (st := []) O (c_X5_await eh14) mf_X5_await cf5 (kd_X5_await eh14) ml_X5_84 mi_X5_await mv_X5_await (by decide) (Nat.le_of_ble_eq_true rfl) (by decide) dX5_comes_55 ?_
        refine r_iload O 0 dX5_comes_58 rfl ?_
        refine r_istore_n O [(2, .int x12), (4, .int x12), (0, .ref l0), (3, .int l3)] dX5_comes_60 (by decide) rfl ?_
        refine r_iinc O 3 [(3, .int (l3 + 1)), (2, .int x12), (4, .int x12), (0, .ref l0)] dX5_comes_61 rfl rfl (by decide) rfl ?_
        refine r_goto (tgt := 33) O dX5_comes_64 (by decide) ?_
        refine AW.sub [3, 1, 0] rfl ?_
        exact ih _ _ _ hf
theorem kd_X5_comes {h : AH} {a0 : Nat} {a1 : Int32} {r : AH} (hf : f_X5_comes h a0 a1 = some r) : aK h a0 = 5 := by
  unfold f_X5_comes at hf
  exact (ifk hf).1
set_option maxRecDepth 100000 in
set_option maxHeartbeats 4000000 in
theorem c_X5_comes {l : Launch} {G : GT} {h : AH} {a0 : Nat} {a1 : Int32} {r : AH} (hf : f_X5_comes h a0 a1 = some r) : Cn l yX5_comes cX5_comes 5 none 3 67 0 0 G h [.ref a0, .int a1] (.ok none) r := by
  refine Cn.of (by decide) (Nat.le_of_ble_eq_true rfl) ?_
  intro p e s m args below meth c O hr hx hin
  have O : OkC p l s m args meth c G cX5_comes 5 RX5 := O
  unfold f_X5_comes at hf
  obtain ⟨hk0, hf⟩ := ifk hf
  refine AW.sub (lv' := [(0, .ref a0), (1, .int a1)]) [0, 1] rfl ?_
  refine r_aload_n O 0 dX5_comes_0 rfl (Or.inl rfl) ?_
  obtain ⟨x1, ex1, hf⟩ := bnd hf
  refine r_gP O cf5 9 (by decide) rfl fl_X5_40 ex1 dX5_comes_1 ?_
  refine r_iload_n O 1 dX5_comes_4 rfl ?_
  obtain ⟨h3, eh3, hf⟩ := bnd hf
  refine r_callV (av := [.int a1]) (st := []) O (c_X6_add eh3) mf_X6_add cf6 (kd_X6_add eh3) ml_X5_157 mi_X6_add mv_X6_add (by decide) (Nat.le_of_ble_eq_true rfl) (by decide) dX5_comes_5 ?_
  refine r_aload_n O 0 dX5_comes_8 rfl (Or.inl rfl) ?_
  obtain ⟨x4, ex4, hf⟩ := bnd hf
  refine r_gP O cf5 2 (by decide) rfl fl_X5_15 ex4 dX5_comes_9 ?_
  refine r_iload_n O 1 dX5_comes_12 rfl ?_
  refine r_bipush O (v := 64) dX5_comes_13 (by decide) ?_
  refine r_idiv O dX5_comes_15 (by decide) ?_
  refine r_dup2 O dX5_comes_16 rfl rfl ?_
  obtain ⟨x5, ex5, hf⟩ := bnd hf
  refine r_ldJ O ex5 dX5_comes_17 ?_
  refine r_iload_n O 1 dX5_comes_18 rfl ?_
  obtain ⟨x6, ex6, hf⟩ := bnd hf
  refine r_callS (av := [.int a1]) (st := [.long x5, .int (a1 / 64), .ref x4]) O (c_X5_bitOf ex6) mf_X5_bitOf ml_X5_137 ms_X5_bitOf (by decide) (Nat.le_of_ble_eq_true rfl) (by decide) dX5_comes_19 ?_
  refine r_lor O dX5_comes_22 ?_
  obtain ⟨h8, eh8, hf⟩ := bnd hf
  refine r_stJ O eh8 dX5_comes_23 ?_
  refine r_aload_n O 0 dX5_comes_24 rfl (Or.inl rfl) ?_
  obtain ⟨x9, ex9, hf⟩ := bnd hf
  refine r_gP O cf5 6 (by decide) rfl fl_X5_28 ex9 dX5_comes_25 ?_
  refine r_iload_n O 1 dX5_comes_28 rfl ?_
  obtain ⟨x10, ex10, hf⟩ := bnd hf
  refine r_ldI O ex10 dX5_comes_29 ?_
  refine r_istore_n O [(2, .int x10), (0, .ref a0), (1, .int a1)] dX5_comes_30 (by decide) rfl ?_
  refine r_iconst O (v := 0) dX5_comes_31 (by decide) ?_
  refine r_istore_n O [(3, .int 0), (2, .int x10), (0, .ref a0), (1, .int a1)] dX5_comes_32 (by decide) rfl ?_
  obtain ⟨h15, hw, hf⟩ := bnd hf
  refine AW.sub [2, 1, 0] rfl ?_
  refine s_X5_comes_33 O ?_ _ _ _ _ hw
  obtain rfl := Option.some.inj hf
  exact r_vret O hr rfl rfl (by decide) (by decide) dX5_comes_67
def f_X5_arrange_55 (l0 : Nat) (n : Nat) (h : AH) (l2 : Int32) (l3 : Int32) : Option (Int32 × AH) := match n with
| 0 => none
| n + 1 =>
if 258 ≤ l3 then
some (l2, h)
else
Option.bind (gP h 5 l0 0) fun x18 =>
Option.bind (gP h 5 l0 12) fun x19 =>
Option.bind (f_X0_isCell h x18 x19 l3) fun x20 =>
Option.bind (if x20 = 0 then
some (l2, h)
else
Option.bind (f_X5_gather h l0 l3) fun h25 =>
Option.bind (f_X5_await h25 l0 l3) fun h27 =>
some (l2 + 1, h27)) fun w => match w with
| (x22, h23) =>
f_X5_arrange_55 l0 n h23 x22 (l3 + 1)
def f_X5_arrange_98 (l0 : Nat) (l2 : Int32) (n : Nat) (h : AH) (l3 : Int32) : Option ((Int32 × AH) ⊕ AH) := match n with
| 0 => none
| n + 1 =>
if l2 ≤ l3 then
some (.inr h)
else
Option.bind (f_X5_takeReady h l0) fun w => match w with
| (x30, h31) =>
if x30 = (-1) then
some (.inl (0, h31))
else
Option.bind (f_X5_comes h31 l0 x30) fun h33 =>
f_X5_arrange_98 l0 l2 n h33 (l3 + 1)
def f_X5_arrange (h : AH) (a0 : Nat) (a1 : Nat) : Option (Int32 × AH) :=
if aK h a0 = 5 then
Option.bind (pP h 5 a0 12 a1) fun h1 =>
Option.bind (gP h1 5 a0 9) fun x2 =>
Option.bind (f_X6_clear h1 x2) fun h4 =>
Option.bind (gP h4 5 a0 1) fun x5 =>
Option.bind (f_J7_fill_d0a16 h4 x5 0) fun h7 =>
Option.bind (gP h7 5 a0 2) fun x8 =>
Option.bind (f_J7_fill_d0a16 h7 x8 0) fun h10 =>
Option.bind (gP h10 5 a0 5) fun x11 =>
Option.bind (f_J7_fill_53178 h10 x11 0) fun h13 =>
Option.bind (gP h13 5 a0 6) fun x14 =>
Option.bind (f_J7_fill_53178 h13 x14 (-1)) fun h16 =>
Option.bind (pI h16 5 a0 13 258) fun h17 =>
Option.bind (f_X5_arrange_55 a0 FU h17 0 0) fun w => match w with
| (x28, h29) =>
Option.bind (f_X5_arrange_98 a0 x28 FU h29 0) fun w => match w with
| .inl r9 => some r9
| .inr h34 =>
some (1, h34)
else none
set_option maxRecDepth 100000 in
set_option maxHeartbeats 4000000 in
theorem s_X5_arrange_55 {p : Program} {l : Launch} {e : Env} {s : State} {m : MethodId} {args : Array Value} {below : List Frame} {meth : Method} {c : Code} {G : GT} {Q : State → Prop} (O : OkC p l s m args meth c G cX5_arrange 5 RX5) {l0 : Nat} {w2 : Int32} {wh : AH} (kk : AW p l e { frames := 4, cells := 0, slots := 0, locals := 94 } s m args below meth c G 5 Q wh 0 0 96 [(0, .ref l0), (2, .int w2)] []) : ∀ (n : Nat), ∀ (h : AH) (l2 : Int32) (l3 : Int32), f_X5_arrange_55 l0 n h l2 l3 = some (w2, wh) → AW p l e { frames := 4, cells := 0, slots := 0, locals := 94 } s m args below meth c G 5 Q h 0 0 55 [(0, .ref l0), (2, .int l2), (3, .int l3)] [] := by
  intro n
  induction n with
  | zero =>
    intro h l2 l3 hf
    simp [f_X5_arrange_55] at hf
  | succ n ih =>
    intro h l2 l3 hf
    unfold f_X5_arrange_55 at hf
    refine r_iload_n O 2 dX5_arrange_55 rfl ?_
    refine r_sipush O (v := 258) dX5_arrange_56 (by decide) ?_
    by_cases hc : 258 ≤ l3
    · rw [if_pos hc] at hf
      refine r_icmp_ge_t (tgt := 96) O dX5_arrange_59 (by decide) hc ?_
      obtain ⟨rfl, rfl⟩ := oi2 hf
      refine AW.sub [0, 1] rfl ?_
      exact kk
    · rw [if_neg hc] at hf
      refine r_icmp_ge_f (tgt := 96) O dX5_arrange_59 (by decide) hc ?_
      refine r_aload_n O 0 dX5_arrange_62 rfl (Or.inl rfl) ?_
      obtain ⟨x18, ex18, hf⟩ := bnd hf
      refine r_gP O cf5 0 (by decide) rfl fl_X5_50 ex18 dX5_arrange_63 ?_
      refine r_aload_n O 0 dX5_arrange_66 rfl (Or.inl rfl) ?_
      obtain ⟨x19, ex19, hf⟩ := bnd hf
      refine r_gP O cf5 12 (by decide) rfl fl_X5_54 ex19 dX5_arrange_67 ?_
      refine r_iload_n O 2 dX5_arrange_70 rfl ?_
      obtain ⟨x20, ex20, hf⟩ := bnd hf
      refine r_callV (av := [.ref x19, .int l3]) (st := []) O (c_X0_isCell ex20) mf_X0_isCell cf0 (kd_X0_isCell ex20) ml_X5_74 mi_X0_isCell mv_X0_isCell (by decide) (Nat.le_of_ble_eq_true rfl) (by decide) dX5_arrange_71 ?_
      obtain ⟨⟨x22, h23⟩, hg, hf⟩ := bnd hf
      dsimp only at hf
      have hJ : AW p l e { frames := 4, cells := 0, slots := 0, locals := 94 } s m args below meth c G 5 Q h23 0 0 90 [(0, .ref l0), (2, .int x22), (3, .int l3)] [] := by
        refine r_iinc O 2 [(3, .int (l3 + 1)), (0, .ref l0), (2, .int x22)] dX5_arrange_90 rfl rfl (by decide) rfl ?_
        refine r_goto (tgt := 55) O dX5_arrange_93 (by decide) ?_
        refine AW.sub [1, 2, 0] rfl ?_
        exact ih _ _ _ hf
      clear hf
      have hf := hg
      clear hg
      by_cases hc : x20 = 0
      · rw [if_pos hc] at hf
        refine r_if_eq_t (tgt := 90) O dX5_arrange_74 (by decide) hc ?_
        obtain ⟨rfl, rfl⟩ := oi2 hf
        refine AW.sub [0, 1, 2] rfl ?_
        exact hJ
      · rw [if_neg hc] at hf
        refine r_if_eq_f (tgt := 90) O dX5_arrange_74 (by decide) hc ?_
        refine r_iinc O 1 [(2, .int (l2 + 1)), (0, .ref l0), (3, .int l3)] dX5_arrange_77 rfl rfl (by decide) rfl ?_
        refine r_aload_n O 1 dX5_arrange_80 rfl (Or.inl rfl) ?_
        refine r_iload_n O 2 dX5_arrange_81 rfl ?_
        obtain ⟨h25, eh25, hf⟩ := bnd hf
        refine r_callV (av := [.int l3]) (st := []) O (c_X5_gather eh25) mf_X5_gather cf5 (kd_X5_gather eh25) ml_X5_80 mi_X5_gather mv_X5_gather (by decide) (Nat.le_of_ble_eq_true rfl) (by decide) dX5_arrange_82 ?_
        refine r_aload_n O 1 dX5_arrange_85 rfl (Or.inl rfl) ?_
        refine r_iload_n O 2 dX5_arrange_86 rfl ?_
        obtain ⟨h27, eh27, hf⟩ := bnd hf
        refine r_callV (av := [.int l3]) (st := []) O (c_X5_await eh27) mf_X5_await cf5 (kd_X5_await eh27) ml_X5_84 mi_X5_await mv_X5_await (by decide) (Nat.le_of_ble_eq_true rfl) (by decide) dX5_arrange_87 ?_
        obtain ⟨rfl, rfl⟩ := oi2 hf
        refine AW.sub [1, 0, 2] rfl ?_
        exact hJ
set_option maxRecDepth 100000 in
set_option maxHeartbeats 4000000 in
theorem s_X5_arrange_98 {p : Program} {l : Launch} {e : Env} {s : State} {m : MethodId} {args : Array Value} {below : List Frame} {meth : Method} {c : Code} {G : GT} {o : Except Nat (Option Value)} {h9 : AH} (O : OkC p l s m args meth c G cX5_arrange 5 RX5) (hr : meth.sig.returnType = (some .boolean)) {l0 : Nat} {l2 : Int32} {w : ((Int32 × AH) ⊕ AH)} (he : ∀ r, w = .inl r → o = (.ok (some (.int r.1))) ∧ h9 = r.2) (kk : ∀ (wh : AH), w = .inr wh → AW p l e { frames := 4, cells := 0, slots := 0, locals := 94 } s m args below meth c G 5 (vx_MQ below (QcN G o h9) (XcN G o h9) args s 0 0 (gA G)) wh 0 0 129 [] []) : ∀ (n : Nat), ∀ (h : AH) (l3 : Int32), f_X5_arrange_98 l0 l2 n h l3 = some w → AW p l e { frames := 4, cells := 0, slots := 0, locals := 94 } s m args below meth c G 5 (vx_MQ below (QcN G o h9) (XcN G o h9) args s 0 0 (gA G)) h 0 0 98 [(0, .ref l0), (2, .int l2), (3, .int l3)] [] := by
  intro n
  induction n with
  | zero =>
    intro h l3 hf
    simp [f_X5_arrange_98] at hf
  | succ n ih =>
    intro h l3 hf
    unfold f_X5_arrange_98 at hf
    refine r_iload_n O 2 dX5_arrange_98 rfl ?_
    refine r_iload_n O 1 dX5_arrange_99 rfl ?_
    by_cases hc : l2 ≤ l3
    · rw [if_pos hc] at hf
      refine r_icmp_ge_t (tgt := 129) O dX5_arrange_100 (by decide) hc ?_
      obtain rfl := Option.some.inj hf
      refine AW.sub [] rfl ?_
      exact kk _ rfl
    · rw [if_neg hc] at hf
      refine r_icmp_ge_f (tgt := 129) O dX5_arrange_100 (by decide) hc ?_
      refine r_aload_n O 0 dX5_arrange_103 rfl (Or.inl rfl) ?_
      obtain ⟨⟨x30, h31⟩, ex30, hf⟩ := bnd hf
      dsimp only at hf
      refine r_callV (av := []) (st := []) O (c_X5_takeReady ex30) mf_X5_takeReady cf5 (kd_X5_takeReady ex30) ml_X5_87 mi_X5_takeReady mv_X5_takeReady (by decide) (Nat.le_of_ble_eq_true rfl) (by decide) dX5_arrange_104 ?_
      refine r_istore O [(4, .int x30), (0, .ref l0), (2, .int l2), (3, .int l3)] dX5_arrange_107 (by decide) rfl ?_
      refine r_iload O 0 dX5_arrange_109 rfl ?_
      refine r_iconst O (v := -1) dX5_arrange_111 (by decide) ?_
      by_cases hc : x30 = (-1)
      · rw [if_pos hc] at hf
        refine r_icmp_ne_f (tgt := 117) O dX5_arrange_112 (by decide) hc ?_
        refine r_iconst O (v := 0) dX5_arrange_115 (by decide) ?_
        obtain rfl := Option.some.inj hf
        obtain ⟨ho, hh⟩ := he _ rfl
        exact r_zret O hr (by decide) ho hh.symm (by decide) (by decide) dX5_arrange_116
      · rw [if_neg hc] at hf
        refine r_icmp_ne_t (tgt := 117) O dX5_arrange_112 (by decide) hc ?_
        refine r_aload_n O 1 dX5_arrange_117 rfl (Or.inl rfl) ?_
        refine r_iload O 0 dX5_arrange_118 rfl ?_
        obtain ⟨h33, eh33, hf⟩ := bnd hf
        refine r_callV (av := [.int x30]) (st := []) O (c_X5_comes eh33) mf_X5_comes cf5 (kd_X5_comes eh33) ml_X5_91 mi_X5_comes mv_X5_comes (by decide) (Nat.le_of_ble_eq_true rfl) (by decide) dX5_arrange_120 ?_
        refine r_iinc O 3 [(3, .int (l3 + 1)), (4, .int x30), (0, .ref l0), (2, .int l2)] dX5_arrange_123 rfl rfl (by decide) rfl ?_
        refine r_goto (tgt := 98) O dX5_arrange_126 (by decide) ?_
        refine AW.sub [2, 3, 0] rfl ?_
        exact ih _ _ hf
theorem kd_X5_arrange {h : AH} {a0 : Nat} {a1 : Nat} {r : (Int32 × AH)} (hf : f_X5_arrange h a0 a1 = some r) : aK h a0 = 5 := by
  unfold f_X5_arrange at hf
  exact (ifk hf).1
set_option maxRecDepth 100000 in
set_option maxHeartbeats 4000000 in
theorem c_X5_arrange {l : Launch} {G : GT} {h : AH} {a0 : Nat} {a1 : Nat} {r : (Int32 × AH)} (hf : f_X5_arrange h a0 a1 = some r) : Cn l yX5_arrange cX5_arrange 5 (some .boolean) 4 94 0 0 G h [.ref a0, .ref a1] (.ok (some (.int r.1))) r.2 := by
  refine Cn.of (by decide) (Nat.le_of_ble_eq_true rfl) ?_
  intro p e s m args below meth c O hr hx hin
  have O : OkC p l s m args meth c G cX5_arrange 5 RX5 := O
  unfold f_X5_arrange at hf
  obtain ⟨hk0, hf⟩ := ifk hf
  refine AW.sub (lv' := [(0, .ref a0), (1, .ref a1)]) [0, 1] rfl ?_
  refine r_aload_n O 0 dX5_arrange_0 rfl (Or.inl rfl) ?_
  refine r_aload_n O 1 dX5_arrange_1 rfl (Or.inl rfl) ?_
  obtain ⟨h1, eh1, hf⟩ := bnd hf
  refine r_pP O cf5 12 (by decide) rfl fl_X5_54 rfl eh1 dX5_arrange_2 ?_
  refine r_aload_n O 0 dX5_arrange_5 rfl (Or.inl rfl) ?_
  obtain ⟨x2, ex2, hf⟩ := bnd hf
  refine r_gP O cf5 9 (by decide) rfl fl_X5_40 ex2 dX5_arrange_6 ?_
  obtain ⟨h4, eh4, hf⟩ := bnd hf
  refine r_callV (av := []) (st := []) O (c_X6_clear eh4) mf_X6_clear cf6 (kd_X6_clear eh4) ml_X5_58 mi_X6_clear mv_X6_clear (by decide) (Nat.le_of_ble_eq_true rfl) (by decide) dX5_arrange_9 ?_
  refine r_aload_n O 0 dX5_arrange_12 rfl (Or.inl rfl) ?_
  obtain ⟨x5, ex5, hf⟩ := bnd hf
  refine r_gP O cf5 1 (by decide) rfl fl_X5_9 ex5 dX5_arrange_13 ?_
  refine r_lconst O (v := 0) dX5_arrange_16 (by decide) ?_
  obtain ⟨h7, eh7, hf⟩ := bnd hf
  refine r_callS (av := [.ref x5, .long 0]) (st := []) O (c_J7_fill_d0a16 eh7) mf_J7_fill_d0a16 ml_X5_61 ms_J7_fill_d0a16 (by decide) (Nat.le_of_ble_eq_true rfl) (by decide) dX5_arrange_17 ?_
  refine r_aload_n O 0 dX5_arrange_20 rfl (Or.inl rfl) ?_
  obtain ⟨x8, ex8, hf⟩ := bnd hf
  refine r_gP O cf5 2 (by decide) rfl fl_X5_15 ex8 dX5_arrange_21 ?_
  refine r_lconst O (v := 0) dX5_arrange_24 (by decide) ?_
  obtain ⟨h10, eh10, hf⟩ := bnd hf
  refine r_callS (av := [.ref x8, .long 0]) (st := []) O (c_J7_fill_d0a16 eh10) mf_J7_fill_d0a16 ml_X5_61 ms_J7_fill_d0a16 (by decide) (Nat.le_of_ble_eq_true rfl) (by decide) dX5_arrange_25 ?_
  refine r_aload_n O 0 dX5_arrange_28 rfl (Or.inl rfl) ?_
  obtain ⟨x11, ex11, hf⟩ := bnd hf
  refine r_gP O cf5 5 (by decide) rfl fl_X5_24 ex11 dX5_arrange_29 ?_
  refine r_iconst O (v := 0) dX5_arrange_32 (by decide) ?_
  obtain ⟨h13, eh13, hf⟩ := bnd hf
  refine r_callS (av := [.ref x11, .int 0]) (st := []) O (c_J7_fill_53178 eh13) mf_J7_fill_53178 ml_X5_67 ms_J7_fill_53178 (by decide) (Nat.le_of_ble_eq_true rfl) (by decide) dX5_arrange_33 ?_
  refine r_aload_n O 0 dX5_arrange_36 rfl (Or.inl rfl) ?_
  obtain ⟨x14, ex14, hf⟩ := bnd hf
  refine r_gP O cf5 6 (by decide) rfl fl_X5_28 ex14 dX5_arrange_37 ?_
  refine r_iconst O (v := -1) dX5_arrange_40 (by decide) ?_
  obtain ⟨h16, eh16, hf⟩ := bnd hf
  refine r_callS (av := [.ref x14, .int (-1)]) (st := []) O (c_J7_fill_53178 eh16) mf_J7_fill_53178 ml_X5_67 ms_J7_fill_53178 (by decide) (Nat.le_of_ble_eq_true rfl) (by decide) dX5_arrange_41 ?_
  refine r_aload_n O 0 dX5_arrange_44 rfl (Or.inl rfl) ?_
  refine r_sipush O (v := 258) dX5_arrange_45 (by decide) ?_
  obtain ⟨h17, eh17, hf⟩ := bnd hf
  refine r_pI O cf5 13 (by decide) rfl fl_X5_70 rfl eh17 dX5_arrange_48 ?_
  refine r_iconst O (v := 0) dX5_arrange_51 (by decide) ?_
  refine r_istore_n O [(2, .int 0), (0, .ref a0), (1, .ref a1)] dX5_arrange_52 (by decide) rfl ?_
  refine r_iconst O (v := 0) dX5_arrange_53 (by decide) ?_
  refine r_istore_n O [(3, .int 0), (2, .int 0), (0, .ref a0), (1, .ref a1)] dX5_arrange_54 (by decide) rfl ?_
  obtain ⟨⟨x28, h29⟩, hw, hf⟩ := bnd hf
  dsimp only at hf
  refine AW.sub [2, 1, 0] rfl ?_
  refine s_X5_arrange_55 O ?_ _ _ _ _ hw
  refine r_iconst O (v := 0) dX5_arrange_96 (by decide) ?_
  refine r_istore_n O [(3, .int 0), (0, .ref a0), (2, .int x28)] dX5_arrange_97 (by decide) rfl ?_
  obtain ⟨w9, hw, hf⟩ := bnd hf
  refine AW.sub [1, 2, 0] rfl ?_
  refine s_X5_arrange_98 O hr (w := w9) ?_ ?_ _ _ _ hw
  · intro r9 hr9
    subst hr9
    dsimp only at hf
    obtain rfl := Option.some.inj hf
    exact ⟨rfl, rfl⟩
  · intro h34 hw9
    subst hw9
    dsimp only at hf
    refine r_iconst O (v := 1) dX5_arrange_129 (by decide) ?_
    obtain rfl := Option.some.inj hf
    exact r_zret O hr (by decide) rfl rfl (by decide) (by decide) dX5_arrange_130
def f_X5_has (h : AH) (a0 : Nat) (a1 : Int32) : Option Int32 :=
Option.bind (ldJ h a0 (a1 / 64)) fun x1 =>
Option.bind (f_X5_bitOf h a1) fun x2 =>
Option.bind (if (lg_cmp (x1 &&& x2) 0) = 0 then
some (0 : Int32)
else
some (1 : Int32)) fun x4 =>
Option.bind (bz x4) fun x5 =>
some x5
set_option maxRecDepth 100000 in
set_option maxHeartbeats 4000000 in
theorem c_X5_has {l : Launch} {G : GT} {h : AH} {a0 : Nat} {a1 : Int32} {r : Int32} (hf : f_X5_has h a0 a1 = some r) : Cn l yX5_has cX5_has 2 (some .boolean) 1 20 0 0 G h [.ref a0, .int a1] (.ok (some (.int r))) h := by
  refine Cn.of (by decide) (Nat.le_of_ble_eq_true rfl) ?_
  intro p e s m args below meth c O hr hx hin
  have O : OkC p l s m args meth c G cX5_has 2 RX5 := O
  unfold f_X5_has at hf
  refine AW.sub (lv' := [(0, .ref a0), (1, .int a1)]) [0, 1] rfl ?_
  refine r_aload_n O 0 dX5_has_0 rfl (Or.inl rfl) ?_
  refine r_iload_n O 1 dX5_has_1 rfl ?_
  refine r_bipush O (v := 64) dX5_has_2 (by decide) ?_
  refine r_idiv O dX5_has_4 (by decide) ?_
  obtain ⟨x1, ex1, hf⟩ := bnd hf
  refine r_ldJ O ex1 dX5_has_5 ?_
  refine r_iload_n O 1 dX5_has_6 rfl ?_
  obtain ⟨x2, ex2, hf⟩ := bnd hf
  refine r_callS (av := [.int a1]) (st := [.long x1]) O (c_X5_bitOf ex2) mf_X5_bitOf ml_X5_137 ms_X5_bitOf (by decide) (Nat.le_of_ble_eq_true rfl) (by decide) dX5_has_7 ?_
  refine r_land O dX5_has_10 ?_
  refine r_lconst O (v := 0) dX5_has_11 (by decide) ?_
  refine r_lcmp O dX5_has_12 ?_
  obtain ⟨x4, hg, hf⟩ := bnd hf
  have hJ : AW p l e { frames := 1, cells := 0, slots := 0, locals := 20 } s m args below meth c G 2 (vx_MQ below (QcN G (.ok (some (.int r))) h) (XcN G (.ok (some (.int r))) h) args s 0 0 (gA G)) h 0 0 21 [] [.int x4] := by
    obtain ⟨x5, ex5, hf⟩ := bnd hf
    refine r_nmI (bz_eq ex5) ?_
    obtain rfl := Option.some.inj hf
    exact r_zret O hr (bz_or ex5) rfl rfl (by decide) (by decide) dX5_has_21
  clear hf
  have hf := hg
  clear hg
  by_cases hc : (lg_cmp (x1 &&& x2) 0) = 0
  · rw [if_pos hc] at hf
    refine r_if_eq_t (tgt := 20) O dX5_has_13 (by decide) hc ?_
    refine r_iconst O (v := 0) dX5_has_20 (by decide) ?_
    obtain rfl := oi1 hf
    refine AW.sub [] rfl ?_
    exact hJ
  · rw [if_neg hc] at hf
    refine r_if_eq_f (tgt := 20) O dX5_has_13 (by decide) hc ?_
    refine r_iconst O (v := 1) dX5_has_16 (by decide) ?_
    refine r_goto (tgt := 21) O dX5_has_17 (by decide) ?_
    obtain rfl := oi1 hf
    refine AW.sub [] rfl ?_
    exact hJ
