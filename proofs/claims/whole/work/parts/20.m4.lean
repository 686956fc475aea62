def f_X5_isLeft (h : AH) (a0 : Nat) (a1 : Int32) : Option Int32 :=
if aK h a0 = 5 then
Option.bind (gP h 5 a0 0) fun x1 =>
Option.bind (gP h 5 a0 12) fun x2 =>
Option.bind (f_X0_isCell h x1 x2 a1) fun x3 =>
Option.bind (if x3 = 0 then
some (0 : Int32)
else
Option.bind (gP h 5 a0 2) fun x6 =>
Option.bind (f_X5_has h x6 a1) fun x7 =>
if x7 = 0 then
some (1 : Int32)
else
some (0 : Int32)) fun x5 =>
Option.bind (bz x5) fun x9 =>
some x9
else none
theorem kd_X5_isLeft {h : AH} {a0 : Nat} {a1 : Int32} {r : Int32} (hf : f_X5_isLeft h a0 a1 = some r) : aK h a0 = 5 := by
  unfold f_X5_isLeft at hf
  exact (ifk hf).1
set_option maxRecDepth 100000 in
set_option maxHeartbeats 4000000 in
theorem c_X5_isLeft {l : Launch} {G : GT} {h : AH} {a0 : Nat} {a1 : Int32} {r : Int32} (hf : f_X5_isLeft h a0 a1 = some r) : Cn l yX5_isLeft cX5_isLeft 2 (some .boolean) 2 42 0 0 G h [.ref a0, .int a1] (.ok (some (.int r))) h := by
  refine Cn.of (by decide) (Nat.le_of_ble_eq_true rfl) ?_
  intro p e s m args below meth c O hr hx hin
  have O : OkC p l s m args meth c G cX5_isLeft 2 RX5 := O
  unfold f_X5_isLeft at hf
  obtain ⟨hk0, hf⟩ := ifk hf
  refine AW.sub (lv' := [(0, .ref a0), (1, .int a1)]) [0, 1] rfl ?_
  refine r_aload_n O 0 dX5_isLeft_0 rfl (Or.inl rfl) ?_
  obtain ⟨x1, ex1, hf⟩ := bnd hf
  refine r_gP O cf5 0 (by decide) rfl fl_X5_50 ex1 dX5_isLeft_1 ?_
  refine r_aload_n O 0 dX5_isLeft_4 rfl (Or.inl rfl) ?_
  obtain ⟨x2, ex2, hf⟩ := bnd hf
  refine r_gP O cf5 12 (by decide) rfl fl_X5_54 ex2 dX5_isLeft_5 ?_
  refine r_iload_n O 1 dX5_isLeft_8 rfl ?_
  obtain ⟨x3, ex3, hf⟩ := bnd hf
  refine r_callV (av := [.ref x2, .int a1]) (st := []) O (c_X0_isCell ex3) mf_X0_isCell cf0 (kd_X0_isCell ex3) ml_X5_74 mi_X0_isCell mv_X0_isCell (by decide) (Nat.le_of_ble_eq_true rfl) (by decide) dX5_isLeft_9 ?_
  obtain ⟨x5, hg, hf⟩ := bnd hf
  have hJ : AW p l e { frames := 2, cells := 0, slots := 0, locals := 42 } s m args below meth c G 2 (vx_MQ below (QcN G (.ok (some (.int r))) h) (XcN G (.ok (some (.int r))) h) args s 0 0 (gA G)) h 0 0 31 [] [.int x5] := by
    obtain ⟨x9, ex9, hf⟩ := bnd hf
    refine r_nmI (bz_eq ex9) ?_
    obtain rfl := Option.some.inj hf
    exact r_zret O hr (bz_or ex9) rfl rfl (by decide) (by decide) dX5_isLeft_31
  clear hf
  have hf := hg
  clear hg
  by_cases hc : x3 = 0
  · rw [if_pos hc] at hf
    refine r_if_eq_t (tgt := 30) O dX5_isLeft_12 (by decide) hc ?_
    refine r_iconst O (v := 0) dX5_isLeft_30 (by decide) ?_
    obtain rfl := oi1 hf
    refine AW.sub [] rfl ?_
    exact hJ
  · rw [if_neg hc] at hf
    refine r_if_eq_f (tgt := 30) O dX5_isLeft_12 (by decide) hc ?_
    refine r_aload_n O 0 dX5_isLeft_15 rfl (Or.inl rfl) ?_
    obtain ⟨x6, ex6, hf⟩ := bnd hf
    refine r_gP O cf5 2 (by decide) rfl fl_X5_15 ex6 dX5_isLeft_16 ?_
    refine r_iload_n O 1 dX5_isLeft_19 rfl ?_
    obtain ⟨x7, ex7, hf⟩ := bnd hf
    refine r_callS (av := [.ref x6, .int a1]) (st := []) O (c_X5_has ex7) mf_X5_has ml_X5_169 ms_X5_has (by decide) (Nat.le_of_ble_eq_true rfl) (by decide) dX5_isLeft_20 ?_
    by_cases hc : x7 = 0
    · rw [if_pos hc] at hf
      refine r_if_ne_f (tgt := 30) O dX5_isLeft_23 (by decide) hc ?_
      refine r_iconst O (v := 1) dX5_isLeft_26 (by decide) ?_
      refine r_goto (tgt := 31) O dX5_isLeft_27 (by decide) ?_
      obtain rfl := oi1 hf
      refine AW.sub [] rfl ?_
      exact hJ
    · rw [if_neg hc] at hf
      refine r_if_ne_t (tgt := 30) O dX5_isLeft_23 (by decide) hc ?_
      refine r_iconst O (v := 0) dX5_isLeft_30 (by decide) ?_
      obtain rfl := oi1 hf
      refine AW.sub [] rfl ?_
      exact hJ
def f_X5_spread_53 (l0 : Nat) (l1 : Int32) (l2 : Int32) (n : Nat) (h : AH) (l3 : Int64) (l5 : Int32) : Option AH := match n with
| 0 => none
| n + 1 =>
if 64 ≤ l5 then
some h
else
if (lg_cmp l3 0) = 0 then
some h
else
Option.bind (gP h 5 l0 11) fun x11 =>
Option.bind (f_J13_bitCount_95d88 h ((l3 &&& (0 - l3)) - 1)) fun x12 =>
Option.bind (f_X6_add h x11 ((64 * l2) + x12)) fun h15 =>
f_X5_spread_53 l0 l1 l2 n h15 (l3 &&& (l3 - 1)) (l5 + 1)
def f_X5_spread_2 (l0 : Nat) (l1 : Int32) (n : Nat) (h : AH) (l2 : Int32) : Option AH := match n with
| 0 => none
| n + 1 =>
if 5 ≤ l2 then
some h
else
Option.bind (gP h 5 l0 1) fun x1 =>
Option.bind (ldJ h x1 ((5 * l1) + l2)) fun x2 =>
Option.bind (gP h 5 l0 2) fun x3 =>
Option.bind (ldJ h x3 l2) fun x4 =>
Option.bind (gP h 5 l0 3) fun x5 =>
Option.bind (ldJ h x5 l2) fun x6 =>
Option.bind (some ((x2 &&& (x4 ^^^ (-1))) &&& (x6 ^^^ (-1)))) fun x7 =>
Option.bind (gP h 5 l0 3) fun x8 =>
Option.bind (ldJ h x8 l2) fun x9 =>
Option.bind (stJ h x8 l2 (x9 ||| x7)) fun h10 =>
Option.bind (f_X5_spread_53 l0 l1 l2 FU h10 x7 0) fun h16 =>
f_X5_spread_2 l0 l1 n h16 (l2 + 1)
def f_X5_spread (h : AH) (a0 : Nat) (a1 : Int32) : Option AH :=
if aK h a0 = 5 then
Option.bind (f_X5_spread_2 a0 a1 FU h 0) fun h17 =>
some h17
else none
set_option maxRecDepth 100000 in
set_option maxHeartbeats 4000000 in
theorem s_X5_spread_53 {p : Program} {l : Launch} {e : Env} {s : State} {m : MethodId} {args : Array Value} {below : List Frame} {meth : Method} {c : Code} {G : GT} {Q : State → Prop} (O : OkC p l s m args meth c G cX5_spread 6 RX5) {l0 : Nat} {l1 : Int32} {l2 : Int32} {wh : AH} (kk : AW p l e { frames := 1, cells := 0, slots := 0, locals := 21 } s m args below meth c G 6 Q wh 0 0 99 [(0, .ref l0), (1, .int l1), (2, .int l2)] []) : ∀ (n : Nat), ∀ (h : AH) (l3 : Int64) (l5 : Int32), f_X5_spread_53 l0 l1 l2 n h l3 l5 = some wh → AW p l e { frames := 1, cells := 0, slots := 0, locals := 21 } s m args below meth c G 6 Q h 0 0 53 [(0, .ref l0), (1, .int l1), (2, .int l2), (3, .long l3), (5, .int l5)] [] := by
  intro n
  induction n with
  | zero =>
    intro h l3 l5 hf
    simp [f_X5_spread_53] at hf
  | succ n ih =>
    intro h l3 l5 hf
    unfold f_X5_spread_53 at hf
    refine r_iload O 4 dX5_spread_53 rfl ?_
    refine r_bipush O (v := 64) dX5_spread_55 (by decide) ?_
    by_cases hc : 64 ≤ l5
    · rw [if_pos hc] at hf
      refine r_icmp_ge_t (tgt := 99) O dX5_spread_57 (by decide) hc ?_
      obtain rfl := oi1 hf
      refine AW.sub [0, 1, 2] rfl ?_
      exact kk
    · rw [if_neg hc] at hf
      refine r_icmp_ge_f (tgt := 99) O dX5_spread_57 (by decide) hc ?_
      refine r_lload_n O 3 dX5_spread_60 rfl ?_
      refine r_lconst O (v := 0) dX5_spread_61 (by decide) ?_
      refine r_lcmp O dX5_spread_62 ?_
      by_cases hc : (lg_cmp l3 0) = 0
      · rw [if_pos hc] at hf
        refine r_if_eq_t (tgt := 99) O dX5_spread_63 (by decide) hc ?_
        obtain rfl := oi1 hf
        refine AW.sub [0, 1, 2] rfl ?_
        exact kk
      · rw [if_neg hc] at hf
        refine r_if_eq_f (tgt := 99) O dX5_spread_63 (by decide) hc ?_
        refine r_aload_n O 0 dX5_spread_66 rfl (Or.inl rfl) ?_
        obtain ⟨x11, ex11, hf⟩ := bnd hf
        refine r_gP O cf5 11 (by decide) rfl fl_X5_47 ex11 dX5_spread_67 ?_
        refine r_bipush O (v := 64) dX5_spread_70 (by decide) ?_
        refine r_iload_n O 2 dX5_spread_72 rfl ?_
        refine r_imul O dX5_spread_73 ?_
        refine r_lload_n O 3 dX5_spread_74 rfl ?_
        refine r_lload_n O 3 dX5_spread_75 rfl ?_
        refine r_lneg O dX5_spread_76 ?_
        refine r_land O dX5_spread_77 ?_
        refine r_lconst O (v := 1) dX5_spread_78 (by decide) ?_
        refine r_lsub O dX5_spread_79 ?_
        obtain ⟨x12, ex12, hf⟩ := bnd hf
        refine r_callS (av := [.long ((l3 &&& (0 - l3)) - 1)]) (st := [.int (64 * l2), .ref x11]) O (c_J13_bitCount_95d88 ex12) mf_J13_bitCount_95d88 ml_X5_151 ms_J13_bitCount_95d88 (by decide) (Nat.le_of_ble_eq_true rfl) (by decide) dX5_spread_80 ?_
        refine r_iadd O dX5_spread_83 ?_
        obtain ⟨h15, eh15, hf⟩ := bnd hf
        refine r_callV (av := [.int ((64 * l2) + x12)]) (st := []) O (c_X6_add eh15) mf_X6_add cf6 (kd_X6_add eh15) ml_X5_157 mi_X6_add mv_X6_add (by decide) (Nat.le_of_ble_eq_true rfl) (by decide) dX5_spread_84 ?_
        refine r_lload_n O 3 dX5_spread_87 rfl ?_
        refine r_lload_n O 3 dX5_spread_88 rfl ?_
        refine r_lconst O (v := 1) dX5_spread_89 (by decide) ?_
        refine r_lsub O dX5_spread_90 ?_
        refine r_land O dX5_spread_91 ?_
        refine r_lstore_n O [(3, .long (l3 &&& (l3 - 1))), (0, .ref l0), (1, .int l1), (2, .int l2), (5, .int l5)] dX5_spread_92 (by decide) rfl ?_
        refine r_iinc O 4 [(5, .int (l5 + 1)), (3, .long (l3 &&& (l3 - 1))), (0, .ref l0), (1, .int l1), (2, .int l2)] dX5_spread_93 rfl rfl (by decide) rfl ?_
        refine r_goto (tgt := 53) O dX5_spread_96 (by decide) ?_
        refine AW.sub [2, 3, 4, 1, 0] rfl ?_
        exact ih _ _ _ hf
set_option maxRecDepth 100000 in
set_option maxHeartbeats 4000000 in
theorem s_X5_spread_2 {p : Program} {l : Launch} {e : Env} {s : State} {m : MethodId} {args : Array Value} {below : List Frame} {meth : Method} {c : Code} {G : GT} {Q : State → Prop} (O : OkC p l s m args meth c G cX5_spread 6 RX5) {l0 : Nat} {l1 : Int32} {wh : AH} (kk : AW p l e { frames := 1, cells := 0, slots := 0, locals := 21 } s m args below meth c G 6 Q wh 0 0 105 [] []) : ∀ (n : Nat), ∀ (h : AH) (l2 : Int32), f_X5_spread_2 l0 l1 n h l2 = some wh → AW p l e { frames := 1, cells := 0, slots := 0, locals := 21 } s m args below meth c G 6 Q h 0 0 2 [(0, .ref l0), (1, .int l1), (2, .int l2)] [] := by
  intro n
  induction n with
  | zero =>
    intro h l2 hf
    simp [f_X5_spread_2] at hf
  | succ n ih =>
    intro h l2 hf
    unfold f_X5_spread_2 at hf
    refine r_iload_n O 2 dX5_spread_2 rfl ?_
    refine r_iconst O (v := 5) dX5_spread_3 (by decide) ?_
    by_cases hc : 5 ≤ l2
    · rw [if_pos hc] at hf
      refine r_icmp_ge_t (tgt := 105) O dX5_spread_4 (by decide) hc ?_
      obtain rfl := oi1 hf
      refine AW.sub [] rfl ?_
      exact kk
    · rw [if_neg hc] at hf
      refine r_icmp_ge_f (tgt := 105) O dX5_spread_4 (by decide) hc ?_
      refine r_aload_n O 0 dX5_spread_7 rfl (Or.inl rfl) ?_
      obtain ⟨x1, ex1, hf⟩ := bnd hf
      refine r_gP O cf5 1 (by decide) rfl fl_X5_9 ex1 dX5_spread_8 ?_
      refine r_iconst O (v := 5) dX5_spread_11 (by decide) ?_
      refine r_iload_n O 1 dX5_spread_12 rfl ?_
      refine r_imul O dX5_spread_13 ?_
      refine r_iload_n O 2 dX5_spread_14 rfl ?_
      refine r_iadd O dX5_spread_15 ?_
      obtain ⟨x2, ex2, hf⟩ := bnd hf
      refine r_ldJ O ex2 dX5_spread_16 ?_
      refine r_aload_n O 0 dX5_spread_17 rfl (Or.inl rfl) ?_
      obtain ⟨x3, ex3, hf⟩ := bnd hf
      refine r_gP O cf5 2 (by decide) rfl fl_X5_15 ex3 dX5_spread_18 ?_
      refine r_iload_n O 2 dX5_spread_21 rfl ?_
      obtain ⟨x4, ex4, hf⟩ := bnd hf
      refine r_ldJ O ex4 dX5_spread_22 ?_
      refine r_ldc2 O cl_X5_149 dX5_spread_23 ?_
      refine r_lxor O dX5_spread_26 ?_
      refine r_land O dX5_spread_27 ?_
      refine r_aload_n O 0 dX5_spread_28 rfl (Or.inl rfl) ?_
      obtain ⟨x5, ex5, hf⟩ := bnd hf
      refine r_gP O cf5 3 (by decide) rfl fl_X5_18 ex5 dX5_spread_29 ?_
      refine r_iload_n O 2 dX5_spread_32 rfl ?_
      obtain ⟨x6, ex6, hf⟩ := bnd hf
      refine r_ldJ O ex6 dX5_spread_33 ?_
      refine r_ldc2 O cl_X5_149 dX5_spread_34 ?_
      refine r_lxor O dX5_spread_37 ?_
      refine r_land O dX5_spread_38 ?_
      obtain ⟨x7, ex7, hf⟩ := bnd hf
      refine r_nmJ (Option.some.inj ex7) ?_
      refine r_lstore_n O [(3, .long x7), (0, .ref l0), (1, .int l1), (2, .int l2)] dX5_spread_39 (by decide) rfl ?_
      refine r_aload_n O 1 dX5_spread_40 rfl (Or.inl rfl) ?_
      obtain ⟨x8, ex8, hf⟩ := bnd hf
      refine r_gP O cf5 3 (by decide) rfl fl_X5_18 ex8 dX5_spread_41 ?_
      refine r_iload_n O 3 dX5_spread_44 rfl ?_
      refine r_dup2 O dX5_spread_45 rfl rfl ?_
      obtain ⟨x9, ex9, hf⟩ := bnd hf
      refine r_ldJ O ex9 dX5_spread_46 ?_
      refine r_lload_n O 0 dX5_spread_47 rfl ?_
      refine r_lor O dX5_spread_48 ?_
      obtain ⟨h10, eh10, hf⟩ := bnd hf
      refine r_stJ O eh10 dX5_spread_49 ?_
      refine r_iconst O (v := 0) dX5_spread_50 (by decide) ?_
      refine r_istore O [(5, .int 0), (3, .long x7), (0, .ref l0), (1, .int l1), (2, .int l2)] dX5_spread_51 (by decide) rfl ?_
      obtain ⟨h16, hw, hf⟩ := bnd hf
      refine AW.sub [2, 3, 4, 1, 0] rfl ?_
      refine s_X5_spread_53 O ?_ _ _ _ _ hw
      refine r_iinc O 2 [(2, .int (l2 + 1)), (0, .ref l0), (1, .int l1)] dX5_spread_99 rfl rfl (by decide) rfl ?_
      refine r_goto (tgt := 2) O dX5_spread_102 (by decide) ?_
      refine AW.sub [1, 2, 0] rfl ?_
      exact ih _ _ hf
theorem kd_X5_spread {h : AH} {a0 : Nat} {a1 : Int32} {r : AH} (hf : f_X5_spread h a0 a1 = some r) : aK h a0 = 5 := by
  unfold f_X5_spread at hf
  exact (ifk hf).1
set_option maxRecDepth 100000 in
set_option maxHeartbeats 4000000 in
theorem c_X5_spread {l : Launch} {G : GT} {h : AH} {a0 : Nat} {a1 : Int32} {r : AH} (hf : f_X5_spread h a0 a1 = some r) : Cn l yX5_spread cX5_spread 6 none 1 21 0 0 G h [.ref a0, .int a1] (.ok none) r := by
  refine Cn.of (by decide) (Nat.le_of_ble_eq_true rfl) ?_
  intro p e s m args below meth c O hr hx hin
  have O : OkC p l s m args meth c G cX5_spread 6 RX5 := O
  unfold f_X5_spread at hf
  obtain ⟨hk0, hf⟩ := ifk hf
  refine AW.sub (lv' := [(0, .ref a0), (1, .int a1)]) [0, 1] rfl ?_
  refine r_iconst O (v := 0) dX5_spread_0 (by decide) ?_
  refine r_istore_n O [(2, .int 0), (0, .ref a0), (1, .int a1)] dX5_spread_1 (by decide) rfl ?_
  obtain ⟨h17, hw, hf⟩ := bnd hf
  refine AW.sub [1, 2, 0] rfl ?_
  refine s_X5_spread_2 O ?_ _ _ _ hw
  obtain rfl := Option.some.inj hf
  exact r_vret O hr rfl rfl (by decide) (by decide) dX5_spread_105
def f_X6_get (h : AH) (a0 : Nat) (a1 : Int32) : Option Int32 :=
if aK h a0 = 6 then
Option.bind (if a1 < 0 then
some ((-1) : Int32)
else
Option.bind (gI h 6 a0 1) fun x2 =>
if a1 < x2 then
Option.bind (gP h 6 a0 0) fun x3 =>
Option.bind (ldI h x3 a1) fun x4 =>
some x4
else
some ((-1) : Int32)) fun x1 =>
some x1
else none
theorem kd_X6_get {h : AH} {a0 : Nat} {a1 : Int32} {r : Int32} (hf : f_X6_get h a0 a1 = some r) : aK h a0 = 6 := by
  unfold f_X6_get at hf
  exact (ifk hf).1
set_option maxRecDepth 100000 in
set_option maxHeartbeats 4000000 in
theorem c_X6_get {l : Launch} {G : GT} {h : AH} {a0 : Nat} {a1 : Int32} {r : Int32} (hf : f_X6_get h a0 a1 = some r) : Cn l yX6_get cX6_get 2 (some .int) 0 0 0 0 G h [.ref a0, .int a1] (.ok (some (.int r))) h := by
  refine Cn.of (by decide) (Nat.le_of_ble_eq_true rfl) ?_
  intro p e s m args below meth c O hr hx hin
  have O : OkC p l s m args meth c G cX6_get 2 RX6 := O
  unfold f_X6_get at hf
  obtain ⟨hk0, hf⟩ := ifk hf
  refine AW.sub (lv' := [(0, .ref a0), (1, .int a1)]) [0, 1] rfl ?_
  refine r_iload_n O 1 dX6_get_0 rfl ?_
  obtain ⟨x1, hg, hf⟩ := bnd hf
  have hJ : AW p l e { frames := 0, cells := 0, slots := 0, locals := 0 } s m args below meth c G 2 (vx_MQ below (QcN G (.ok (some (.int r))) h) (XcN G (.ok (some (.int r))) h) args s 0 0 (gA G)) h 0 0 22 [] [.int x1] := by
    obtain rfl := Option.some.inj hf
    exact r_iret O hr rfl rfl (by decide) (by decide) dX6_get_22
  clear hf
  have hf := hg
  clear hg
  by_cases hc : a1 < 0
  · rw [if_pos hc] at hf
    refine r_if_lt_t (tgt := 12) O dX6_get_1 (by decide) hc ?_
    refine r_iconst O (v := -1) dX6_get_12 (by decide) ?_
    refine r_goto (tgt := 22) O dX6_get_13 (by decide) ?_
    obtain rfl := oi1 hf
    refine AW.sub [] rfl ?_
    exact hJ
  · rw [if_neg hc] at hf
    refine r_if_lt_f (tgt := 12) O dX6_get_1 (by decide) hc ?_
    refine r_iload_n O 1 dX6_get_4 rfl ?_
    refine r_aload_n O 0 dX6_get_5 rfl (Or.inl rfl) ?_
    obtain ⟨x2, ex2, hf⟩ := bnd hf
    refine r_gI O cf6 1 (by decide) rfl fl_X6_15 ex2 dX6_get_6 ?_
    by_cases hc : a1 < x2
    · rw [if_pos hc] at hf
      refine r_icmp_lt_t (tgt := 16) O dX6_get_9 (by decide) hc ?_
      refine r_aload_n O 0 dX6_get_16 rfl (Or.inl rfl) ?_
      obtain ⟨x3, ex3, hf⟩ := bnd hf
      refine r_gP O cf6 0 (by decide) rfl fl_X6_9 ex3 dX6_get_17 ?_
      refine r_iload_n O 1 dX6_get_20 rfl ?_
      obtain ⟨x4, ex4, hf⟩ := bnd hf
      refine r_ldI O ex4 dX6_get_21 ?_
      obtain rfl := oi1 hf
      refine AW.sub [] rfl ?_
      exact hJ
    · rw [if_neg hc] at hf
      refine r_icmp_lt_f (tgt := 16) O dX6_get_9 (by decide) hc ?_
      refine r_iconst O (v := -1) dX6_get_12 (by decide) ?_
      refine r_goto (tgt := 22) O dX6_get_13 (by decide) ?_
      obtain rfl := oi1 hf
      refine AW.sub [] rfl ?_
      exact hJ
def f_X5_leadsBack_22 (l0 : Nat) (l1 : Int32) (n : Nat) (h : AH) (l2 : Int32) : Option AH := match n with
| 0 => none
| n + 1 =>
if 258 ≤ l2 then
some h
else
Option.bind (gP h 5 l0 11) fun x9 =>
Option.bind (gI h 6 x9 1) fun x10 =>
if x10 ≤ l2 then
some h
else
Option.bind (gP h 5 l0 3) fun x11 =>
Option.bind (f_X5_has h x11 l1) fun x12 =>
if x12 = 0 then
Option.bind (gP h 5 l0 11) fun x14 =>
Option.bind (f_X6_get h x14 l2) fun x15 =>
Option.bind (f_X5_spread h l0 x15) fun h18 =>
f_X5_leadsBack_22 l0 l1 n h18 (l2 + 1)
else
some h
def f_X5_leadsBack (h : AH) (a0 : Nat) (a1 : Int32) : Option (Int32 × AH) :=
if aK h a0 = 5 then
Option.bind (gP h 5 a0 3) fun x1 =>
Option.bind (f_J7_fill_d0a16 h x1 0) fun h3 =>
Option.bind (gP h3 5 a0 11) fun x4 =>
Option.bind (f_X6_clear h3 x4) fun h6 =>
Option.bind (f_X5_spread h6 a0 a1) fun h8 =>
Option.bind (f_X5_leadsBack_22 a0 a1 FU h8 0) fun h19 =>
Option.bind (gP h19 5 a0 3) fun x20 =>
Option.bind (f_X5_has h19 x20 a1) fun x21 =>
Option.bind (bz x21) fun x23 =>
some (x23, h19)
else none
set_option maxRecDepth 100000 in
set_option maxHeartbeats 4000000 in
theorem s_X5_leadsBack_22 {p : Program} {l : Launch} {e : Env} {s : State} {m : MethodId} {args : Array Value} {below : List Frame} {meth : Method} {c : Code} {G : GT} {Q : State → Prop} (O : OkC p l s m args meth c G cX5_leadsBack 3 RX5) {l0 : Nat} {l1 : Int32} {wh : AH} (kk : AW p l e { frames := 2, cells := 0, slots := 0, locals := 46 } s m args below meth c G 3 Q wh 0 0 69 [(0, .ref l0), (1, .int l1)] []) : ∀ (n : Nat), ∀ (h : AH) (l2 : Int32), f_X5_leadsBack_22 l0 l1 n h l2 = some wh → AW p l e { frames := 2, cells := 0, slots := 0, locals := 46 } s m args below meth c G 3 Q h 0 0 22 [(0, .ref l0), (1, .int l1), (2, .int l2)] [] := by
  intro n
  induction n with
  | zero =>
    intro h l2 hf
    simp [f_X5_leadsBack_22] at hf
  | succ n ih =>
    intro h l2 hf
    unfold f_X5_leadsBack_22 at hf
    refine r_iload_n O 2 dX5_leadsBack_22 rfl ?_
    refine r_sipush O (v := 258) dX5_leadsBack_23 (by decide) ?_
    by_cases hc : 258 ≤ l2
    · rw [if_pos hc] at hf
      refine r_icmp_ge_t (tgt := 69) O dX5_leadsBack_26 (by decide) hc ?_
      obtain rfl := oi1 hf
      refine AW.sub [0, 1] rfl ?_
      exact kk
    · rw [if_neg hc] at hf
      refine r_icmp_ge_f (tgt := 69) O dX5_leadsBack_26 (by decide) hc ?_
      refine r_iload_n O 2 dX5_leadsBack_29 rfl ?_
      refine r_aload_n O 0 dX5_leadsBack_30 rfl (Or.inl rfl) ?_
      obtain ⟨x9, ex9, hf⟩ := bnd hf
      refine r_gP O cf5 11 (by decide) rfl fl_X5_47 ex9 dX5_leadsBack_31 ?_
      obtain ⟨x10, ex10, hf⟩ := bnd hf
      refine r_gI O cf6 1 (by decide) rfl fl_X5_182 ex10 dX5_leadsBack_34 ?_
      by_cases hc : x10 ≤ l2
      · rw [if_pos hc] at hf
        refine r_icmp_ge_t (tgt := 69) O dX5_leadsBack_37 (by decide) hc ?_
        obtain rfl := oi1 hf
        refine AW.sub [0, 1] rfl ?_
        exact kk
      · rw [if_neg hc] at hf
        refine r_icmp_ge_f (tgt := 69) O dX5_leadsBack_37 (by decide) hc ?_
        refine r_aload_n O 0 dX5_leadsBack_40 rfl (Or.inl rfl) ?_
        obtain ⟨x11, ex11, hf⟩ := bnd hf
        refine r_gP O cf5 3 (by decide) rfl fl_X5_18 ex11 dX5_leadsBack_41 ?_
        refine r_iload_n O 1 dX5_leadsBack_44 rfl ?_
        obtain ⟨x12, ex12, hf⟩ := bnd hf
        refine r_callS (av := [.ref x11, .int l1]) (st := []) O (c_X5_has ex12) mf_X5_has ml_X5_169 ms_X5_has (by decide) (Nat.le_of_ble_eq_true rfl) (by decide) dX5_leadsBack_45 ?_
        by_cases hc : x12 = 0
        · rw [if_pos hc] at hf
          refine r_if_ne_f (tgt := 69) O dX5_leadsBack_48 (by decide) hc ?_
          refine r_aload_n O 0 dX5_leadsBack_51 rfl (Or.inl rfl) ?_
          refine r_aload_n O 0 dX5_leadsBack_52 rfl (Or.inl rfl) ?_
          obtain ⟨x14, ex14, hf⟩ := bnd hf
          refine r_gP O cf5 11 (by decide) rfl fl_X5_47 ex14 dX5_leadsBack_53 ?_
          refine r_iload_n O 2 dX5_leadsBack_56 rfl ?_
          obtain ⟨x15, ex15, hf⟩ := bnd hf
          refine r_callV (av := [.int l2]) (st := [.ref l0]) O (c_X6_get ex15) mf_X6_get cf6 (kd_X6_get ex15) ml_X5_185 mi_X6_get mv_X6_get (by decide) (Nat.le_of_ble_eq_true rfl) (by decide) dX5_leadsBack_57 ?_
          obtain ⟨h18, eh18, hf⟩ := bnd hf
          refine r_callV (av := [.int x15]) (st := []) O (c_X5_spread eh18) mf_X5_spread cf5 (kd_X5_spread eh18) ml_X5_179 mi_X5_spread mv_X5_spread (by decide) (Nat.le_of_ble_eq_true rfl) (by decide) dX5_leadsBack_60 ?_
          refine r_iinc O 2 [(2, .int (l2 + 1)), (0, .ref l0), (1, .int l1)] dX5_leadsBack_63 rfl rfl (by decide) rfl ?_
          refine r_goto (tgt := 22) O dX5_leadsBack_66 (by decide) ?_
          refine AW.sub [1, 2, 0] rfl ?_
          exact ih _ _ hf
        · rw [if_neg hc] at hf
          refine r_if_ne_t (tgt := 69) O dX5_leadsBack_48 (by decide) hc ?_
          obtain rfl := oi1 hf
          refine AW.sub [0, 1] rfl ?_
          exact kk
theorem kd_X5_leadsBack {h : AH} {a0 : Nat} {a1 : Int32} {r : (Int32 × AH)} (hf : f_X5_leadsBack h a0 a1 = some r) : aK h a0 = 5 := by
  unfold f_X5_leadsBack at hf
  exact (ifk hf).1
set_option maxRecDepth 100000 in
set_option maxHeartbeats 4000000 in
theorem c_X5_leadsBack {l : Launch} {G : GT} {h : AH} {a0 : Nat} {a1 : Int32} {r : (Int32 × AH)} (hf : f_X5_leadsBack h a0 a1 = some r) : Cn l yX5_leadsBack cX5_leadsBack 3 (some .boolean) 2 46 0 0 G h [.ref a0, .int a1] (.ok (some (.int r.1))) r.2 := by
  refine Cn.of (by decide) (Nat.le_of_ble_eq_true rfl) ?_
  intro p e s m args below meth c O hr hx hin
  have O : OkC p l s m args meth c G cX5_leadsBack 3 RX5 := O
  unfold f_X5_leadsBack at hf
  obtain ⟨hk0, hf⟩ := ifk hf
  refine AW.sub (lv' := [(0, .ref a0), (1, .int a1)]) [0, 1] rfl ?_
  refine r_aload_n O 0 dX5_leadsBack_0 rfl (Or.inl rfl) ?_
  obtain ⟨x1, ex1, hf⟩ := bnd hf
  refine r_gP O cf5 3 (by decide) rfl fl_X5_18 ex1 dX5_leadsBack_1 ?_
  refine r_lconst O (v := 0) dX5_leadsBack_4 (by decide) ?_
  obtain ⟨h3, eh3, hf⟩ := bnd hf
  refine r_callS (av := [.ref x1, .long 0]) (st := []) O (c_J7_fill_d0a16 eh3) mf_J7_fill_d0a16 ml_X5_61 ms_J7_fill_d0a16 (by decide) (Nat.le_of_ble_eq_true rfl) (by decide) dX5_leadsBack_5 ?_
  refine r_aload_n O 0 dX5_leadsBack_8 rfl (Or.inl rfl) ?_
  obtain ⟨x4, ex4, hf⟩ := bnd hf
  refine r_gP O cf5 11 (by decide) rfl fl_X5_47 ex4 dX5_leadsBack_9 ?_
  obtain ⟨h6, eh6, hf⟩ := bnd hf
  refine r_callV (av := []) (st := []) O (c_X6_clear eh6) mf_X6_clear cf6 (kd_X6_clear eh6) ml_X5_58 mi_X6_clear mv_X6_clear (by decide) (Nat.le_of_ble_eq_true rfl) (by decide) dX5_leadsBack_12 ?_
  refine r_aload_n O 0 dX5_leadsBack_15 rfl (Or.inl rfl) ?_
  refine r_iload_n O 1 dX5_leadsBack_16 rfl ?_
  obtain ⟨h8, eh8, hf⟩ := bnd hf
  refine r_callV (av := [.int a1]) (st := []) O (c_X5_spread eh8) mf_X5_spread cf5 (kd_X5_spread eh8) ml_X5_179 mi_X5_spread mv_X5_spread (by decide) (Nat.le_of_ble_eq_true rfl) (by decide) dX5_leadsBack_17 ?_
  refine r_iconst O (v := 0) dX5_leadsBack_20 (by decide) ?_
  refine r_istore_n O [(2, .int 0), (0, .ref a0), (1, .int a1)] dX5_leadsBack_21 (by decide) rfl ?_
  obtain ⟨h19, hw, hf⟩ := bnd hf
  refine AW.sub [1, 2, 0] rfl ?_
  refine s_X5_leadsBack_22 O ?_ _ _ _ hw
  refine r_aload_n O 0 dX5_leadsBack_69 rfl (Or.inl rfl) ?_
  obtain ⟨x20, ex20, hf⟩ := bnd hf
  refine r_gP O cf5 3 (by decide) rfl fl_X5_18 ex20 dX5_leadsBack_70 ?_
  refine r_iload_n O 1 dX5_leadsBack_73 rfl ?_
  obtain ⟨x21, ex21, hf⟩ := bnd hf
  refine r_callS (av := [.ref x20, .int a1]) (st := []) O (c_X5_has ex21) mf_X5_has ml_X5_169 ms_X5_has (by decide) (Nat.le_of_ble_eq_true rfl) (by decide) dX5_leadsBack_74 ?_
  obtain ⟨x23, ex23, hf⟩ := bnd hf
  refine r_nmI (bz_eq ex23) ?_
  obtain rfl := Option.some.inj hf
  exact r_zret O hr (bz_or ex23) rfl rfl (by decide) (by decide) dX5_leadsBack_77
def f_X5_firstInRing_2 (l0 : Nat) (n : Nat) (h : AH) (l1 : Int32) : Option ((Int32 × AH) ⊕ AH) := match n with
| 0 => none
| n + 1 =>
if 258 ≤ l1 then
some (.inr h)
else
Option.bind (f_X5_isLeft h l0 l1) fun x1 =>
if x1 = 0 then
f_X5_firstInRing_2 l0 n h (l1 + 1)
else
Option.bind (f_X5_leadsBack h l0 l1) fun w => match w with
| (x3, h4) =>
if x3 = 0 then
f_X5_firstInRing_2 l0 n h4 (l1 + 1)
else
some (.inl (l1, h4))
def f_X5_firstInRing (h : AH) (a0 : Nat) : Option (Int32 × AH) :=
if aK h a0 = 5 then
Option.bind (f_X5_firstInRing_2 a0 FU h 0) fun w => match w with
| .inl r9 => some r9
| .inr h5 =>
some ((-1), h5)
else none
set_option maxRecDepth 100000 in
set_option maxHeartbeats 4000000 in
theorem s_X5_firstInRing_2 {p : Program} {l : Launch} {e : Env} {s : State} {m : MethodId} {args : Array Value} {below : List Frame} {meth : Method} {c : Code} {G : GT} {o : Except Nat (Option Value)} {h9 : AH} (O : OkC p l s m args meth c G cX5_firstInRing 2 RX5) (hr : meth.sig.returnType = (some .int)) {l0 : Nat} {w : ((Int32 × AH) ⊕ AH)} (he : ∀ r, w = .inl r → o = (.ok (some (.int r.1))) ∧ h9 = r.2) (kk : ∀ (wh : AH), w = .inr wh → AW p l e { frames := 3, cells := 0, slots := 0, locals := 68 } s m args below meth c G 2 (vx_MQ below (QcN G o h9) (XcN G o h9) args s 0 0 (gA G)) wh 0 0 33 [] []) : ∀ (n : Nat), ∀ (h : AH) (l1 : Int32), f_X5_firstInRing_2 l0 n h l1 = some w → AW p l e { frames := 3, cells := 0, slots := 0, locals := 68 } s m args below meth c G 2 (vx_MQ below (QcN G o h9) (XcN G o h9) args s 0 0 (gA G)) h 0 0 2 [(0, .ref l0), (1, .int l1)] [] := by
  intro n
  induction n with
  | zero =>
    intro h l1 hf
    simp [f_X5_firstInRing_2] at hf
  | succ n ih =>
    intro h l1 hf
    unfold f_X5_firstInRing_2 at hf
    refine r_iload_n O 1 dX5_firstInRing_2 rfl ?_
    refine r_sipush O (v := 258) dX5_firstInRing_3 (by decide) ?_
    by_cases hc : 258 ≤ l1
    · rw [if_pos hc] at hf
      refine r_icmp_ge_t (tgt := 33) O dX5_firstInRing_6 (by decide) hc ?_
      obtain rfl := Option.some.inj hf
      refine AW.sub [] rfl ?_
      exact kk _ rfl
    · rw [if_neg hc] at hf
      refine r_icmp_ge_f (tgt := 33) O dX5_firstInRing_6 (by decide) hc ?_
      refine r_aload_n O 0 dX5_firstInRing_9 rfl (Or.inl rfl) ?_
      refine r_iload_n O 1 dX5_firstInRing_10 rfl ?_
      obtain ⟨x1, ex1, hf⟩ := bnd hf
      refine r_callV (av := [.int l1]) (st := []) O (c_X5_isLeft ex1) mf_X5_isLeft cf5 (kd_X5_isLeft ex1) ml_X5_173 mi_X5_isLeft mv_X5_isLeft (by decide) (Nat.le_of_ble_eq_true rfl) (by decide) dX5_firstInRing_11 ?_
      by_cases hc : x1 = 0
      · rw [if_pos hc] at hf
        refine r_if_eq_t (tgt := 27) O dX5_firstInRing_14 (by decide) hc ?_
        refine r_iinc O 1 [(1, .int (l1 + 1)), (0, .ref l0)] dX5_firstInRing_27 rfl rfl (by decide) rfl ?_
        refine r_goto (tgt := 2) O dX5_firstInRing_30 (by decide) ?_
        refine AW.sub [1, 0] rfl ?_
        exact ih _ _ hf
      · rw [if_neg hc] at hf
        refine r_if_eq_f (tgt := 27) O dX5_firstInRing_14 (by decide) hc ?_
        refine r_aload_n O 0 dX5_firstInRing_17 rfl (Or.inl rfl) ?_
        refine r_iload_n O 1 dX5_firstInRing_18 rfl ?_
        obtain ⟨⟨x3, h4⟩, ex3, hf⟩ := bnd hf
        dsimp only at hf
        refine r_callV (av := [.int l1]) (st := []) O (c_X5_leadsBack ex3) mf_X5_leadsBack cf5 (kd_X5_leadsBack ex3) ml_X5_176 mi_X5_leadsBack mv_X5_leadsBack (by decide) (Nat.le_of_ble_eq_true rfl) (by decide) dX5_firstInRing_19 ?_
        by_cases hc : x3 = 0
        · rw [if_pos hc] at hf
          refine r_if_eq_t (tgt := 27) O dX5_firstInRing_22 (by decide) hc ?_
          refine r_iinc O 1 [(1, .int (l1 + 1)), (0, .ref l0)] dX5_firstInRing_27 rfl rfl (by decide) rfl ?_
          refine r_goto (tgt := 2) O dX5_firstInRing_30 (by decide) ?_
          refine AW.sub [1, 0] rfl ?_
          exact ih _ _ hf
        · rw [if_neg hc] at hf
          refine r_if_eq_f (tgt := 27) O dX5_firstInRing_22 (by decide) hc ?_
          refine r_iload_n O 1 dX5_firstInRing_25 rfl ?_
          obtain rfl := Option.some.inj hf
          obtain ⟨ho, hh⟩ := he _ rfl
          exact r_iret O hr ho hh.symm (by decide) (by decide) dX5_firstInRing_26
theorem kd_X5_firstInRing {h : AH} {a0 : Nat} {r : (Int32 × AH)} (hf : f_X5_firstInRing h a0 = some r) : aK h a0 = 5 := by
  unfold f_X5_firstInRing at hf
  exact (ifk hf).1
set_option maxRecDepth 100000 in
set_option maxHeartbeats 4000000 in
theorem c_X5_firstInRing {l : Launch} {G : GT} {h : AH} {a0 : Nat} {r : (Int32 × AH)} (hf : f_X5_firstInRing h a0 = some r) : Cn l yX5_firstInRing cX5_firstInRing 2 (some .int) 3 68 0 0 G h [.ref a0] (.ok (some (.int r.1))) r.2 := by
  refine Cn.of (by decide) (Nat.le_of_ble_eq_true rfl) ?_
  intro p e s m args below meth c O hr hx hin
  have O : OkC p l s m args meth c G cX5_firstInRing 2 RX5 := O
  unfold f_X5_firstInRing at hf
  obtain ⟨hk0, hf⟩ := ifk hf
  refine AW.sub (lv' := [(0, .ref a0)]) [0] rfl ?_
  refine r_iconst O (v := 0) dX5_firstInRing_0 (by decide) ?_
  refine r_istore_n O [(1, .int 0), (0, .ref a0)] dX5_firstInRing_1 (by decide) rfl ?_
  obtain ⟨w9, hw, hf⟩ := bnd hf
  refine AW.sub [1, 0] rfl ?_
  refine s_X5_firstInRing_2 O hr (w := w9) ?_ ?_ _ _ _ hw
  · intro r9 hr9
    subst hr9
    dsimp only at hf
    obtain rfl := Option.some.inj hf
    exact ⟨rfl, rfl⟩
  · intro h5 hw9
    subst hw9
    dsimp only at hf
    refine r_iconst O (v := -1) dX5_firstInRing_33 (by decide) ?_
    obtain rfl := Option.some.inj hf
    exact r_iret O hr rfl rfl (by decide) (by decide) dX5_firstInRing_34
def f_X5_readsEdge_2 (l0 : Nat) (l1 : Int32) (n : Nat) (h : AH) (l2 : Int32) : Option (Int32 ⊕ Unit) := match n with
| 0 => none
| n + 1 =>
if 5 ≤ l2 then
some (.inr ())
else
Option.bind (gP h 5 l0 1) fun x1 =>
Option.bind (ldJ h x1 ((5 * l1) + l2)) fun x2 =>
Option.bind (gP h 5 l0 4) fun x3 =>
Option.bind (ldJ h x3 l2) fun x4 =>
if (lg_cmp (x2 &&& x4) 0) = 0 then
f_X5_readsEdge_2 l0 l1 n h (l2 + 1)
else
some (.inl 1)
def f_X5_readsEdge (h : AH) (a0 : Nat) (a1 : Int32) : Option Int32 :=
if aK h a0 = 5 then
Option.bind (f_X5_readsEdge_2 a0 a1 FU h 0) fun w => match w with
| .inl r9 => some r9
| .inr () =>
some 0
else none
set_option maxRecDepth 100000 in
set_option maxHeartbeats 4000000 in
theorem s_X5_readsEdge_2 {p : Program} {l : Launch} {e : Env} {s : State} {m : MethodId} {args : Array Value} {below : List Frame} {meth : Method} {c : Code} {G : GT} {o : Except Nat (Option Value)} {h9 : AH} (O : OkC p l s m args meth c G cX5_readsEdge 3 RX5) (hr : meth.sig.returnType = (some .boolean)) {l0 : Nat} {l1 : Int32} {h : AH} {w : (Int32 ⊕ Unit)} (he : ∀ r, w = .inl r → o = (.ok (some (.int r))) ∧ h9 = h) (kk : w = .inr () → AW p l e { frames := 0, cells := 0, slots := 0, locals := 0 } s m args below meth c G 3 (vx_MQ below (QcN G o h9) (XcN G o h9) args s 0 0 (gA G)) h 0 0 37 [] []) : ∀ (n : Nat), ∀ (l2 : Int32), f_X5_readsEdge_2 l0 l1 n h l2 = some w → AW p l e { frames := 0, cells := 0, slots := 0, locals := 0 } s m args below meth c G 3 (vx_MQ below (QcN G o h9) (XcN G o h9) args s 0 0 (gA G)) h 0 0 2 [(0, .ref l0), (1, .int l1), (2, .int l2)] [] := by
  intro n
  induction n with
  | zero =>
    intro l2 hf
    simp [f_X5_readsEdge_2] at hf
  | succ n ih =>
    intro l2 hf
    unfold f_X5_readsEdge_2 at hf
    refine r_iload_n O 2 dX5_readsEdge_2 rfl ?_
    refine r_iconst O (v := 5) dX5_readsEdge_3 (by decide) ?_
    by_cases hc : 5 ≤ l2
    · rw [if_pos hc] at hf
      refine r_icmp_ge_t (tgt := 37) O dX5_readsEdge_4 (by decide) hc ?_
      obtain rfl := Option.some.inj hf
      refine AW.sub [] rfl ?_
      exact kk  rfl
    · rw [if_neg hc] at hf
      refine r_icmp_ge_f (tgt := 37) O dX5_readsEdge_4 (by decide) hc ?_
      refine r_aload_n O 0 dX5_readsEdge_7 rfl (Or.inl rfl) ?_
      obtain ⟨x1, ex1, hf⟩ := bnd hf
      refine r_gP O cf5 1 (by decide) rfl fl_X5_9 ex1 dX5_readsEdge_8 ?_
      refine r_iconst O (v := 5) dX5_readsEdge_11 (by decide) ?_
      refine r_iload_n O 1 dX5_readsEdge_12 rfl ?_
      refine r_imul O dX5_readsEdge_13 ?_
      refine r_iload_n O 2 dX5_readsEdge_14 rfl ?_
      refine r_iadd O dX5_readsEdge_15 ?_
      obtain ⟨x2, ex2, hf⟩ := bnd hf
      refine r_ldJ O ex2 dX5_readsEdge_16 ?_
      refine r_aload_n O 0 dX5_readsEdge_17 rfl (Or.inl rfl) ?_
      obtain ⟨x3, ex3, hf⟩ := bnd hf
      refine r_gP O cf5 4 (by decide) rfl fl_X5_21 ex3 dX5_readsEdge_18 ?_
      refine r_iload_n O 2 dX5_readsEdge_21 rfl ?_
      obtain ⟨x4, ex4, hf⟩ := bnd hf
      refine r_ldJ O ex4 dX5_readsEdge_22 ?_
      refine r_land O dX5_readsEdge_23 ?_
      refine r_lconst O (v := 0) dX5_readsEdge_24 (by decide) ?_
      refine r_lcmp O dX5_readsEdge_25 ?_
      by_cases hc : (lg_cmp (x2 &&& x4) 0) = 0
      · rw [if_pos hc] at hf
        refine r_if_eq_t (tgt := 31) O dX5_readsEdge_26 (by decide) hc ?_
        refine r_iinc O 2 [(2, .int (l2 + 1)), (0, .ref l0), (1, .int l1)] dX5_readsEdge_31 rfl rfl (by decide) rfl ?_
        refine r_goto (tgt := 2) O dX5_readsEdge_34 (by decide) ?_
        refine AW.sub [1, 2, 0] rfl ?_
        exact ih _ hf
      · rw [if_neg hc] at hf
        refine r_if_eq_f (tgt := 31) O dX5_readsEdge_26 (by decide) hc ?_
        refine r_iconst O (v := 1) dX5_readsEdge_29 (by decide) ?_
        obtain rfl := Option.some.inj hf
        obtain ⟨ho, hh⟩ := he _ rfl
        exact r_zret O hr (by decide) ho hh.symm (by decide) (by decide) dX5_readsEdge_30
theorem kd_X5_readsEdge {h : AH} {a0 : Nat} {a1 : Int32} {r : Int32} (hf : f_X5_readsEdge h a0 a1 = some r) : aK h a0 = 5 := by
  unfold f_X5_readsEdge at hf
  exact (ifk hf).1
set_option maxRecDepth 100000 in
set_option maxHeartbeats 4000000 in
theorem c_X5_readsEdge {l : Launch} {G : GT} {h : AH} {a0 : Nat} {a1 : Int32} {r : Int32} (hf : f_X5_readsEdge h a0 a1 = some r) : Cn l yX5_readsEdge cX5_readsEdge 3 (some .boolean) 0 0 0 0 G h [.ref a0, .int a1] (.ok (some (.int r))) h := by
  refine Cn.of (by decide) (Nat.le_of_ble_eq_true rfl) ?_
  intro p e s m args below meth c O hr hx hin
  have O : OkC p l s m args meth c G cX5_readsEdge 3 RX5 := O
  unfold f_X5_readsEdge at hf
  obtain ⟨hk0, hf⟩ := ifk hf
  refine AW.sub (lv' := [(0, .ref a0), (1, .int a1)]) [0, 1] rfl ?_
  refine r_iconst O (v := 0) dX5_readsEdge_0 (by decide) ?_
  refine r_istore_n O [(2, .int 0), (0, .ref a0), (1, .int a1)] dX5_readsEdge_1 (by decide) rfl ?_
  obtain ⟨w9, hw, hf⟩ := bnd hf
  refine AW.sub [1, 2, 0] rfl ?_
  refine s_X5_readsEdge_2 O hr (w := w9) ?_ ?_ _ _ hw
  · intro r9 hr9
    subst hr9
    dsimp only at hf
    obtain rfl := Option.some.inj hf
    exact ⟨rfl, rfl⟩
  · intro hw9
    subst hw9
    dsimp only at hf
    refine r_iconst O (v := 0) dX5_readsEdge_37 (by decide) ?_
    obtain rfl := Option.some.inj hf
    exact r_zret O hr (by decide) rfl rfl (by decide) (by decide) dX5_readsEdge_38
def f_X5_measure_67 (l0 : Nat) (l3 : Int32) (n : Nat) (h : AH) (l2 : Int32) (l4 : Int32) : Option (Int32 × AH) := match n with
| 0 => none
| n + 1 =>
if 258 ≤ l4 then
some (l2, h)
else
Option.bind (gP h 5 l0 8) fun x17 =>
Option.bind (ldI h x17 l4) fun x18 =>
Option.bind (if x18 = (-1) then
Option.bind (f_X5_isLeft h l0 l4) fun x21 =>
if x21 = 0 then
some (l2, h)
else
Option.bind (f_X5_readsEdge h l0 l4) fun x23 =>
if x23 = 0 then
some (l2, h)
else
Option.bind (gP h 5 l0 8) fun x25 =>
Option.bind (stI h x25 l4 l3) fun h26 =>
Option.bind (gP h26 5 l0 3) fun x27 =>
Option.bind (ldJ h26 x27 (l4 / 64)) fun x28 =>
Option.bind (f_X5_bitOf h26 l4) fun x29 =>
Option.bind (stJ h26 x27 (l4 / 64) (x28 ||| x29)) fun h31 =>
some ((1 : Int32), h31)
else
some (l2, h)) fun w => match w with
| (x19, h20) =>
f_X5_measure_67 l0 l3 n h20 x19 (l4 + 1)
def f_X5_measure_43 (l0 : Nat) (n : Nat) (h : AH) (l2 : Int32) (l3 : Int32) : Option AH := match n with
| 0 => none
| n + 1 =>
if 258 ≤ l3 then
some h
else
if l2 = 0 then
some h
else
Option.bind (gP h 5 l0 3) fun x14 =>
Option.bind (f_J7_fill_d0a16 h x14 0) fun h16 =>
Option.bind (f_X5_measure_67 l0 l3 FU h16 0 0) fun w => match w with
| (x32, h33) =>
Option.bind (gP h33 5 l0 3) fun x34 =>
Option.bind (gP h33 5 l0 4) fun x35 =>
Option.bind (cpJ h33 x34 0 x35 0 5) fun h36 =>
f_X5_measure_43 l0 n h36 x32 (l3 + 1)
def f_X5_measure (h : AH) (a0 : Nat) (a1 : Int32) : Option AH :=
if aK h a0 = 5 then
Option.bind (gP h 5 a0 8) fun x1 =>
Option.bind (f_J7_fill_53178 h x1 (-1)) fun h3 =>
Option.bind (gP h3 5 a0 8) fun x4 =>
Option.bind (stI h3 x4 a1 0) fun h5 =>
Option.bind (gP h5 5 a0 4) fun x6 =>
Option.bind (f_J7_fill_d0a16 h5 x6 0) fun h8 =>
Option.bind (gP h8 5 a0 4) fun x9 =>
Option.bind (ldJ h8 x9 (a1 / 64)) fun x10 =>
Option.bind (f_X5_bitOf h8 a1) fun x11 =>
Option.bind (stJ h8 x9 (a1 / 64) (x10 ||| x11)) fun h13 =>
Option.bind (f_X5_measure_43 a0 FU h13 1 1) fun h37 =>
some h37
else none
set_option maxRecDepth 100000 in
set_option maxHeartbeats 4000000 in
theorem s_X5_measure_67 {p : Program} {l : Launch} {e : Env} {s : State} {m : MethodId} {args : Array Value} {below : List Frame} {meth : Method} {c : Code} {G : GT} {Q : State → Prop} (O : OkC p l s m args meth c G cX5_measure 5 RX5) {l0 : Nat} {l3 : Int32} {w2 : Int32} {wh : AH} (kk : AW p l e { frames := 3, cells := 0, slots := 0, locals := 63 } s m args below meth c G 5 Q wh 0 0 138 [(0, .ref l0), (2, .int w2), (3, .int l3)] []) : ∀ (n : Nat), ∀ (h : AH) (l2 : Int32) (l4 : Int32), f_X5_measure_67 l0 l3 n h l2 l4 = some (w2, wh) → AW p l e { frames := 3, cells := 0, slots := 0, locals := 63 } s m args below meth c G 5 Q h 0 0 67 [(0, .ref l0), (2, .int l2), (3, .int l3), (4, .int l4)] [] := by
  intro n
  induction n with
  | zero =>
    intro h l2 l4 hf
    simp [f_X5_measure_67] at hf
  | succ n ih =>
    intro h l2 l4 hf
    unfold f_X5_measure_67 at hf
    refine r_iload O 3 dX5_measure_67 rfl ?_
    refine r_sipush O (v := 258) dX5_measure_69 (by decide) ?_
    by_cases hc : 258 ≤ l4
    · rw [if_pos hc] at hf
      refine r_icmp_ge_t (tgt := 138) O dX5_measure_72 (by decide) hc ?_
      obtain ⟨rfl, rfl⟩ := oi2 hf
      refine AW.sub [0, 1, 2] rfl ?_
      exact kk
    · rw [if_neg hc] at hf
      refine r_icmp_ge_f (tgt := 138) O dX5_measure_72 (by decide) hc ?_
      refine r_aload_n O 0 dX5_measure_75 rfl (Or.inl rfl) ?_
      obtain ⟨x17, ex17, hf⟩ := bnd hf
      refine r_gP O cf5 8 (by decide) rfl fl_X5_34 ex17 dX5_measure_76 ?_
      refine r_iload O 3 dX5_measure_79 rfl ?_
      obtain ⟨x18, ex18, hf⟩ := bnd hf
      refine r_ldI O ex18 dX5_measure_81 ?_
      refine r_iconst O (v := -1) dX5_measure_82 (by decide) ?_
      obtain ⟨⟨x19, h20⟩, hg, hf⟩ := bnd hf
      dsimp only at hf
      have hJ : AW p l e { frames := 3, cells := 0, slots := 0, locals := 63 } s m args below meth c G 5 Q h20 0 0 132 [(0, .ref l0), (2, .int x19), (3, .int l3), (4, .int l4)] [] := by
        refine r_iinc O 3 [(4, .int (l4 + 1)), (0, .ref l0), (2, .int x19), (3, .int l3)] dX5_measure_132 rfl rfl (by decide) rfl ?_
        refine r_goto (tgt := 67) O dX5_measure_135 (by decide) ?_
        refine AW.sub [1, 2, 3, 0] rfl ?_
        exact ih _ _ _ hf
      clear hf
      have hf := hg
      clear hg
      by_cases hc : x18 = (-1)
      · rw [if_pos hc] at hf
        refine r_icmp_ne_f (tgt := 132) O dX5_measure_83 (by decide) hc ?_
        refine r_aload_n O 0 dX5_measure_86 rfl (Or.inl rfl) ?_
        refine r_iload O 3 dX5_measure_87 rfl ?_
        obtain ⟨x21, ex21, hf⟩ := bnd hf
        refine r_callV (av := [.int l4]) (st := []) O (c_X5_isLeft ex21) mf_X5_isLeft cf5 (kd_X5_isLeft ex21) ml_X5_173 mi_X5_isLeft mv_X5_isLeft (by decide) (Nat.le_of_ble_eq_true rfl) (by decide) dX5_measure_89 ?_
        by_cases hc : x21 = 0
        · rw [if_pos hc] at hf
          refine r_if_eq_t (tgt := 132) O dX5_measure_92 (by decide) hc ?_
          obtain ⟨rfl, rfl⟩ := oi2 hf
          refine AW.sub [0, 1, 2, 3] rfl ?_
          exact hJ
        · rw [if_neg hc] at hf
          refine r_if_eq_f (tgt := 132) O dX5_measure_92 (by decide) hc ?_
          refine r_aload_n O 0 dX5_measure_95 rfl (Or.inl rfl) ?_
          refine r_iload O 3 dX5_measure_96 rfl ?_
          obtain ⟨x23, ex23, hf⟩ := bnd hf
          refine r_callV (av := [.int l4]) (st := []) O (c_X5_readsEdge ex23) mf_X5_readsEdge cf5 (kd_X5_readsEdge ex23) ml_X5_188 mi_X5_readsEdge mv_X5_readsEdge (by decide) (Nat.le_of_ble_eq_true rfl) (by decide) dX5_measure_98 ?_
          by_cases hc : x23 = 0
          · rw [if_pos hc] at hf
            refine r_if_eq_t (tgt := 132) O dX5_measure_101 (by decide) hc ?_
            obtain ⟨rfl, rfl⟩ := oi2 hf
            refine AW.sub [0, 1, 2, 3] rfl ?_
            exact hJ
          · rw [if_neg hc] at hf
            refine r_if_eq_f (tgt := 132) O dX5_measure_101 (by decide) hc ?_
            refine r_aload_n O 0 dX5_measure_104 rfl (Or.inl rfl) ?_
            obtain ⟨x25, ex25, hf⟩ := bnd hf
            refine r_gP O cf5 8 (by decide) rfl fl_X5_34 ex25 dX5_measure_105 ?_
            refine r_iload O 3 dX5_measure_108 rfl ?_
            refine r_iload_n O 2 dX5_measure_110 rfl ?_
            obtain ⟨h26, eh26, hf⟩ := bnd hf
            refine r_stI O eh26 dX5_measure_111 ?_
            refine r_aload_n O 0 dX5_measure_112 rfl (Or.inl rfl) ?_
            obtain ⟨x27, ex27, hf⟩ := bnd hf
            refine r_gP O cf5 3 (by decide) rfl fl_X5_18 ex27 dX5_measure_113 ?_
            refine r_iload O 3 dX5_measure_116 rfl ?_
            refine r_bipush O (v := 64) dX5_measure_118 (by decide) ?_
            refine r_idiv O dX5_measure_120 (by decide) ?_
            refine r_dup2 O dX5_measure_121 rfl rfl ?_
            obtain ⟨x28, ex28, hf⟩ := bnd hf
            refine r_ldJ O ex28 dX5_measure_122 ?_
            refine r_iload O 3 dX5_measure_123 rfl ?_
            obtain ⟨x29, ex29, hf⟩ := bnd hf
            refine r_callS (av := [.int l4]) (st := [.long x28, .int (l4 / 64), .ref x27]) O (c_X5_bitOf ex29) mf_X5_bitOf ml_X5_137 ms_X5_bitOf (by decide) (Nat.le_of_ble_eq_true rfl) (by decide) dX5_measure_125 ?_
            refine r_lor O dX5_measure_128 ?_
            obtain ⟨h31, eh31, hf⟩ := bnd hf
            refine r_stJ O eh31 dX5_measure_129 ?_
            refine r_iconst O (v := 1) dX5_measure_130 (by decide) ?_
            refine r_istore_n O [(2, .int 1), (0, .ref l0), (3, .int l3), (4, .int l4)] dX5_measure_131 (by decide) rfl ?_
            obtain ⟨rfl, rfl⟩ := oi2 hf
            refine AW.sub [1, 0, 2, 3] rfl ?_
            exact hJ
      · rw [if_neg hc] at hf
        refine r_icmp_ne_t (tgt := 132) O dX5_measure_83 (by decide) hc ?_
        obtain ⟨rfl, rfl⟩ := oi2 hf
        refine AW.sub [0, 1, 2, 3] rfl ?_
        exact hJ
set_option maxRecDepth 100000 in
set_option maxHeartbeats 4000000 in
theorem s_X5_measure_43 {p : Program} {l : Launch} {e : Env} {s : State} {m : MethodId} {args : Array Value} {below : List Frame} {meth : Method} {c : Code} {G : GT} {Q : State → Prop} (O : OkC p l s m args meth c G cX5_measure 5 RX5) {l0 : Nat} {wh : AH} (kk : AW p l e { frames := 3, cells := 0, slots := 0, locals := 63 } s m args below meth c G 5 Q wh 0 0 158 [] []) : ∀ (n : Nat), ∀ (h : AH) (l2 : Int32) (l3 : Int32), f_X5_measure_43 l0 n h l2 l3 = some wh → AW p l e { frames := 3, cells := 0, slots := 0, locals := 63 } s m args below meth c G 5 Q h 0 0 43 [(0, .ref l0), (2, .int l2), (3, .int l3)] [] := by
  intro n
  induction n with
  | zero =>
    intro h l2 l3 hf
    simp [f_X5_measure_43] at hf
  | succ n ih =>
    intro h l2 l3 hf
    unfold f_X5_measure_43 at hf
    refine r_iload_n O 2 dX5_measure_43 rfl ?_
    refine r_sipush O (v := 258) dX5_measure_44 (by decide) ?_
    by_cases hc : 258 ≤ l3
    · rw [if_pos hc] at hf
      refine r_icmp_ge_t (tgt := 158) O dX5_measure_47 (by decide) hc ?_
      obtain rfl := oi1 hf
      refine AW.sub [] rfl ?_
      exact kk
    · rw [if_neg hc] at hf
      refine r_icmp_ge_f (tgt := 158) O dX5_measure_47 (by decide) hc ?_
      refine r_iload_n O 1 dX5_measure_50 rfl ?_
      by_cases hc : l2 = 0
      · rw [if_pos hc] at hf
        refine r_if_eq_t (tgt := 158) O dX5_measure_51 (by decide) hc ?_
        obtain rfl := oi1 hf
        refine AW.sub [] rfl ?_
        exact kk
      · rw [if_neg hc] at hf
        refine r_if_eq_f (tgt := 158) O dX5_measure_51 (by decide) hc ?_
        refine r_iconst O (v := 0) dX5_measure_54 (by decide) ?_
        refine r_istore_n O [(2, .int 0), (0, .ref l0), (3, .int l3)] dX5_measure_55 (by decide) rfl ?_
        refine r_aload_n O 1 dX5_measure_56 rfl (Or.inl rfl) ?_
        obtain ⟨x14, ex14, hf⟩ := bnd hf
        refine r_gP O cf5 3 (by decide) rfl fl_X5_18 ex14 dX5_measure_57 ?_
        refine r_lconst O (v := 0) dX5_measure_60 (by decide) ?_
        obtain ⟨h16, eh16, hf⟩ := bnd hf
        refine r_callS (av := [.ref x14, .long 0]) (st := []) O (c_J7_fill_d0a16 eh16) mf_J7_fill_d0a16 ml_X5_61 ms_J7_fill_d0a16 (by decide) (Nat.le_of_ble_eq_true rfl) (by decide) dX5_measure_61 ?_
        refine r_iconst O (v := 0) dX5_measure_64 (by decide) ?_
        refine r_istore O [(4, .int 0), (2, .int 0), (0, .ref l0), (3, .int l3)] dX5_measure_65 (by decide) rfl ?_
        obtain ⟨⟨x32, h33⟩, hw, hf⟩ := bnd hf
        dsimp only at hf
        refine AW.sub [2, 1, 3, 0] rfl ?_
        refine s_X5_measure_67 O ?_ _ _ _ _ hw
        refine r_aload_n O 0 dX5_measure_138 rfl (Or.inl rfl) ?_
        obtain ⟨x34, ex34, hf⟩ := bnd hf
        refine r_gP O cf5 3 (by decide) rfl fl_X5_18 ex34 dX5_measure_139 ?_
        refine r_iconst O (v := 0) dX5_measure_142 (by decide) ?_
        refine r_aload_n O 0 dX5_measure_143 rfl (Or.inl rfl) ?_
        obtain ⟨x35, ex35, hf⟩ := bnd hf
        refine r_gP O cf5 4 (by decide) rfl fl_X5_21 ex35 dX5_measure_144 ?_
        refine r_iconst O (v := 0) dX5_measure_147 (by decide) ?_
        refine r_iconst O (v := 5) dX5_measure_148 (by decide) ?_
        obtain ⟨h36, eh36, hf⟩ := bnd hf
        refine r_cpJ O eh36 ml_X5_191 (by decide) (Nat.le_of_ble_eq_true rfl) dX5_measure_149 ?_
        refine r_iinc O 2 [(3, .int (l3 + 1)), (0, .ref l0), (2, .int x32)] dX5_measure_152 rfl rfl (by decide) rfl ?_
        refine r_goto (tgt := 43) O dX5_measure_155 (by decide) ?_
        refine AW.sub [1, 2, 0] rfl ?_
        exact ih _ _ _ hf
theorem kd_X5_measure {h : AH} {a0 : Nat} {a1 : Int32} {r : AH} (hf : f_X5_measure h a0 a1 = some r) : aK h a0 = 5 := by
  unfold f_X5_measure at hf
  exact (ifk hf).1
set_option maxRecDepth 100000 in
set_option maxHeartbeats 4000000 in
theorem c_X5_measure {l : Launch} {G : GT} {h : AH} {a0 : Nat} {a1 : Int32} {r : AH} (hf : f_X5_measure h a0 a1 = some r) : Cn l yX5_measure cX5_measure 5 none 3 63 0 0 G h [.ref a0, .int a1] (.ok none) r := by
  refine Cn.of (by decide) (Nat.le_of_ble_eq_true rfl) ?_
  intro p e s m args below meth c O hr hx hin
  have O : OkC p l s m args meth c G cX5_measure 5 RX5 := O
  unfold f_X5_measure at hf
  obtain ⟨hk0, hf⟩ := ifk hf
  refine AW.sub (lv' := [(0, .ref a0), (1, .int a1)]) [0, 1] rfl ?_
  refine r_aload_n O 0 dX5_measure_0 rfl (Or.inl rfl) ?_
  obtain ⟨x1, ex1, hf⟩ := bnd hf
  refine r_gP O cf5 8 (by decide) rfl fl_X5_34 ex1 dX5_measure_1 ?_
  refine r_iconst O (v := -1) dX5_measure_4 (by decide) ?_
  obtain ⟨h3, eh3, hf⟩ := bnd hf
  refine r_callS (av := [.ref x1, .int (-1)]) (st := []) O (c_J7_fill_53178 eh3) mf_J7_fill_53178 ml_X5_67 ms_J7_fill_53178 (by decide) (Nat.le_of_ble_eq_true rfl) (by decide) dX5_measure_5 ?_
  refine r_aload_n O 0 dX5_measure_8 rfl (Or.inl rfl) ?_
  obtain ⟨x4, ex4, hf⟩ := bnd hf
  refine r_gP O cf5 8 (by decide) rfl fl_X5_34 ex4 dX5_measure_9 ?_
  refine r_iload_n O 1 dX5_measure_12 rfl ?_
  refine r_iconst O (v := 0) dX5_measure_13 (by decide) ?_
  obtain ⟨h5, eh5, hf⟩ := bnd hf
  refine r_stI O eh5 dX5_measure_14 ?_
  refine r_aload_n O 0 dX5_measure_15 rfl (Or.inl rfl) ?_
  obtain ⟨x6, ex6, hf⟩ := bnd hf
  refine r_gP O cf5 4 (by decide) rfl fl_X5_21 ex6 dX5_measure_16 ?_
  refine r_lconst O (v := 0) dX5_measure_19 (by decide) ?_
  obtain ⟨h8, eh8, hf⟩ := bnd hf
  refine r_callS (av := [.ref x6, .long 0]) (st := []) O (c_J7_fill_d0a16 eh8) mf_J7_fill_d0a16 ml_X5_61 ms_J7_fill_d0a16 (by decide) (Nat.le_of_ble_eq_true rfl) (by decide) dX5_measure_20 ?_
  refine r_aload_n O 0 dX5_measure_23 rfl (Or.inl rfl) ?_
  obtain ⟨x9, ex9, hf⟩ := bnd hf
  refine r_gP O cf5 4 (by decide) rfl fl_X5_21 ex9 dX5_measure_24 ?_
  refine r_iload_n O 1 dX5_measure_27 rfl ?_
  refine r_bipush O (v := 64) dX5_measure_28 (by decide) ?_
  refine r_idiv O dX5_measure_30 (by decide) ?_
  refine r_dup2 O dX5_measure_31 rfl rfl ?_
  obtain ⟨x10, ex10, hf⟩ := bnd hf
  refine r_ldJ O ex10 dX5_measure_32 ?_
  refine r_iload_n O 1 dX5_measure_33 rfl ?_
  obtain ⟨x11, ex11, hf⟩ := bnd hf
  refine r_callS (av := [.int a1]) (st := [.long x10, .int (a1 / 64), .ref x9]) O (c_X5_bitOf ex11) mf_X5_bitOf ml_X5_137 ms_X5_bitOf (by decide) (Nat.le_of_ble_eq_true rfl) (by decide) dX5_measure_34 ?_
  refine r_lor O dX5_measure_37 ?_
  obtain ⟨h13, eh13, hf⟩ := bnd hf
  refine r_stJ O eh13 dX5_measure_38 ?_
  refine r_iconst O (v := 1) dX5_measure_39 (by decide) ?_
  refine r_istore_n O [(2, .int 1), (0, .ref a0), (1, .int a1)] dX5_measure_40 (by decide) rfl ?_
  refine r_iconst O (v := 1) dX5_measure_41 (by decide) ?_
  refine r_istore_n O [(3, .int 1), (2, .int 1), (0, .ref a0), (1, .int a1)] dX5_measure_42 (by decide) rfl ?_
  obtain ⟨h37, hw, hf⟩ := bnd hf
  refine AW.sub [2, 1, 0] rfl ?_
  refine s_X5_measure_43 O ?_ _ _ _ _ hw
  obtain rfl := Option.some.inj hf
  exact r_vret O hr rfl rfl (by decide) (by decide) dX5_measure_158
def f_X5_nearer (h : AH) (a0 : Nat) (a1 : Int32) (a2 : Int32) : Option Int32 :=
if aK h a0 = 5 then
if a2 = (-1) then
some a1
else
Option.bind (gP h 5 a0 8) fun x1 =>
Option.bind (ldI h x1 a2) fun x2 =>
if x2 = (-1) then
some a1
else
Option.bind (if a1 = (-1) then
some a2
else
Option.bind (gP h 5 a0 8) fun x4 =>
Option.bind (ldI h x4 a2) fun x5 =>
Option.bind (gP h 5 a0 8) fun x6 =>
Option.bind (ldI h x6 a1) fun x7 =>
if x7 ≤ x5 then
some a1
else
some a2) fun x3 =>
some x3
else none
theorem kd_X5_nearer {h : AH} {a0 : Nat} {a1 : Int32} {a2 : Int32} {r : Int32} (hf : f_X5_nearer h a0 a1 a2 = some r) : aK h a0 = 5 := by
  unfold f_X5_nearer at hf
  exact (ifk hf).1
set_option maxRecDepth 100000 in
set_option maxHeartbeats 4000000 in
theorem c_X5_nearer {l : Launch} {G : GT} {h : AH} {a0 : Nat} {a1 : Int32} {a2 : Int32} {r : Int32} (hf : f_X5_nearer h a0 a1 a2 = some r) : Cn l yX5_nearer cX5_nearer 3 (some .int) 0 0 0 0 G h [.ref a0, .int a1, .int a2] (.ok (some (.int r))) h := by
  refine Cn.of (by decide) (Nat.le_of_ble_eq_true rfl) ?_
  intro p e s m args below meth c O hr hx hin
  have O : OkC p l s m args meth c G cX5_nearer 3 RX5 := O
  unfold f_X5_nearer at hf
  obtain ⟨hk0, hf⟩ := ifk hf
  refine AW.sub (lv' := [(0, .ref a0), (1, .int a1), (2, .int a2)]) [0, 1, 2] rfl ?_
  refine r_iload_n O 2 dX5_nearer_0 rfl ?_
  refine r_iconst O (v := -1) dX5_nearer_1 (by decide) ?_
  by_cases hc : a2 = (-1)
  · rw [if_pos hc] at hf
    refine r_icmp_eq_t (tgt := 15) O dX5_nearer_2 (by decide) hc ?_
    refine r_iload_n O 1 dX5_nearer_15 rfl ?_
    obtain rfl := Option.some.inj hf
    exact r_iret O hr rfl rfl (by decide) (by decide) dX5_nearer_16
  · rw [if_neg hc] at hf
    refine r_icmp_eq_f (tgt := 15) O dX5_nearer_2 (by decide) hc ?_
    refine r_aload_n O 0 dX5_nearer_5 rfl (Or.inl rfl) ?_
    obtain ⟨x1, ex1, hf⟩ := bnd hf
    refine r_gP O cf5 8 (by decide) rfl fl_X5_34 ex1 dX5_nearer_6 ?_
    refine r_iload_n O 2 dX5_nearer_9 rfl ?_
    obtain ⟨x2, ex2, hf⟩ := bnd hf
    refine r_ldI O ex2 dX5_nearer_10 ?_
    refine r_iconst O (v := -1) dX5_nearer_11 (by decide) ?_
    by_cases hc : x2 = (-1)
    · rw [if_pos hc] at hf
      refine r_icmp_ne_f (tgt := 17) O dX5_nearer_12 (by decide) hc ?_
      refine r_iload_n O 1 dX5_nearer_15 rfl ?_
      obtain rfl := Option.some.inj hf
      exact r_iret O hr rfl rfl (by decide) (by decide) dX5_nearer_16
    · rw [if_neg hc] at hf
      refine r_icmp_ne_t (tgt := 17) O dX5_nearer_12 (by decide) hc ?_
      refine r_iload_n O 1 dX5_nearer_17 rfl ?_
      refine r_iconst O (v := -1) dX5_nearer_18 (by decide) ?_
      obtain ⟨x3, hg, hf⟩ := bnd hf
      have hJ : AW p l e { frames := 0, cells := 0, slots := 0, locals := 0 } s m args below meth c G 3 (vx_MQ below (QcN G (.ok (some (.int r))) h) (XcN G (.ok (some (.int r))) h) args s 0 0 (gA G)) h 0 0 42 [] [.int x3] := by
        obtain rfl := Option.some.inj hf
        exact r_iret O hr rfl rfl (by decide) (by decide) dX5_nearer_42
      clear hf
      have hf := hg
      clear hg
      by_cases hc : a1 = (-1)
      · rw [if_pos hc] at hf
        refine r_icmp_eq_t (tgt := 37) O dX5_nearer_19 (by decide) hc ?_
        refine r_iload_n O 2 dX5_nearer_37 rfl ?_
        refine r_goto (tgt := 42) O dX5_nearer_38 (by decide) ?_
        obtain rfl := oi1 hf
        refine AW.sub [] rfl ?_
        exact hJ
      · rw [if_neg hc] at hf
        refine r_icmp_eq_f (tgt := 37) O dX5_nearer_19 (by decide) hc ?_
        refine r_aload_n O 0 dX5_nearer_22 rfl (Or.inl rfl) ?_
        obtain ⟨x4, ex4, hf⟩ := bnd hf
        refine r_gP O cf5 8 (by decide) rfl fl_X5_34 ex4 dX5_nearer_23 ?_
        refine r_iload_n O 2 dX5_nearer_26 rfl ?_
        obtain ⟨x5, ex5, hf⟩ := bnd hf
        refine r_ldI O ex5 dX5_nearer_27 ?_
        refine r_aload_n O 0 dX5_nearer_28 rfl (Or.inl rfl) ?_
        obtain ⟨x6, ex6, hf⟩ := bnd hf
        refine r_gP O cf5 8 (by decide) rfl fl_X5_34 ex6 dX5_nearer_29 ?_
        refine r_iload_n O 1 dX5_nearer_32 rfl ?_
        obtain ⟨x7, ex7, hf⟩ := bnd hf
        refine r_ldI O ex7 dX5_nearer_33 ?_
        by_cases hc : x7 ≤ x5
        · rw [if_pos hc] at hf
          refine r_icmp_ge_t (tgt := 41) O dX5_nearer_34 (by decide) hc ?_
          refine r_iload_n O 1 dX5_nearer_41 rfl ?_
          obtain rfl := oi1 hf
          refine AW.sub [] rfl ?_
          exact hJ
        · rw [if_neg hc] at hf
          refine r_icmp_ge_f (tgt := 41) O dX5_nearer_34 (by decide) hc ?_
          refine r_iload_n O 2 dX5_nearer_37 rfl ?_
          refine r_goto (tgt := 42) O dX5_nearer_38 (by decide) ?_
          obtain rfl := oi1 hf
          refine AW.sub [] rfl ?_
          exact hJ
def f_X5_nearestRead_65 (l0 : Nat) (l1 : Int32) (l3 : Int32) (l4 : Int32) (l6 : Int32) (l7 : Int32) (n : Nat) (h : AH) (l2 : Int32) (l8 : Int32) : Option Int32 := match n with
| 0 => none
| n + 1 =>
Option.bind (gP h 5 l0 12) fun x23 =>
Option.bind (gP h 4 x23 6) fun x24 =>
Option.bind (ldI h x24 l7) fun x25 =>
if x25 ≤ l8 then
some l2
else
Option.bind (gP h 5 l0 12) fun x26 =>
Option.bind (f_X4_standsAt h x26 l7 l8) fun x27 =>
Option.bind (f_X8_shadowOf h x27 l6) fun x29 =>
Option.bind (f_X5_nearer h l0 l2 x29) fun x31 =>
f_X5_nearestRead_65 l0 l1 l3 l4 l6 l7 n h x31 (l8 + 1)
def f_X5_nearestRead_14 (l0 : Nat) (l1 : Int32) (l3 : Int32) (n : Nat) (h : AH) (l2 : Int32) (l4 : Int32) : Option Int32 := match n with
| 0 => none
| n + 1 =>
if l3 ≤ l4 then
some l2
else
Option.bind (gP h 5 l0 0) fun x4 =>
Option.bind (f_X0_codeOf h x4 l1 l4) fun x5 =>
Option.bind (gP h 5 l0 0) fun x7 =>
Option.bind (f_X0_valueOf h x7 l1 l4) fun x8 =>
Option.bind (f_X8_isOverAll h x5) fun x10 =>
Option.bind (if x10 = 0 then
Option.bind (f_X8_isOverOne h x5) fun x13 =>
if x13 = 0 then
some l2
else
Option.bind (gP h 5 l0 12) fun x15 =>
Option.bind (f_X4_shadowSeen h x15 l1 x5 x8) fun x16 =>
Option.bind (f_X5_nearer h l0 l2 x16) fun x18 =>
some x18
else
Option.bind (gP h 5 l0 12) fun x20 =>
Option.bind (f_X4_listOf h x20 l1) fun x21 =>
Option.bind (f_X5_nearestRead_65 l0 l1 l3 l4 x8 x21 FU h l2 0) fun x33 =>
some x33) fun x12 =>
f_X5_nearestRead_14 l0 l1 l3 n h x12 (l4 + 1)
def f_X5_nearestRead (h : AH) (a0 : Nat) (a1 : Int32) : Option Int32 :=
if aK h a0 = 5 then
Option.bind (gP h 5 a0 0) fun x1 =>
Option.bind (f_X0_stepsOf h x1 a1) fun x2 =>
Option.bind (f_X5_nearestRead_14 a0 a1 x2 FU h (-1) 0) fun x34 =>
some x34
else none
set_option maxRecDepth 100000 in
set_option maxHeartbeats 4000000 in
theorem s_X5_nearestRead_65 {p : Program} {l : Launch} {e : Env} {s : State} {m : MethodId} {args : Array Value} {below : List Frame} {meth : Method} {c : Code} {G : GT} {Q : State → Prop} (O : OkC p l s m args meth c G cX5_nearestRead 9 RX5) {l0 : Nat} {l1 : Int32} {l3 : Int32} {l4 : Int32} {l6 : Int32} {l7 : Int32} {h : AH} {w2 : Int32} (kk : AW p l e { frames := 3, cells := 0, slots := 0, locals := 67 } s m args below meth c G 9 Q h 0 0 108 [(0, .ref l0), (1, .int l1), (2, .int w2), (3, .int l3), (4, .int l4)] []) : ∀ (n : Nat), ∀ (l2 : Int32) (l8 : Int32), f_X5_nearestRead_65 l0 l1 l3 l4 l6 l7 n h l2 l8 = some w2 → AW p l e { frames := 3, cells := 0, slots := 0, locals := 67 } s m args below meth c G 9 Q h 0 0 65 [(0, .ref l0), (1, .int l1), (2, .int l2), (3, .int l3), (4, .int l4), (6, .int l6), (7, .int l7), (8, .int l8)] [] := by
  intro n
  induction n with
  | zero =>
    intro l2 l8 hf
    simp [f_X5_nearestRead_65] at hf
  | succ n ih =>
    intro l2 l8 hf
    unfold f_X5_nearestRead_65 at hf
    refine r_iload O 7 dX5_nearestRead_65 rfl ?_
    refine r_aload_n O 0 dX5_nearestRead_67 rfl (Or.inl rfl) ?_
    obtain ⟨x23, ex23, hf⟩ := bnd hf
    refine r_gP O cf5 12 (by decide) rfl fl_X5_54 ex23 dX5_nearestRead_68 ?_
    obtain ⟨x24, ex24, hf⟩ := bnd hf
    refine r_gP O cf4 6 (by decide) rfl fl_X5_117 ex24 dX5_nearestRead_71 ?_
    refine r_iload O 6 dX5_nearestRead_74 rfl ?_
    obtain ⟨x25, ex25, hf⟩ := bnd hf
    refine r_ldI O ex25 dX5_nearestRead_76 ?_
    by_cases hc : x25 ≤ l8
    · rw [if_pos hc] at hf
      refine r_icmp_ge_t (tgt := 108) O dX5_nearestRead_77 (by decide) hc ?_
      obtain rfl := oi1 hf
      refine AW.sub [0, 1, 2, 3, 4] rfl ?_
      exact kk
    · rw [if_neg hc] at hf
      refine r_icmp_ge_f (tgt := 108) O dX5_nearestRead_77 (by decide) hc ?_
      refine r_aload_n O 0 dX5_nearestRead_80 rfl (Or.inl rfl) ?_
      refine r_iload_n O 2 dX5_nearestRead_81 rfl ?_
      refine r_aload_n O 0 dX5_nearestRead_82 rfl (Or.inl rfl) ?_
      obtain ⟨x26, ex26, hf⟩ := bnd hf
      refine r_gP O cf5 12 (by decide) rfl fl_X5_54 ex26 dX5_nearestRead_83 ?_
      refine r_iload O 6 dX5_nearestRead_86 rfl ?_
      refine r_iload O 7 dX5_nearestRead_88 rfl ?_
      obtain ⟨x27, ex27, hf⟩ := bnd hf
      refine r_callV (av := [.int l7, .int l8]) (st := [.int l2, .ref l0]) O (c_X4_standsAt ex27) mf_X4_standsAt cf4 (kd_X4_standsAt ex27) ml_X5_120 mi_X4_standsAt mv_X4_standsAt (by decide) (Nat.le_of_ble_eq_true rfl) (by decide) dX5_nearestRead_90 ?_
      refine r_iload O 5 dX5_nearestRead_93 rfl ?_
      obtain ⟨x29, ex29, hf⟩ := bnd hf
      refine r_callSN (av := [.int x27, .int l6]) (st := [.int l2, .ref l0]) O (c_X8_shadowOf ex29) mf_X8_shadowOf mn_X5_123 ms_X8_shadowOf (by decide) (Nat.le_of_ble_eq_true rfl) (by decide) dX5_nearestRead_95 ?_
      obtain ⟨x31, ex31, hf⟩ := bnd hf
      refine r_callV (av := [.int l2, .int x29]) (st := []) O (c_X5_nearer ex31) mf_X5_nearer cf5 (kd_X5_nearer ex31) ml_X5_197 mi_X5_nearer mv_X5_nearer (by decide) (Nat.le_of_ble_eq_true rfl) (by decide) dX5_nearestRead_98 ?_
      refine r_istore_n O [(2, .int x31), (0, .ref l0), (1, .int l1), (3, .int l3), (4, .int l4), (6, .int l6), (7, .int l7), (8, .int l8)] dX5_nearestRead_101 (by decide) rfl ?_
      refine r_iinc O 7 [(8, .int (l8 + 1)), (2, .int x31), (0, .ref l0), (1, .int l1), (3, .int l3), (4, .int l4), (6, .int l6), (7, .int l7)] dX5_nearestRead_102 rfl rfl (by decide) rfl ?_
      refine r_goto (tgt := 65) O dX5_nearestRead_105 (by decide) ?_
      refine AW.sub [2, 3, 1, 4, 5, 6, 7, 0] rfl ?_
      exact ih _ _ hf
set_option maxRecDepth 100000 in
set_option maxHeartbeats 4000000 in
theorem s_X5_nearestRead_14 {p : Program} {l : Launch} {e : Env} {s : State} {m : MethodId} {args : Array Value} {below : List Frame} {meth : Method} {c : Code} {G : GT} {Q : State → Prop} (O : OkC p l s m args meth c G cX5_nearestRead 9 RX5) {l0 : Nat} {l1 : Int32} {l3 : Int32} {h : AH} {w2 : Int32} (kk : AW p l e { frames := 3, cells := 0, slots := 0, locals := 67 } s m args below meth c G 9 Q h 0 0 143 [(2, .int w2)] []) : ∀ (n : Nat), ∀ (l2 : Int32) (l4 : Int32), f_X5_nearestRead_14 l0 l1 l3 n h l2 l4 = some w2 → AW p l e { frames := 3, cells := 0, slots := 0, locals := 67 } s m args below meth c G 9 Q h 0 0 14 [(0, .ref l0), (1, .int l1), (2, .int l2), (3, .int l3), (4, .int l4)] [] := by
  intro n
  induction n with
  | zero =>
    intro l2 l4 hf
    simp [f_X5_nearestRead_14] at hf
  | succ n ih =>
    intro l2 l4 hf
    unfold f_X5_nearestRead_14 at hf
    refine r_iload O 4 dX5_nearestRead_14 rfl ?_
    refine r_iload_n O 3 dX5_nearestRead_16 rfl ?_
    by_cases hc : l3 ≤ l4
    · rw [if_pos hc] at hf
      refine r_icmp_ge_t (tgt := 143) O dX5_nearestRead_17 (by decide) hc ?_
      obtain rfl := oi1 hf
      refine AW.sub [2] rfl ?_
      exact kk
    · rw [if_neg hc] at hf
      refine r_icmp_ge_f (tgt := 143) O dX5_nearestRead_17 (by decide) hc ?_
      refine r_aload_n O 0 dX5_nearestRead_20 rfl (Or.inl rfl) ?_
      obtain ⟨x4, ex4, hf⟩ := bnd hf
      refine r_gP O cf5 0 (by decide) rfl fl_X5_50 ex4 dX5_nearestRead_21 ?_
      refine r_iload_n O 1 dX5_nearestRead_24 rfl ?_
      refine r_iload O 4 dX5_nearestRead_25 rfl ?_
      obtain ⟨x5, ex5, hf⟩ := bnd hf
      refine r_callV (av := [.int l1, .int l4]) (st := []) O (c_X0_codeOf ex5) mf_X0_codeOf cf0 (kd_X0_codeOf ex5) ml_X5_104 mi_X0_codeOf mv_X0_codeOf (by decide) (Nat.le_of_ble_eq_true rfl) (by decide) dX5_nearestRead_27 ?_
      refine r_istore O [(5, .int x5), (0, .ref l0), (1, .int l1), (2, .int l2), (3, .int l3), (4, .int l4)] dX5_nearestRead_30 (by decide) rfl ?_
      refine r_aload_n O 1 dX5_nearestRead_32 rfl (Or.inl rfl) ?_
      obtain ⟨x7, ex7, hf⟩ := bnd hf
      refine r_gP O cf5 0 (by decide) rfl fl_X5_50 ex7 dX5_nearestRead_33 ?_
      refine r_iload_n O 2 dX5_nearestRead_36 rfl ?_
      refine r_iload O 5 dX5_nearestRead_37 rfl ?_
      obtain ⟨x8, ex8, hf⟩ := bnd hf
      refine r_callV (av := [.int l1, .int l4]) (st := []) O (c_X0_valueOf ex8) mf_X0_valueOf cf0 (kd_X0_valueOf ex8) ml_X5_108 mi_X0_valueOf mv_X0_valueOf (by decide) (Nat.le_of_ble_eq_true rfl) (by decide) dX5_nearestRead_39 ?_
      refine r_istore O [(6, .int x8), (5, .int x5), (0, .ref l0), (1, .int l1), (2, .int l2), (3, .int l3), (4, .int l4)] dX5_nearestRead_42 (by decide) rfl ?_
      refine r_iload O 1 dX5_nearestRead_44 rfl ?_
      obtain ⟨x10, ex10, hf⟩ := bnd hf
      refine r_callSN (av := [.int x5]) (st := []) O (c_X8_isOverAll ex10) mf_X8_isOverAll mn_X5_111 ms_X8_isOverAll (by decide) (Nat.le_of_ble_eq_true rfl) (by decide) dX5_nearestRead_46 ?_
      obtain ⟨x12, hg, hf⟩ := bnd hf
      have hJ : AW p l e { frames := 3, cells := 0, slots := 0, locals := 67 } s m args below meth c G 9 Q h 0 0 137 [(0, .ref l0), (1, .int l1), (2, .int x12), (3, .int l3), (4, .int l4)] [] := by
        refine r_iinc O 4 [(4, .int (l4 + 1)), (0, .ref l0), (1, .int l1), (2, .int x12), (3, .int l3)] dX5_nearestRead_137 rfl rfl (by decide) rfl ?_
        refine r_goto (tgt := 14) O dX5_nearestRead_140 (by decide) ?_
        refine AW.sub [1, 2, 3, 4, 0] rfl ?_
        exact ih _ _ hf
      clear hf
      have hf := hg
      clear hg
      by_cases hc : x10 = 0
      · rw [if_pos hc] at hf
        refine r_if_eq_t (tgt := 111) O dX5_nearestRead_49 (by decide) hc ?_
        refine r_iload O 1 dX5_nearestRead_111 rfl ?_
        obtain ⟨x13, ex13, hf⟩ := bnd hf
        refine r_callSN (av := [.int x5]) (st := []) O (c_X8_isOverOne ex13) mf_X8_isOverOne mn_X5_130 ms_X8_isOverOne (by decide) (Nat.le_of_ble_eq_true rfl) (by decide) dX5_nearestRead_113 ?_
        by_cases hc : x13 = 0
        · rw [if_pos hc] at hf
          refine r_if_eq_t (tgt := 137) O dX5_nearestRead_116 (by decide) hc ?_
          obtain rfl := oi1 hf
          refine AW.sub [2, 3, 4, 5, 6] rfl ?_
          exact hJ
        · rw [if_neg hc] at hf
          refine r_if_eq_f (tgt := 137) O dX5_nearestRead_116 (by decide) hc ?_
          refine r_aload_n O 2 dX5_nearestRead_119 rfl (Or.inl rfl) ?_
          refine r_iload_n O 4 dX5_nearestRead_120 rfl ?_
          refine r_aload_n O 2 dX5_nearestRead_121 rfl (Or.inl rfl) ?_
          obtain ⟨x15, ex15, hf⟩ := bnd hf
          refine r_gP O cf5 12 (by decide) rfl fl_X5_54 ex15 dX5_nearestRead_122 ?_
          refine r_iload_n O 3 dX5_nearestRead_125 rfl ?_
          refine r_iload O 1 dX5_nearestRead_126 rfl ?_
          refine r_iload O 0 dX5_nearestRead_128 rfl ?_
          obtain ⟨x16, ex16, hf⟩ := bnd hf
          refine r_callV (av := [.int l1, .int x5, .int x8]) (st := [.int l2, .ref l0]) O (c_X4_shadowSeen ex16) mf_X4_shadowSeen cf4 (kd_X4_shadowSeen ex16) ml_X5_133 mi_X4_shadowSeen mv_X4_shadowSeen (by decide) (Nat.le_of_ble_eq_true rfl) (by decide) dX5_nearestRead_130 ?_
          obtain ⟨x18, ex18, hf⟩ := bnd hf
          refine r_callV (av := [.int l2, .int x16]) (st := []) O (c_X5_nearer ex18) mf_X5_nearer cf5 (kd_X5_nearer ex18) ml_X5_197 mi_X5_nearer mv_X5_nearer (by decide) (Nat.le_of_ble_eq_true rfl) (by decide) dX5_nearestRead_133 ?_
          refine r_istore_n O [(2, .int x18), (6, .int x8), (5, .int x5), (0, .ref l0), (1, .int l1), (3, .int l3), (4, .int l4)] dX5_nearestRead_136 (by decide) rfl ?_
          obtain rfl := oi1 hf
          refine AW.sub [3, 4, 0, 5, 6] rfl ?_
          exact hJ
      · rw [if_neg hc] at hf
        refine r_if_eq_f (tgt := 111) O dX5_nearestRead_49 (by decide) hc ?_
        refine r_aload_n O 2 dX5_nearestRead_52 rfl (Or.inl rfl) ?_
        obtain ⟨x20, ex20, hf⟩ := bnd hf
        refine r_gP O cf5 12 (by decide) rfl fl_X5_54 ex20 dX5_nearestRead_53 ?_
        refine r_iload_n O 3 dX5_nearestRead_56 rfl ?_
        obtain ⟨x21, ex21, hf⟩ := bnd hf
        refine r_callV (av := [.int l1]) (st := []) O (c_X4_listOf ex21) mf_X4_listOf cf4 (kd_X4_listOf ex21) ml_X5_114 mi_X4_listOf mv_X4_listOf (by decide) (Nat.le_of_ble_eq_true rfl) (by decide) dX5_nearestRead_57 ?_
        refine r_istore O [(7, .int x21), (6, .int x8), (5, .int x5), (0, .ref l0), (1, .int l1), (2, .int l2), (3, .int l3), (4, .int l4)] dX5_nearestRead_60 (by decide) rfl ?_
        refine r_iconst O (v := 0) dX5_nearestRead_62 (by decide) ?_
        refine r_istore O [(8, .int 0), (7, .int x21), (6, .int x8), (5, .int x5), (0, .ref l0), (1, .int l1), (2, .int l2), (3, .int l3), (4, .int l4)] dX5_nearestRead_63 (by decide) rfl ?_
        obtain ⟨x33, hw, hf⟩ := bnd hf
        refine AW.sub [4, 5, 6, 7, 8, 2, 1, 0] rfl ?_
        refine s_X5_nearestRead_65 O ?_ _ _ _ hw
        refine r_goto (tgt := 137) O dX5_nearestRead_108 (by decide) ?_
        obtain rfl := oi1 hf
        refine AW.sub [0, 1, 2, 3, 4] rfl ?_
        exact hJ
theorem kd_X5_nearestRead {h : AH} {a0 : Nat} {a1 : Int32} {r : Int32} (hf : f_X5_nearestRead h a0 a1 = some r) : aK h a0 = 5 := by
  unfold f_X5_nearestRead at hf
  exact (ifk hf).1
set_option maxRecDepth 100000 in
set_option maxHeartbeats 4000000 in
theorem c_X5_nearestRead {l : Launch} {G : GT} {h : AH} {a0 : Nat} {a1 : Int32} {r : Int32} (hf : f_X5_nearestRead h a0 a1 = some r) : Cn l yX5_nearestRead cX5_nearestRead 9 (some .int) 3 67 0 0 G h [.ref a0, .int a1] (.ok (some (.int r))) h := by
  refine Cn.of (by decide) (Nat.le_of_ble_eq_true rfl) ?_
  intro p e s m args below meth c O hr hx hin
  have O : OkC p l s m args meth c G cX5_nearestRead 9 RX5 := O
  unfold f_X5_nearestRead at hf
  obtain ⟨hk0, hf⟩ := ifk hf
  refine AW.sub (lv' := [(0, .ref a0), (1, .int a1)]) [0, 1] rfl ?_
  refine r_iconst O (v := -1) dX5_nearestRead_0 (by decide) ?_
  refine r_istore_n O [(2, .int (-1)), (0, .ref a0), (1, .int a1)] dX5_nearestRead_1 (by decide) rfl ?_
  refine r_aload_n O 1 dX5_nearestRead_2 rfl (Or.inl rfl) ?_
  obtain ⟨x1, ex1, hf⟩ := bnd hf
  refine r_gP O cf5 0 (by decide) rfl fl_X5_50 ex1 dX5_nearestRead_3 ?_
  refine r_iload_n O 2 dX5_nearestRead_6 rfl ?_
  obtain ⟨x2, ex2, hf⟩ := bnd hf
  refine r_callV (av := [.int a1]) (st := []) O (c_X0_stepsOf ex2) mf_X0_stepsOf cf0 (kd_X0_stepsOf ex2) ml_X5_100 mi_X0_stepsOf mv_X0_stepsOf (by decide) (Nat.le_of_ble_eq_true rfl) (by decide) dX5_nearestRead_7 ?_
  refine r_istore_n O [(3, .int x2), (2, .int (-1)), (0, .ref a0), (1, .int a1)] dX5_nearestRead_10 (by decide) rfl ?_
  refine r_iconst O (v := 0) dX5_nearestRead_11 (by decide) ?_
  refine r_istore O [(4, .int 0), (3, .int x2), (2, .int (-1)), (0, .ref a0), (1, .int a1)] dX5_nearestRead_12 (by decide) rfl ?_
  obtain ⟨x34, hw, hf⟩ := bnd hf
  refine AW.sub [3, 4, 2, 1, 0] rfl ?_
  refine s_X5_nearestRead_14 O ?_ _ _ _ hw
  refine r_iload_n O 0 dX5_nearestRead_143 rfl ?_
  obtain rfl := Option.some.inj hf
  exact r_iret O hr rfl rfl (by decide) (by decide) dX5_nearestRead_144
