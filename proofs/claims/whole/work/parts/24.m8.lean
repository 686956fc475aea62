def f_X4_copyFrom (h : AH) (a0 : Nat) (a1 : Nat) : Option AH :=
if aK h a0 = 4 then
Option.bind (gP h 4 a1 0) fun x1 =>
Option.bind (gP h 4 a0 0) fun x2 =>
Option.bind (gP h 4 a0 0) fun x3 =>
Option.bind (aln h x3) fun x4 =>
Option.bind (cpI h x1 0 x2 0 x4) fun h5 =>
Option.bind (gP h5 4 a1 1) fun x6 =>
Option.bind (gP h5 4 a0 1) fun x7 =>
Option.bind (gP h5 4 a0 1) fun x8 =>
Option.bind (aln h5 x8) fun x9 =>
Option.bind (cpI h5 x6 0 x7 0 x9) fun h10 =>
Option.bind (gP h10 4 a1 2) fun x11 =>
Option.bind (gP h10 4 a0 2) fun x12 =>
Option.bind (cpI h10 x11 0 x12 0 40) fun h13 =>
Option.bind (gP h13 4 a1 3) fun x14 =>
Option.bind (gP h13 4 a0 3) fun x15 =>
Option.bind (cpI h13 x14 0 x15 0 40) fun h16 =>
Option.bind (gP h16 4 a1 4) fun x17 =>
Option.bind (gP h16 4 a0 4) fun x18 =>
Option.bind (cpI h16 x17 0 x18 0 40) fun h19 =>
Option.bind (gP h19 4 a1 5) fun x20 =>
Option.bind (gP h19 4 a0 5) fun x21 =>
Option.bind (gP h19 4 a0 5) fun x22 =>
Option.bind (aln h19 x22) fun x23 =>
Option.bind (cpI h19 x20 0 x21 0 x23) fun h24 =>
Option.bind (gP h24 4 a1 6) fun x25 =>
Option.bind (gP h24 4 a0 6) fun x26 =>
Option.bind (cpI h24 x25 0 x26 0 6) fun h27 =>
Option.bind (gP h27 4 a1 7) fun x28 =>
Option.bind (gP h27 4 a0 7) fun x29 =>
Option.bind (cpI h27 x28 0 x29 0 6) fun h30 =>
some h30
else none
theorem kd_X4_copyFrom {h : AH} {a0 : Nat} {a1 : Nat} {r : AH} (hf : f_X4_copyFrom h a0 a1 = some r) : aK h a0 = 4 := by
  unfold f_X4_copyFrom at hf
  exact (ifk hf).1
set_option maxRecDepth 100000 in
set_option maxHeartbeats 4000000 in
theorem c_X4_copyFrom {l : Launch} {G : GT} {h : AH} {a0 : Nat} {a1 : Nat} {r : AH} (hf : f_X4_copyFrom h a0 a1 = some r) : Cn l yX4_copyFrom cX4_copyFrom 2 none 1 48 0 0 G h [.ref a0, .ref a1] (.ok none) r := by
  refine Cn.of (by decide) (Nat.le_of_ble_eq_true rfl) ?_
  intro p e s m args below meth c O hr hx hin
  have O : OkC p l s m args meth c G cX4_copyFrom 2 RX4 := O
  unfold f_X4_copyFrom at hf
  obtain ⟨hk0, hf⟩ := ifk hf
  refine AW.sub (lv' := [(0, .ref a0), (1, .ref a1)]) [0, 1] rfl ?_
  refine r_aload_n O 1 dX4_copyFrom_0 rfl (Or.inl rfl) ?_
  obtain ⟨x1, ex1, hf⟩ := bnd hf
  refine r_gP O cf4 0 (by decide) rfl fl_X4_9 ex1 dX4_copyFrom_1 ?_
  refine r_iconst O (v := 0) dX4_copyFrom_4 (by decide) ?_
  refine r_aload_n O 0 dX4_copyFrom_5 rfl (Or.inl rfl) ?_
  obtain ⟨x2, ex2, hf⟩ := bnd hf
  refine r_gP O cf4 0 (by decide) rfl fl_X4_9 ex2 dX4_copyFrom_6 ?_
  refine r_iconst O (v := 0) dX4_copyFrom_9 (by decide) ?_
  refine r_aload_n O 0 dX4_copyFrom_10 rfl (Or.inl rfl) ?_
  obtain ⟨x3, ex3, hf⟩ := bnd hf
  refine r_gP O cf4 0 (by decide) rfl fl_X4_9 ex3 dX4_copyFrom_11 ?_
  obtain ⟨x4, ex4, hf⟩ := bnd hf
  refine r_aln O ex4 dX4_copyFrom_14 ?_
  obtain ⟨h5, eh5, hf⟩ := bnd hf
  refine r_cpI O eh5 ml_X4_42 (by decide) (Nat.le_of_ble_eq_true rfl) dX4_copyFrom_15 ?_
  refine r_aload_n O 1 dX4_copyFrom_18 rfl (Or.inl rfl) ?_
  obtain ⟨x6, ex6, hf⟩ := bnd hf
  refine r_gP O cf4 1 (by decide) rfl fl_X4_15 ex6 dX4_copyFrom_19 ?_
  refine r_iconst O (v := 0) dX4_copyFrom_22 (by decide) ?_
  refine r_aload_n O 0 dX4_copyFrom_23 rfl (Or.inl rfl) ?_
  obtain ⟨x7, ex7, hf⟩ := bnd hf
  refine r_gP O cf4 1 (by decide) rfl fl_X4_15 ex7 dX4_copyFrom_24 ?_
  refine r_iconst O (v := 0) dX4_copyFrom_27 (by decide) ?_
  refine r_aload_n O 0 dX4_copyFrom_28 rfl (Or.inl rfl) ?_
  obtain ⟨x8, ex8, hf⟩ := bnd hf
  refine r_gP O cf4 1 (by decide) rfl fl_X4_15 ex8 dX4_copyFrom_29 ?_
  obtain ⟨x9, ex9, hf⟩ := bnd hf
  refine r_aln O ex9 dX4_copyFrom_32 ?_
  obtain ⟨h10, eh10, hf⟩ := bnd hf
  refine r_cpI O eh10 ml_X4_42 (by decide) (Nat.le_of_ble_eq_true rfl) dX4_copyFrom_33 ?_
  refine r_aload_n O 1 dX4_copyFrom_36 rfl (Or.inl rfl) ?_
  obtain ⟨x11, ex11, hf⟩ := bnd hf
  refine r_gP O cf4 2 (by decide) rfl fl_X4_18 ex11 dX4_copyFrom_37 ?_
  refine r_iconst O (v := 0) dX4_copyFrom_40 (by decide) ?_
  refine r_aload_n O 0 dX4_copyFrom_41 rfl (Or.inl rfl) ?_
  obtain ⟨x12, ex12, hf⟩ := bnd hf
  refine r_gP O cf4 2 (by decide) rfl fl_X4_18 ex12 dX4_copyFrom_42 ?_
  refine r_iconst O (v := 0) dX4_copyFrom_45 (by decide) ?_
  refine r_bipush O (v := 40) dX4_copyFrom_46 (by decide) ?_
  obtain ⟨h13, eh13, hf⟩ := bnd hf
  refine r_cpI O eh13 ml_X4_42 (by decide) (Nat.le_of_ble_eq_true rfl) dX4_copyFrom_48 ?_
  refine r_aload_n O 1 dX4_copyFrom_51 rfl (Or.inl rfl) ?_
  obtain ⟨x14, ex14, hf⟩ := bnd hf
  refine r_gP O cf4 3 (by decide) rfl fl_X4_21 ex14 dX4_copyFrom_52 ?_
  refine r_iconst O (v := 0) dX4_copyFrom_55 (by decide) ?_
  refine r_aload_n O 0 dX4_copyFrom_56 rfl (Or.inl rfl) ?_
  obtain ⟨x15, ex15, hf⟩ := bnd hf
  refine r_gP O cf4 3 (by decide) rfl fl_X4_21 ex15 dX4_copyFrom_57 ?_
  refine r_iconst O (v := 0) dX4_copyFrom_60 (by decide) ?_
  refine r_bipush O (v := 40) dX4_copyFrom_61 (by decide) ?_
  obtain ⟨h16, eh16, hf⟩ := bnd hf
  refine r_cpI O eh16 ml_X4_42 (by decide) (Nat.le_of_ble_eq_true rfl) dX4_copyFrom_63 ?_
  refine r_aload_n O 1 dX4_copyFrom_66 rfl (Or.inl rfl) ?_
  obtain ⟨x17, ex17, hf⟩ := bnd hf
  refine r_gP O cf4 4 (by decide) rfl fl_X4_24 ex17 dX4_copyFrom_67 ?_
  refine r_iconst O (v := 0) dX4_copyFrom_70 (by decide) ?_
  refine r_aload_n O 0 dX4_copyFrom_71 rfl (Or.inl rfl) ?_
  obtain ⟨x18, ex18, hf⟩ := bnd hf
  refine r_gP O cf4 4 (by decide) rfl fl_X4_24 ex18 dX4_copyFrom_72 ?_
  refine r_iconst O (v := 0) dX4_copyFrom_75 (by decide) ?_
  refine r_bipush O (v := 40) dX4_copyFrom_76 (by decide) ?_
  obtain ⟨h19, eh19, hf⟩ := bnd hf
  refine r_cpI O eh19 ml_X4_42 (by decide) (Nat.le_of_ble_eq_true rfl) dX4_copyFrom_78 ?_
  refine r_aload_n O 1 dX4_copyFrom_81 rfl (Or.inl rfl) ?_
  obtain ⟨x20, ex20, hf⟩ := bnd hf
  refine r_gP O cf4 5 (by decide) rfl fl_X4_27 ex20 dX4_copyFrom_82 ?_
  refine r_iconst O (v := 0) dX4_copyFrom_85 (by decide) ?_
  refine r_aload_n O 0 dX4_copyFrom_86 rfl (Or.inl rfl) ?_
  obtain ⟨x21, ex21, hf⟩ := bnd hf
  refine r_gP O cf4 5 (by decide) rfl fl_X4_27 ex21 dX4_copyFrom_87 ?_
  refine r_iconst O (v := 0) dX4_copyFrom_90 (by decide) ?_
  refine r_aload_n O 0 dX4_copyFrom_91 rfl (Or.inl rfl) ?_
  obtain ⟨x22, ex22, hf⟩ := bnd hf
  refine r_gP O cf4 5 (by decide) rfl fl_X4_27 ex22 dX4_copyFrom_92 ?_
  obtain ⟨x23, ex23, hf⟩ := bnd hf
  refine r_aln O ex23 dX4_copyFrom_95 ?_
  obtain ⟨h24, eh24, hf⟩ := bnd hf
  refine r_cpI O eh24 ml_X4_42 (by decide) (Nat.le_of_ble_eq_true rfl) dX4_copyFrom_96 ?_
  refine r_aload_n O 1 dX4_copyFrom_99 rfl (Or.inl rfl) ?_
  obtain ⟨x25, ex25, hf⟩ := bnd hf
  refine r_gP O cf4 6 (by decide) rfl fl_X4_30 ex25 dX4_copyFrom_100 ?_
  refine r_iconst O (v := 0) dX4_copyFrom_103 (by decide) ?_
  refine r_aload_n O 0 dX4_copyFrom_104 rfl (Or.inl rfl) ?_
  obtain ⟨x26, ex26, hf⟩ := bnd hf
  refine r_gP O cf4 6 (by decide) rfl fl_X4_30 ex26 dX4_copyFrom_105 ?_
  refine r_iconst O (v := 0) dX4_copyFrom_108 (by decide) ?_
  refine r_bipush O (v := 6) dX4_copyFrom_109 (by decide) ?_
  obtain ⟨h27, eh27, hf⟩ := bnd hf
  refine r_cpI O eh27 ml_X4_42 (by decide) (Nat.le_of_ble_eq_true rfl) dX4_copyFrom_111 ?_
  refine r_aload_n O 1 dX4_copyFrom_114 rfl (Or.inl rfl) ?_
  obtain ⟨x28, ex28, hf⟩ := bnd hf
  refine r_gP O cf4 7 (by decide) rfl fl_X4_33 ex28 dX4_copyFrom_115 ?_
  refine r_iconst O (v := 0) dX4_copyFrom_118 (by decide) ?_
  refine r_aload_n O 0 dX4_copyFrom_119 rfl (Or.inl rfl) ?_
  obtain ⟨x29, ex29, hf⟩ := bnd hf
  refine r_gP O cf4 7 (by decide) rfl fl_X4_33 ex29 dX4_copyFrom_120 ?_
  refine r_iconst O (v := 0) dX4_copyFrom_123 (by decide) ?_
  refine r_bipush O (v := 6) dX4_copyFrom_124 (by decide) ?_
  obtain ⟨h30, eh30, hf⟩ := bnd hf
  refine r_cpI O eh30 ml_X4_42 (by decide) (Nat.le_of_ble_eq_true rfl) dX4_copyFrom_126 ?_
  obtain rfl := Option.some.inj hf
  exact r_vret O hr rfl rfl (by decide) (by decide) dX4_copyFrom_129
def f_X2_init (h : AH) (a0 : Nat) : Option AH :=
Option.bind (some (nw h 4 0)) fun h1 =>
Option.bind (f_X4_init h1 (aN h)) fun h3 =>
Option.bind (pP h3 2 a0 0 (aN h)) fun h4 =>
Option.bind (some (nw h4 11 258)) fun h5 =>
Option.bind (pP h5 2 a0 1 (aN h4)) fun h6 =>
some h6
set_option maxRecDepth 100000 in
set_option maxHeartbeats 4000000 in
theorem c_X2_init {l : Launch} {G : GT} {h : AH} {a0 : Nat} {r : AH} (hf : f_X2_init h a0 = some r) : Cn l yX2_init cX2_init 1 none 2 43 10 810 G h [.ref a0] (.ok none) r := by
  refine Cn.of (by decide) (Nat.le_of_ble_eq_true rfl) ?_
  intro p e s m args below meth c O hr hx hin
  have O : OkC p l s m args meth c G cX2_init 1 RX2 := O
  unfold f_X2_init at hf
  refine AW.sub (lv' := [(0, .ref a0)]) [0] rfl ?_
  refine r_aload_n O 0 dX2_init_0 rfl (Or.inl rfl) ?_
  refine r_objInit O ml_X2_3 (by decide) (by decide) (Nat.le_of_ble_eq_true rfl) dX2_init_1 ?_
  refine r_aload_n O 0 dX2_init_4 rfl (Or.inl rfl) ?_
  obtain ⟨h1, eh1, hf⟩ := bnd hf
  refine r_new O cf4 kl_X2_9 (by decide) (by decide) dX2_init_5 ?_
  rw [Option.some.inj eh1]
  refine r_dup O dX2_init_8 rfl ?_
  obtain ⟨h3, eh3, hf⟩ := bnd hf
  refine r_callI (av := []) (st := [.ref (aN h), .ref a0]) O (c_X4_init eh3) mf_X4_init rfl ml_X2_11 mi_X4_init (by decide) (Nat.le_of_ble_eq_true rfl) (by decide) dX2_init_9 ?_
  obtain ⟨h4, eh4, hf⟩ := bnd hf
  refine r_pPF O hin cf2 0 (by decide) rfl fl_X2_12 rfl rfl eh4 dX2_init_12 ?_
  refine r_aload_n O 0 dX2_init_15 rfl (Or.inl rfl) ?_
  refine r_sipush O (v := 258) dX2_init_16 (by decide) ?_
  obtain ⟨h5, eh5, hf⟩ := bnd hf
  refine r_newJ O waJ (len := 258) (by decide) (by decide) (by decide) (by decide) (by decide) dX2_init_19 ?_
  rw [Option.some.inj eh5]
  obtain ⟨h6, eh6, hf⟩ := bnd hf
  refine r_pPF O hin cf2 1 (by decide) rfl fl_X2_18 rfl rfl eh6 dX2_init_21 ?_
  obtain rfl := Option.some.inj hf
  exact r_vret O hr rfl rfl (by decide) (by decide) dX2_init_24
def f_X3_keep (h : AH) (a0 : Nat) (a1 : Nat) (a2 : Nat) : Option AH :=
if aK h a0 = 3 then
Option.bind (gI h 3 a0 2) fun x1 =>
Option.bind (if x1 = 60 then
Option.bind (gI h 3 a0 1) fun x3 =>
Option.bind (pI h 3 a0 1 ((x3 + 1) - (x3 + 1) / 60 * 60)) fun h4 =>
Option.bind (gI h4 3 a0 2) fun x5 =>
Option.bind (pI h4 3 a0 2 (x5 - 1)) fun h6 =>
some h6
else
some h) fun h2 =>
Option.bind (gI h2 3 a0 1) fun x7 =>
Option.bind (gI h2 3 a0 2) fun x8 =>
Option.bind (some ((x7 + x8) - (x7 + x8) / 60 * 60)) fun x9 =>
Option.bind (gP h2 3 a0 0) fun x10 =>
Option.bind (ldP h2 x10 x9) fun x11 =>
Option.bind (match x11 with
| none =>
Option.bind (gP h2 3 a0 0) fun x14 =>
Option.bind (some (nw h2 2 0)) fun h15 =>
Option.bind (f_X2_init h15 (aN h2)) fun h17 =>
Option.bind (stP h17 x14 x9 (aN h2)) fun h18 =>
some h18
| some x13 =>
some h2) fun h12 =>
Option.bind (gP h12 3 a0 0) fun x19 =>
Option.bind (ldP h12 x19 x9) fun x20 =>
Option.bind x20 fun x21 =>
Option.bind (gP h12 2 x21 0) fun x22 =>
Option.bind (f_X4_copyFrom h12 x22 a1) fun h24 =>
Option.bind (gP h24 3 a0 0) fun x25 =>
Option.bind (ldP h24 x25 x9) fun x26 =>
Option.bind x26 fun x27 =>
Option.bind (gP h24 2 x27 1) fun x28 =>
Option.bind (cpJ h24 a2 0 x28 0 258) fun h29 =>
Option.bind (gI h29 3 a0 2) fun x30 =>
Option.bind (pI h29 3 a0 2 (x30 + 1)) fun h31 =>
some h31
else none
theorem kd_X3_keep {h : AH} {a0 : Nat} {a1 : Nat} {a2 : Nat} {r : AH} (hf : f_X3_keep h a0 a1 a2 = some r) : aK h a0 = 3 := by
  unfold f_X3_keep at hf
  exact (ifk hf).1
set_option maxRecDepth 100000 in
set_option maxHeartbeats 4000000 in
theorem c_X3_keep {l : Launch} {G : GT} {h : AH} {a0 : Nat} {a1 : Nat} {a2 : Nat} {r : AH} (hf : f_X3_keep h a0 a1 a2 = some r) : Cn l yX3_keep cX3_keep 4 none 3 69 11 812 G h [.ref a0, .ref a1, .ref a2] (.ok none) r := by
  refine Cn.of (by decide) (Nat.le_of_ble_eq_true rfl) ?_
  intro p e s m args below meth c O hr hx hin
  have O : OkC p l s m args meth c G cX3_keep 4 RX3 := O
  unfold f_X3_keep at hf
  obtain ⟨hk0, hf⟩ := ifk hf
  refine AW.sub (lv' := [(0, .ref a0), (1, .ref a1), (2, .ref a2)]) [0, 1, 2] rfl ?_
  refine r_aload_n O 0 dX3_keep_0 rfl (Or.inl rfl) ?_
  obtain ⟨x1, ex1, hf⟩ := bnd hf
  refine r_gI O cf3 2 (by decide) rfl fl_X3_17 ex1 dX3_keep_1 ?_
  refine r_bipush O (v := 60) dX3_keep_4 (by decide) ?_
  obtain ⟨h2, hg, hf⟩ := bnd hf
  have hJ : AW p l e { frames := 3, cells := 11, slots := 812, locals := 69 } s m args below meth c G 4 (vx_MQ below (QcN G (.ok none) r) (XcN G (.ok none) r) args s 11 812 (gA G)) h2 0 0 32 [(0, .ref a0), (1, .ref a1), (2, .ref a2)] [] := by
    refine r_aload_n O 0 dX3_keep_32 rfl (Or.inl rfl) ?_
    obtain ⟨x7, ex7, hf⟩ := bnd hf
    refine r_gI O cf3 1 (by decide) rfl fl_X3_21 ex7 dX3_keep_33 ?_
    refine r_aload_n O 0 dX3_keep_36 rfl (Or.inl rfl) ?_
    obtain ⟨x8, ex8, hf⟩ := bnd hf
    refine r_gI O cf3 2 (by decide) rfl fl_X3_17 ex8 dX3_keep_37 ?_
    refine r_iadd O dX3_keep_40 ?_
    refine r_bipush O (v := 60) dX3_keep_41 (by decide) ?_
    refine r_irem O dX3_keep_43 (by decide) ?_
    obtain ⟨x9, ex9, hf⟩ := bnd hf
    refine r_nmI (Option.some.inj ex9) ?_
    refine r_istore_n O [(3, .int x9), (0, .ref a0), (1, .ref a1), (2, .ref a2)] dX3_keep_44 (by decide) rfl ?_
    refine r_aload_n O 1 dX3_keep_45 rfl (Or.inl rfl) ?_
    obtain ⟨x10, ex10, hf⟩ := bnd hf
    refine r_gP O cf3 0 (by decide) rfl fl_X3_11 ex10 dX3_keep_46 ?_
    refine r_iload_n O 0 dX3_keep_49 rfl ?_
    obtain ⟨x11, ex11, hf⟩ := bnd hf
    refine r_ldP O ex11 dX3_keep_50 ?_
    obtain ⟨h12, hg, hf⟩ := bnd hf
    have hJ : AW p l e { frames := 3, cells := 11, slots := 812, locals := 69 } s m args below meth c G 4 (vx_MQ below (QcN G (.ok none) r) (XcN G (.ok none) r) args s 11 812 (gA G)) h12 11 812 67 [(0, .ref a0), (1, .ref a1), (2, .ref a2), (3, .int x9)] [] := by
      refine r_aload_n O 0 dX3_keep_67 rfl (Or.inl rfl) ?_
      obtain ⟨x19, ex19, hf⟩ := bnd hf
      refine r_gP O cf3 0 (by decide) rfl fl_X3_11 ex19 dX3_keep_68 ?_
      refine r_iload_n O 3 dX3_keep_71 rfl ?_
      obtain ⟨x20, ex20, hf⟩ := bnd hf
      refine r_ldP O ex20 dX3_keep_72 ?_
      obtain ⟨x21, ex21, hf⟩ := bnd hf
      rw [ex21]
      dsimp only [rf]
      obtain ⟨x22, ex22, hf⟩ := bnd hf
      refine r_gP O cf2 0 (by decide) rfl fl_X3_25 ex22 dX3_keep_73 ?_
      refine r_aload_n O 1 dX3_keep_76 rfl (Or.inl rfl) ?_
      obtain ⟨h24, eh24, hf⟩ := bnd hf
      refine r_callV (av := [.ref a1]) (st := []) O (c_X4_copyFrom eh24) mf_X4_copyFrom cf4 (kd_X4_copyFrom eh24) ml_X3_29 mi_X4_copyFrom mv_X4_copyFrom (by decide) (Nat.le_of_ble_eq_true rfl) (by decide) dX3_keep_77 ?_
      refine r_aload_n O 2 dX3_keep_80 rfl (Or.inl rfl) ?_
      refine r_iconst O (v := 0) dX3_keep_81 (by decide) ?_
      refine r_aload_n O 0 dX3_keep_82 rfl (Or.inl rfl) ?_
      obtain ⟨x25, ex25, hf⟩ := bnd hf
      refine r_gP O cf3 0 (by decide) rfl fl_X3_11 ex25 dX3_keep_83 ?_
      refine r_iload_n O 3 dX3_keep_86 rfl ?_
      obtain ⟨x26, ex26, hf⟩ := bnd hf
      refine r_ldP O ex26 dX3_keep_87 ?_
      obtain ⟨x27, ex27, hf⟩ := bnd hf
      rw [ex27]
      dsimp only [rf]
      obtain ⟨x28, ex28, hf⟩ := bnd hf
      refine r_gP O cf2 1 (by decide) rfl fl_X3_35 ex28 dX3_keep_88 ?_
      refine r_iconst O (v := 0) dX3_keep_91 (by decide) ?_
      refine r_sipush O (v := 258) dX3_keep_92 (by decide) ?_
      obtain ⟨h29, eh29, hf⟩ := bnd hf
      refine r_cpJ O eh29 ml_X3_39 (by decide) (Nat.le_of_ble_eq_true rfl) dX3_keep_95 ?_
      refine r_aload_n O 0 dX3_keep_98 rfl (Or.inl rfl) ?_
      refine r_dup O dX3_keep_99 rfl ?_
      obtain ⟨x30, ex30, hf⟩ := bnd hf
      refine r_gI O cf3 2 (by decide) rfl fl_X3_17 ex30 dX3_keep_100 ?_
      refine r_iconst O (v := 1) dX3_keep_103 (by decide) ?_
      refine r_iadd O dX3_keep_104 ?_
      obtain ⟨h31, eh31, hf⟩ := bnd hf
      refine r_pI O cf3 2 (by decide) rfl fl_X3_17 rfl eh31 dX3_keep_105 ?_
      obtain rfl := Option.some.inj hf
      exact r_vret O hr rfl rfl (by decide) (by decide) dX3_keep_108
    clear hf
    have hf := hg
    clear hg
    cases x11 with
    | none =>
      dsimp only [rf] at hf ⊢
      refine r_ifnonnull_f (tgt := 67) O dX3_keep_51 (by decide) ?_
      refine r_aload_n O 1 dX3_keep_54 rfl (Or.inl rfl) ?_
      obtain ⟨x14, ex14, hf⟩ := bnd hf
      refine r_gP O cf3 0 (by decide) rfl fl_X3_11 ex14 dX3_keep_55 ?_
      refine r_iload_n O 0 dX3_keep_58 rfl ?_
      obtain ⟨h15, eh15, hf⟩ := bnd hf
      refine r_new O cf2 kl_X3_9 (by decide) (by decide) dX3_keep_59 ?_
      rw [Option.some.inj eh15]
      refine r_dup O dX3_keep_62 rfl ?_
      obtain ⟨h17, eh17, hf⟩ := bnd hf
      refine r_callIN (av := []) (st := [.ref (aN h2), .int x9, .ref x14]) O (c_X2_init eh17) mf_X2_init rfl mn_X3_24 mi_X2_init (by decide) (Nat.le_of_ble_eq_true rfl) (by decide) dX3_keep_63 ?_
      obtain ⟨h18, eh18, hf⟩ := bnd hf
      refine r_stP O eh18 dX3_keep_66 ?_
      obtain rfl := oi1 hf
      refine AW.sub [1, 2, 3, 0] rfl ?_
      exact hJ
    | some x13 =>
      dsimp only [rf] at hf ⊢
      refine r_ifnonnull_t (tgt := 67) O dX3_keep_51 (by decide) ?_
      obtain rfl := oi1 hf
      refine AW.widen (k' := 11) (n' := 812) (by decide) (by decide) (AW.sub [1, 2, 3, 0] rfl ?_)
      exact hJ
  clear hf
  have hf := hg
  clear hg
  by_cases hc : x1 = 60
  · rw [if_pos hc] at hf
    refine r_icmp_ne_f (tgt := 32) O dX3_keep_6 (by decide) hc ?_
    refine r_aload_n O 0 dX3_keep_9 rfl (Or.inl rfl) ?_
    refine r_aload_n O 0 dX3_keep_10 rfl (Or.inl rfl) ?_
    obtain ⟨x3, ex3, hf⟩ := bnd hf
    refine r_gI O cf3 1 (by decide) rfl fl_X3_21 ex3 dX3_keep_11 ?_
    refine r_iconst O (v := 1) dX3_keep_14 (by decide) ?_
    refine r_iadd O dX3_keep_15 ?_
    refine r_bipush O (v := 60) dX3_keep_16 (by decide) ?_
    refine r_irem O dX3_keep_18 (by decide) ?_
    obtain ⟨h4, eh4, hf⟩ := bnd hf
    refine r_pI O cf3 1 (by decide) rfl fl_X3_21 rfl eh4 dX3_keep_19 ?_
    refine r_aload_n O 0 dX3_keep_22 rfl (Or.inl rfl) ?_
    refine r_dup O dX3_keep_23 rfl ?_
    obtain ⟨x5, ex5, hf⟩ := bnd hf
    refine r_gI O cf3 2 (by decide) rfl fl_X3_17 ex5 dX3_keep_24 ?_
    refine r_iconst O (v := 1) dX3_keep_27 (by decide) ?_
    refine r_isub O dX3_keep_28 ?_
    obtain ⟨h6, eh6, hf⟩ := bnd hf
    refine r_pI O cf3 2 (by decide) rfl fl_X3_17 rfl eh6 dX3_keep_29 ?_
    obtain rfl := oi1 hf
    refine AW.sub [0, 1, 2] rfl ?_
    exact hJ
  · rw [if_neg hc] at hf
    refine r_icmp_ne_t (tgt := 32) O dX3_keep_6 (by decide) hc ?_
    obtain rfl := oi1 hf
    refine AW.sub [0, 1, 2] rfl ?_
    exact hJ
def f_X8_settle (h : AH) (a0 : Nat) : Option (Int32 × AH) :=
if aK h a0 = 8 then
Option.bind (gI h 8 a0 9) fun x1 =>
if x1 = 0 then
Option.bind (gP h 8 a0 6) fun x2 =>
Option.bind (gP h 8 a0 2) fun x3 =>
Option.bind (gP h 8 a0 1) fun x4 =>
Option.bind (gP h 8 a0 3) fun x5 =>
Option.bind (f_X1_weigh h x2 x3 x4 x5 0) fun w => match w with
| (x6, h7) =>
if 0 ≤ x6 then
Option.bind (gP h7 8 a0 7) fun x8 =>
Option.bind (gP h7 8 a0 2) fun x9 =>
Option.bind (gP h7 8 a0 3) fun x10 =>
Option.bind (f_X3_keep h7 x8 x9 x10) fun h12 =>
Option.bind (gP h12 8 a0 2) fun x13 =>
Option.bind (gP h12 8 a0 1) fun x14 =>
Option.bind (f_X4_copyFrom h12 x13 x14) fun h16 =>
Option.bind (f_X8_accept h16 a0) fun h18 =>
some (x6, h18)
else
Option.bind (gI h7 8 a0 12) fun x19 =>
Option.bind (pI h7 8 a0 12 (x19 + 1)) fun h20 =>
Option.bind (gP h20 8 a0 1) fun x21 =>
Option.bind (gP h20 8 a0 2) fun x22 =>
Option.bind (f_X4_copyFrom h20 x21 x22) fun h24 =>
some (x6, h24)
else
Option.bind (gI h 8 a0 10) fun x25 =>
Option.bind (pI h 8 a0 10 (x25 + 1)) fun h26 =>
some (0, h26)
else none
theorem kd_X8_settle {h : AH} {a0 : Nat} {r : (Int32 × AH)} (hf : f_X8_settle h a0 = some r) : aK h a0 = 8 := by
  unfold f_X8_settle at hf
  exact (ifk hf).1
set_option maxRecDepth 100000 in
set_option maxHeartbeats 4000000 in
theorem c_X8_settle {l : Launch} {G : GT} {h : AH} {a0 : Nat} {r : (Int32 × AH)} (hf : f_X8_settle h a0 = some r) : Cn l yX8_settle cX8_settle 2 (some .int) 6 149 11 812 G h [.ref a0] (.ok (some (.int r.1))) r.2 := by
  refine Cn.of (by decide) (Nat.le_of_ble_eq_true rfl) ?_
  intro p e s m args below meth c O hr hx hin
  have O : OkC p l s m args meth c G cX8_settle 2 RX8 := O
  unfold f_X8_settle at hf
  obtain ⟨hk0, hf⟩ := ifk hf
  refine AW.sub (lv' := [(0, .ref a0)]) [0] rfl ?_
  refine r_aload_n O 0 dX8_settle_0 rfl (Or.inl rfl) ?_
  obtain ⟨x1, ex1, hf⟩ := bnd hf
  refine r_gI O cf8 9 (by decide) rfl fl_X8_171 ex1 dX8_settle_1 ?_
  by_cases hc : x1 = 0
  · rw [if_pos hc] at hf
    refine r_if_eq_t (tgt := 19) O dX8_settle_4 (by decide) hc ?_
    refine r_aload_n O 0 dX8_settle_19 rfl (Or.inl rfl) ?_
    obtain ⟨x2, ex2, hf⟩ := bnd hf
    refine r_gP O cf8 6 (by decide) rfl fl_X8_45 ex2 dX8_settle_20 ?_
    refine r_aload_n O 0 dX8_settle_23 rfl (Or.inl rfl) ?_
    obtain ⟨x3, ex3, hf⟩ := bnd hf
    refine r_gP O cf8 2 (by decide) rfl fl_X8_23 ex3 dX8_settle_24 ?_
    refine r_aload_n O 0 dX8_settle_27 rfl (Or.inl rfl) ?_
    obtain ⟨x4, ex4, hf⟩ := bnd hf
    refine r_gP O cf8 1 (by decide) rfl fl_X8_19 ex4 dX8_settle_28 ?_
    refine r_aload_n O 0 dX8_settle_31 rfl (Or.inl rfl) ?_
    obtain ⟨x5, ex5, hf⟩ := bnd hf
    refine r_gP O cf8 3 (by decide) rfl fl_X8_26 ex5 dX8_settle_32 ?_
    refine r_iconst O (v := 0) dX8_settle_35 (by decide) ?_
    obtain ⟨⟨x6, h7⟩, ex6, hf⟩ := bnd hf
    dsimp only at hf
    refine r_callV (av := [.ref x3, .ref x4, .ref x5, .int 0]) (st := []) O (c_X1_weigh ex6) mf_X1_weigh cf1 (kd_X1_weigh ex6) ml_X8_100 mi_X1_weigh mv_X1_weigh (by decide) (Nat.le_of_ble_eq_true rfl) (by decide) dX8_settle_36 ?_
    refine r_istore_n O [(1, .int x6), (0, .ref a0)] dX8_settle_39 (by decide) rfl ?_
    refine r_iload_n O 0 dX8_settle_40 rfl ?_
    by_cases hc : 0 ≤ x6
    · rw [if_pos hc] at hf
      refine r_if_ge_t (tgt := 67) O dX8_settle_41 (by decide) hc ?_
      refine r_aload_n O 1 dX8_settle_67 rfl (Or.inl rfl) ?_
      obtain ⟨x8, ex8, hf⟩ := bnd hf
      refine r_gP O cf8 7 (by decide) rfl fl_X8_52 ex8 dX8_settle_68 ?_
      refine r_aload_n O 1 dX8_settle_71 rfl (Or.inl rfl) ?_
      obtain ⟨x9, ex9, hf⟩ := bnd hf
      refine r_gP O cf8 2 (by decide) rfl fl_X8_23 ex9 dX8_settle_72 ?_
      refine r_aload_n O 1 dX8_settle_75 rfl (Or.inl rfl) ?_
      obtain ⟨x10, ex10, hf⟩ := bnd hf
      refine r_gP O cf8 3 (by decide) rfl fl_X8_26 ex10 dX8_settle_76 ?_
      obtain ⟨h12, eh12, hf⟩ := bnd hf
      refine r_callV (av := [.ref x9, .ref x10]) (st := []) O (c_X3_keep eh12) mf_X3_keep cf3 (kd_X3_keep eh12) ml_X8_286 mi_X3_keep mv_X3_keep (by decide) (Nat.le_of_ble_eq_true rfl) (by decide) dX8_settle_79 ?_
      refine r_aload_n O 1 dX8_settle_82 rfl (Or.inl rfl) ?_
      obtain ⟨x13, ex13, hf⟩ := bnd hf
      refine r_gP O cf8 2 (by decide) rfl fl_X8_23 ex13 dX8_settle_83 ?_
      refine r_aload_n O 1 dX8_settle_86 rfl (Or.inl rfl) ?_
      obtain ⟨x14, ex14, hf⟩ := bnd hf
      refine r_gP O cf8 1 (by decide) rfl fl_X8_19 ex14 dX8_settle_87 ?_
      obtain ⟨h16, eh16, hf⟩ := bnd hf
      refine r_callV (av := [.ref x14]) (st := []) O (c_X4_copyFrom eh16) mf_X4_copyFrom cf4 (kd_X4_copyFrom eh16) ml_X8_182 mi_X4_copyFrom mv_X4_copyFrom (by decide) (Nat.le_of_ble_eq_true rfl) (by decide) dX8_settle_90 ?_
      refine r_aload_n O 1 dX8_settle_93 rfl (Or.inl rfl) ?_
      obtain ⟨h18, eh18, hf⟩ := bnd hf
      refine r_callV (av := []) (st := []) O (c_X8_accept eh18) mf_X8_accept cf8 (kd_X8_accept eh18) ml_X8_111 mi_X8_accept mv_X8_accept (by decide) (Nat.le_of_ble_eq_true rfl) (by decide) dX8_settle_94 ?_
      refine r_iload_n O 0 dX8_settle_97 rfl ?_
      obtain rfl := Option.some.inj hf
      exact r_iret O hr rfl rfl (by decide) (by decide) dX8_settle_98
    · rw [if_neg hc] at hf
      refine r_if_ge_f (tgt := 67) O dX8_settle_41 (by decide) hc ?_
      refine r_aload_n O 1 dX8_settle_44 rfl (Or.inl rfl) ?_
      refine r_dup O dX8_settle_45 rfl ?_
      obtain ⟨x19, ex19, hf⟩ := bnd hf
      refine r_gI O cf8 12 (by decide) rfl fl_X8_104 ex19 dX8_settle_46 ?_
      refine r_iconst O (v := 1) dX8_settle_49 (by decide) ?_
      refine r_iadd O dX8_settle_50 ?_
      obtain ⟨h20, eh20, hf⟩ := bnd hf
      refine r_pI O cf8 12 (by decide) rfl fl_X8_104 rfl eh20 dX8_settle_51 ?_
      refine r_aload_n O 1 dX8_settle_54 rfl (Or.inl rfl) ?_
      obtain ⟨x21, ex21, hf⟩ := bnd hf
      refine r_gP O cf8 1 (by decide) rfl fl_X8_19 ex21 dX8_settle_55 ?_
      refine r_aload_n O 1 dX8_settle_58 rfl (Or.inl rfl) ?_
      obtain ⟨x22, ex22, hf⟩ := bnd hf
      refine r_gP O cf8 2 (by decide) rfl fl_X8_23 ex22 dX8_settle_59 ?_
      obtain ⟨h24, eh24, hf⟩ := bnd hf
      refine r_callV (av := [.ref x22]) (st := []) O (c_X4_copyFrom eh24) mf_X4_copyFrom cf4 (kd_X4_copyFrom eh24) ml_X8_182 mi_X4_copyFrom mv_X4_copyFrom (by decide) (Nat.le_of_ble_eq_true rfl) (by decide) dX8_settle_62 ?_
      refine r_iload_n O 0 dX8_settle_65 rfl ?_
      obtain rfl := Option.some.inj hf
      exact r_iret O hr rfl rfl (by decide) (by decide) dX8_settle_66
  · rw [if_neg hc] at hf
    refine r_if_eq_f (tgt := 19) O dX8_settle_4 (by decide) hc ?_
    refine r_aload_n O 0 dX8_settle_7 rfl (Or.inl rfl) ?_
    refine r_dup O dX8_settle_8 rfl ?_
    obtain ⟨x25, ex25, hf⟩ := bnd hf
    refine r_gI O cf8 10 (by decide) rfl fl_X8_179 ex25 dX8_settle_9 ?_
    refine r_iconst O (v := 1) dX8_settle_12 (by decide) ?_
    refine r_iadd O dX8_settle_13 ?_
    obtain ⟨h26, eh26, hf⟩ := bnd hf
    refine r_pI O cf8 10 (by decide) rfl fl_X8_179 rfl eh26 dX8_settle_14 ?_
    refine r_iconst O (v := 0) dX8_settle_17 (by decide) ?_
    obtain rfl := Option.some.inj hf
    exact r_iret O hr rfl rfl (by decide) (by decide) dX8_settle_18
def f_X8_place (h : AH) (a0 : Nat) (a1 : Int32) (a2 : Int32) (a3 : Int32) : Option (Except Nat Int32 × AH) :=
if aK h a0 = 8 then
Option.bind (f_X8_needThing h a0 a1) fun w => match w with
| (.error k9, h2) => some (.error k9, h2)
| (.ok x1, h2) =>
Option.bind (f_X8_needList h2 a0 a2) fun w => match w with
| (.error k9, h4) => some (.error k9, h4)
| (.ok x3, h4) =>
Option.bind (f_X8_needClosedBook h4 a0) fun w => match w with
| (.error k9, h6) => some (.error k9, h6)
| (.ok x5, h6) =>
Option.bind (if a3 < 0 then
some (0 : Int32)
else
Option.bind (gP h6 8 a0 1) fun x8 =>
Option.bind (gP h6 4 x8 6) fun x9 =>
Option.bind (ldI h6 x9 a2) fun x10 =>
if x10 < a3 then
some (0 : Int32)
else
some (1 : Int32)) fun x7 =>
Option.bind (f_X8_need h6 x7) fun w => match w with
| (.error k9, h12) => some (.error k9, h12)
| (.ok x11, h12) =>
Option.bind (gP h12 8 a0 1) fun x13 =>
Option.bind (gP h12 4 x13 3) fun x14 =>
Option.bind (ldI h12 x14 a1) fun x15 =>
if x15 = (-1) then
Option.bind (gP h12 8 a0 1) fun x16 =>
Option.bind (gP h12 4 x16 7) fun x17 =>
Option.bind (ldI h12 x17 a2) fun x18 =>
if x18 ≤ a3 then
Option.bind (gP h12 8 a0 1) fun x19 =>
Option.bind (f_X4_insert h12 x19 a1 a2 a3) fun h21 =>
Option.bind (f_X8_settle h21 a0) fun w => match w with
| (x22, h23) =>
some (.ok x22, h23)
else
some (.ok (-3), h12)
else
some (.ok (-4), h12)
else none
theorem kd_X8_place {h : AH} {a0 : Nat} {a1 : Int32} {a2 : Int32} {a3 : Int32} {r : (Except Nat Int32 × AH)} (hf : f_X8_place h a0 a1 a2 a3 = some r) : aK h a0 = 8 := by
  unfold f_X8_place at hf
  exact (ifk hf).1
set_option maxRecDepth 100000 in
set_option maxHeartbeats 4000000 in
theorem c_X8_place {l : Launch} {G : GT} {h : AH} {a0 : Nat} {a1 : Int32} {a2 : Int32} {a3 : Int32} {r : (Except Nat Int32 × AH)} (hf : f_X8_place h a0 a1 a2 a3 = some r) : Cn l yX8_place cX8_place 4 (some .int) 7 170 15 836 G h [.ref a0, .int a1, .int a2, .int a3] (r.1.map (fun x => some (.int x))) r.2 := by
  refine Cn.of (by decide) (Nat.le_of_ble_eq_true rfl) ?_
  intro p e s m args below meth c O hr hx hin
  have O : OkC p l s m args meth c G cX8_place 4 RX8 := O
  unfold f_X8_place at hf
  obtain ⟨hk0, hf⟩ := ifk hf
  refine AW.sub (lv' := [(0, .ref a0), (1, .int a1), (2, .int a2), (3, .int a3)]) [0, 1, 2, 3] rfl ?_
  refine r_aload_n O 0 dX8_place_0 rfl (Or.inl rfl) ?_
  refine r_iload_n O 1 dX8_place_1 rfl ?_
  obtain ⟨⟨w, h2⟩, ex1, hf⟩ := bnd hf
  cases w with
  | error k9 =>
    dsimp only at hf
    obtain rfl := Option.some.inj hf
    exact r_thrV (av := [.int a1]) (st := []) O hx (c_X8_needThing ex1) mf_X8_needThing cf8 (kd_X8_needThing ex1) ml_X8_114 mi_X8_needThing mv_X8_needThing (by decide) (Nat.le_of_ble_eq_true rfl) (by decide) (by decide) (by decide) dX8_place_2
  | ok x1 =>
    dsimp only at hf
    refine r_callV (av := [.int a1]) (st := []) O (c_X8_needThing ex1) mf_X8_needThing cf8 (kd_X8_needThing ex1) ml_X8_114 mi_X8_needThing mv_X8_needThing (by decide) (Nat.le_of_ble_eq_true rfl) (by decide) dX8_place_2 ?_
    refine r_aload_n O 0 dX8_place_5 rfl (Or.inl rfl) ?_
    refine r_iload_n O 2 dX8_place_6 rfl ?_
    obtain ⟨⟨w, h4⟩, ex3, hf⟩ := bnd hf
    cases w with
    | error k9 =>
      dsimp only at hf
      obtain rfl := Option.some.inj hf
      exact r_thrV (av := [.int a2]) (st := []) O hx (c_X8_needList ex3) mf_X8_needList cf8 (kd_X8_needList ex3) ml_X8_118 mi_X8_needList mv_X8_needList (by decide) (Nat.le_of_ble_eq_true rfl) (by decide) (by decide) (by decide) dX8_place_7
    | ok x3 =>
      dsimp only at hf
      refine r_callV (av := [.int a2]) (st := []) O (c_X8_needList ex3) mf_X8_needList cf8 (kd_X8_needList ex3) ml_X8_118 mi_X8_needList mv_X8_needList (by decide) (Nat.le_of_ble_eq_true rfl) (by decide) dX8_place_7 ?_
      refine r_aload_n O 0 dX8_place_10 rfl (Or.inl rfl) ?_
      obtain ⟨⟨w, h6⟩, ex5, hf⟩ := bnd hf
      cases w with
      | error k9 =>
        dsimp only at hf
        obtain rfl := Option.some.inj hf
        exact r_thrV (av := []) (st := []) O hx (c_X8_needClosedBook ex5) mf_X8_needClosedBook cf8 (kd_X8_needClosedBook ex5) ml_X8_121 mi_X8_needClosedBook mv_X8_needClosedBook (by decide) (Nat.le_of_ble_eq_true rfl) (by decide) (by decide) (by decide) dX8_place_11
      | ok x5 =>
        dsimp only at hf
        refine r_callV (av := []) (st := []) O (c_X8_needClosedBook ex5) mf_X8_needClosedBook cf8 (kd_X8_needClosedBook ex5) ml_X8_121 mi_X8_needClosedBook mv_X8_needClosedBook (by decide) (Nat.le_of_ble_eq_true rfl) (by decide) dX8_place_11 ?_
        refine r_iload_n O 3 dX8_place_14 rfl ?_
        obtain ⟨x7, hg, hf⟩ := bnd hf
        have hJ : AW p l e { frames := 7, cells := 15, slots := 836, locals := 170 } s m args below meth c G 4 (vx_MQ below (QcN G (r.1.map (fun x => some (.int x))) r.2) (XcN G (r.1.map (fun x => some (.int x))) r.2) args s 15 836 (gA G)) h6 3 18 36 [(0, .ref a0), (1, .int a1), (2, .int a2), (3, .int a3)] [.int x7] := by
          obtain ⟨⟨w, h12⟩, ex11, hf⟩ := bnd hf
          cases w with
          | error k9 =>
            dsimp only at hf
            obtain rfl := Option.some.inj hf
            exact r_thrS (av := [.int x7]) (st := []) O hx (c_X8_need ex11) mf_X8_need ml_X8_92 ms_X8_need (by decide) (Nat.le_of_ble_eq_true rfl) (by decide) (by decide) (by decide) dX8_place_36
          | ok x11 =>
            dsimp only at hf
            refine r_callS (av := [.int x7]) (st := []) O (c_X8_need ex11) mf_X8_need ml_X8_92 ms_X8_need (by decide) (Nat.le_of_ble_eq_true rfl) (by decide) dX8_place_36 ?_
            refine r_aload_n O 0 dX8_place_39 rfl (Or.inl rfl) ?_
            obtain ⟨x13, ex13, hf⟩ := bnd hf
            refine r_gP O cf8 1 (by decide) rfl fl_X8_19 ex13 dX8_place_40 ?_
            obtain ⟨x14, ex14, hf⟩ := bnd hf
            refine r_gP O cf4 3 (by decide) rfl fl_X8_128 ex14 dX8_place_43 ?_
            refine r_iload_n O 1 dX8_place_46 rfl ?_
            obtain ⟨x15, ex15, hf⟩ := bnd hf
            refine r_ldI O ex15 dX8_place_47 ?_
            refine r_iconst O (v := -1) dX8_place_48 (by decide) ?_
            by_cases hc : x15 = (-1)
            · rw [if_pos hc] at hf
              refine r_icmp_eq_t (tgt := 55) O dX8_place_49 (by decide) hc ?_
              refine r_iload_n O 3 dX8_place_55 rfl ?_
              refine r_aload_n O 0 dX8_place_56 rfl (Or.inl rfl) ?_
              obtain ⟨x16, ex16, hf⟩ := bnd hf
              refine r_gP O cf8 1 (by decide) rfl fl_X8_19 ex16 dX8_place_57 ?_
              obtain ⟨x17, ex17, hf⟩ := bnd hf
              refine r_gP O cf4 7 (by decide) rfl fl_X8_131 ex17 dX8_place_60 ?_
              refine r_iload_n O 2 dX8_place_63 rfl ?_
              obtain ⟨x18, ex18, hf⟩ := bnd hf
              refine r_ldI O ex18 dX8_place_64 ?_
              by_cases hc : x18 ≤ a3
              · rw [if_pos hc] at hf
                refine r_icmp_ge_t (tgt := 71) O dX8_place_65 (by decide) hc ?_
                refine r_aload_n O 0 dX8_place_71 rfl (Or.inl rfl) ?_
                obtain ⟨x19, ex19, hf⟩ := bnd hf
                refine r_gP O cf8 1 (by decide) rfl fl_X8_19 ex19 dX8_place_72 ?_
                refine r_iload_n O 1 dX8_place_75 rfl ?_
                refine r_iload_n O 2 dX8_place_76 rfl ?_
                refine r_iload_n O 3 dX8_place_77 rfl ?_
                obtain ⟨h21, eh21, hf⟩ := bnd hf
                refine r_callV (av := [.int a1, .int a2, .int a3]) (st := []) O (c_X4_insert eh21) mf_X4_insert cf4 (kd_X4_insert eh21) ml_X8_134 mi_X4_insert mv_X4_insert (by decide) (Nat.le_of_ble_eq_true rfl) (by decide) dX8_place_78 ?_
                refine r_aload_n O 0 dX8_place_81 rfl (Or.inl rfl) ?_
                obtain ⟨⟨x22, h23⟩, ex22, hf⟩ := bnd hf
                dsimp only at hf
                refine r_callV (av := []) (st := []) O (c_X8_settle ex22) mf_X8_settle cf8 (kd_X8_settle ex22) ml_X8_137 mi_X8_settle mv_X8_settle (by decide) (Nat.le_of_ble_eq_true rfl) (by decide) dX8_place_82 ?_
                obtain rfl := Option.some.inj hf
                exact r_iret O hr rfl rfl (by decide) (by decide) dX8_place_85
              · rw [if_neg hc] at hf
                refine r_icmp_ge_f (tgt := 71) O dX8_place_65 (by decide) hc ?_
                refine r_bipush O (v := -3) dX8_place_68 (by decide) ?_
                obtain rfl := Option.some.inj hf
                exact r_iret O hr rfl rfl (by decide) (by decide) dX8_place_70
            · rw [if_neg hc] at hf
              refine r_icmp_eq_f (tgt := 55) O dX8_place_49 (by decide) hc ?_
              refine r_bipush O (v := -4) dX8_place_52 (by decide) ?_
              obtain rfl := Option.some.inj hf
              exact r_iret O hr rfl rfl (by decide) (by decide) dX8_place_54
        clear hf
        have hf := hg
        clear hg
        by_cases hc : a3 < 0
        · rw [if_pos hc] at hf
          refine r_if_lt_t (tgt := 35) O dX8_place_15 (by decide) hc ?_
          refine r_iconst O (v := 0) dX8_place_35 (by decide) ?_
          obtain rfl := oi1 hf
          refine AW.sub [0, 1, 2, 3] rfl ?_
          exact hJ
        · rw [if_neg hc] at hf
          refine r_if_lt_f (tgt := 35) O dX8_place_15 (by decide) hc ?_
          refine r_iload_n O 3 dX8_place_18 rfl ?_
          refine r_aload_n O 0 dX8_place_19 rfl (Or.inl rfl) ?_
          obtain ⟨x8, ex8, hf⟩ := bnd hf
          refine r_gP O cf8 1 (by decide) rfl fl_X8_19 ex8 dX8_place_20 ?_
          obtain ⟨x9, ex9, hf⟩ := bnd hf
          refine r_gP O cf4 6 (by decide) rfl fl_X8_124 ex9 dX8_place_23 ?_
          refine r_iload_n O 2 dX8_place_26 rfl ?_
          obtain ⟨x10, ex10, hf⟩ := bnd hf
          refine r_ldI O ex10 dX8_place_27 ?_
          by_cases hc : x10 < a3
          · rw [if_pos hc] at hf
            refine r_icmp_gt_t (tgt := 35) O dX8_place_28 (by decide) hc ?_
            refine r_iconst O (v := 0) dX8_place_35 (by decide) ?_
            obtain rfl := oi1 hf
            refine AW.sub [0, 1, 2, 3] rfl ?_
            exact hJ
          · rw [if_neg hc] at hf
            refine r_icmp_gt_f (tgt := 35) O dX8_place_28 (by decide) hc ?_
            refine r_iconst O (v := 1) dX8_place_31 (by decide) ?_
            refine r_goto (tgt := 36) O dX8_place_32 (by decide) ?_
            obtain rfl := oi1 hf
            refine AW.sub [0, 1, 2, 3] rfl ?_
            exact hJ
def f_X4_remove_39 (l0 : Nat) (l1 : Int32) (l2 : Int32) (l3 : Int32) (l4 : Int32) (n : Nat) (h : AH) (l5 : Int32) : Option AH := match n with
| 0 => none
| n + 1 =>
Option.bind (gP h 4 l0 6) fun x8 =>
Option.bind (ldI h x8 l2) fun x9 =>
if x9 ≤ l5 then
some h
else
Option.bind (gP h 4 l0 5) fun x10 =>
Option.bind (gP h 4 l0 5) fun x11 =>
Option.bind (ldI h x11 ((l4 + l5) + 1)) fun x12 =>
Option.bind (stI h x10 (l4 + l5) x12) fun h13 =>
f_X4_remove_39 l0 l1 l2 l3 l4 n h13 (l5 + 1)
def f_X4_remove (h : AH) (a0 : Nat) (a1 : Int32) : Option AH :=
if aK h a0 = 4 then
Option.bind (gP h 4 a0 3) fun x1 =>
Option.bind (ldI h x1 a1) fun x2 =>
if x2 = (-1) then
some h
else
Option.bind (gP h 4 a0 4) fun x3 =>
Option.bind (ldI h x3 a1) fun x4 =>
Option.bind (gP h 4 a0 6) fun x5 =>
Option.bind (ldI h x5 x2) fun x6 =>
Option.bind (stI h x5 x2 (x6 - 1)) fun h7 =>
Option.bind (f_X4_remove_39 a0 a1 x2 x4 (40 * x2) FU h7 x4) fun h14 =>
Option.bind (gP h14 4 a0 3) fun x15 =>
Option.bind (stI h14 x15 a1 (-1)) fun h16 =>
Option.bind (gP h16 4 a0 4) fun x17 =>
Option.bind (stI h16 x17 a1 (-1)) fun h18 =>
Option.bind (f_X4_seat h18 a0 x2 x4) fun h20 =>
some h20
else none
set_option maxRecDepth 100000 in
set_option maxHeartbeats 4000000 in
theorem s_X4_remove_39 {p : Program} {l : Launch} {e : Env} {s : State} {m : MethodId} {args : Array Value} {below : List Frame} {meth : Method} {c : Code} {G : GT} {Q : State → Prop} (O : OkC p l s m args meth c G cX4_remove 6 RX4) {l0 : Nat} {l1 : Int32} {l2 : Int32} {l3 : Int32} {l4 : Int32} {wh : AH} (kk : AW p l e { frames := 1, cells := 0, slots := 0, locals := 24 } s m args below meth c G 6 Q wh 0 0 78 [(0, .ref l0), (1, .int l1), (2, .int l2), (3, .int l3)] []) : ∀ (n : Nat), ∀ (h : AH) (l5 : Int32), f_X4_remove_39 l0 l1 l2 l3 l4 n h l5 = some wh → AW p l e { frames := 1, cells := 0, slots := 0, locals := 24 } s m args below meth c G 6 Q h 0 0 39 [(0, .ref l0), (1, .int l1), (2, .int l2), (3, .int l3), (4, .int l4), (5, .int l5)] [] := by
  intro n
  induction n with
  | zero =>
    intro h l5 hf
    simp [f_X4_remove_39] at hf
  | succ n ih =>
    intro h l5 hf
    unfold f_X4_remove_39 at hf
    refine r_iload O 5 dX4_remove_39 rfl ?_
    refine r_aload_n O 0 dX4_remove_41 rfl (Or.inl rfl) ?_
    obtain ⟨x8, ex8, hf⟩ := bnd hf
    refine r_gP O cf4 6 (by decide) rfl fl_X4_30 ex8 dX4_remove_42 ?_
    refine r_iload_n O 2 dX4_remove_45 rfl ?_
    obtain ⟨x9, ex9, hf⟩ := bnd hf
    refine r_ldI O ex9 dX4_remove_46 ?_
    by_cases hc : x9 ≤ l5
    · rw [if_pos hc] at hf
      refine r_icmp_ge_t (tgt := 78) O dX4_remove_47 (by decide) hc ?_
      obtain rfl := oi1 hf
      refine AW.sub [0, 1, 2, 3] rfl ?_
      exact kk
    · rw [if_neg hc] at hf
      refine r_icmp_ge_f (tgt := 78) O dX4_remove_47 (by decide) hc ?_
      refine r_aload_n O 0 dX4_remove_50 rfl (Or.inl rfl) ?_
      obtain ⟨x10, ex10, hf⟩ := bnd hf
      refine r_gP O cf4 5 (by decide) rfl fl_X4_27 ex10 dX4_remove_51 ?_
      refine r_iload O 4 dX4_remove_54 rfl ?_
      refine r_iload O 5 dX4_remove_56 rfl ?_
      refine r_iadd O dX4_remove_58 ?_
      refine r_aload_n O 0 dX4_remove_59 rfl (Or.inl rfl) ?_
      obtain ⟨x11, ex11, hf⟩ := bnd hf
      refine r_gP O cf4 5 (by decide) rfl fl_X4_27 ex11 dX4_remove_60 ?_
      refine r_iload O 4 dX4_remove_63 rfl ?_
      refine r_iload O 5 dX4_remove_65 rfl ?_
      refine r_iadd O dX4_remove_67 ?_
      refine r_iconst O (v := 1) dX4_remove_68 (by decide) ?_
      refine r_iadd O dX4_remove_69 ?_
      obtain ⟨x12, ex12, hf⟩ := bnd hf
      refine r_ldI O ex12 dX4_remove_70 ?_
      obtain ⟨h13, eh13, hf⟩ := bnd hf
      refine r_stI O eh13 dX4_remove_71 ?_
      refine r_iinc O 5 [(5, .int (l5 + 1)), (0, .ref l0), (1, .int l1), (2, .int l2), (3, .int l3), (4, .int l4)] dX4_remove_72 rfl rfl (by decide) rfl ?_
      refine r_goto (tgt := 39) O dX4_remove_75 (by decide) ?_
      refine AW.sub [1, 2, 3, 4, 5, 0] rfl ?_
      exact ih _ _ hf
theorem kd_X4_remove {h : AH} {a0 : Nat} {a1 : Int32} {r : AH} (hf : f_X4_remove h a0 a1 = some r) : aK h a0 = 4 := by
  unfold f_X4_remove at hf
  exact (ifk hf).1
set_option maxRecDepth 100000 in
set_option maxHeartbeats 4000000 in
theorem c_X4_remove {l : Launch} {G : GT} {h : AH} {a0 : Nat} {a1 : Int32} {r : AH} (hf : f_X4_remove h a0 a1 = some r) : Cn l yX4_remove cX4_remove 6 none 1 24 0 0 G h [.ref a0, .int a1] (.ok none) r := by
  refine Cn.of (by decide) (Nat.le_of_ble_eq_true rfl) ?_
  intro p e s m args below meth c O hr hx hin
  have O : OkC p l s m args meth c G cX4_remove 6 RX4 := O
  unfold f_X4_remove at hf
  obtain ⟨hk0, hf⟩ := ifk hf
  refine AW.sub (lv' := [(0, .ref a0), (1, .int a1)]) [0, 1] rfl ?_
  refine r_aload_n O 0 dX4_remove_0 rfl (Or.inl rfl) ?_
  obtain ⟨x1, ex1, hf⟩ := bnd hf
  refine r_gP O cf4 3 (by decide) rfl fl_X4_21 ex1 dX4_remove_1 ?_
  refine r_iload_n O 1 dX4_remove_4 rfl ?_
  obtain ⟨x2, ex2, hf⟩ := bnd hf
  refine r_ldI O ex2 dX4_remove_5 ?_
  refine r_istore_n O [(2, .int x2), (0, .ref a0), (1, .int a1)] dX4_remove_6 (by decide) rfl ?_
  refine r_iload_n O 0 dX4_remove_7 rfl ?_
  refine r_iconst O (v := -1) dX4_remove_8 (by decide) ?_
  by_cases hc : x2 = (-1)
  · rw [if_pos hc] at hf
    refine r_icmp_ne_f (tgt := 13) O dX4_remove_9 (by decide) hc ?_
    obtain rfl := Option.some.inj hf
    exact r_vret O hr rfl rfl (by decide) (by decide) dX4_remove_12
  · rw [if_neg hc] at hf
    refine r_icmp_ne_t (tgt := 13) O dX4_remove_9 (by decide) hc ?_
    refine r_aload_n O 1 dX4_remove_13 rfl (Or.inl rfl) ?_
    obtain ⟨x3, ex3, hf⟩ := bnd hf
    refine r_gP O cf4 4 (by decide) rfl fl_X4_24 ex3 dX4_remove_14 ?_
    refine r_iload_n O 2 dX4_remove_17 rfl ?_
    obtain ⟨x4, ex4, hf⟩ := bnd hf
    refine r_ldI O ex4 dX4_remove_18 ?_
    refine r_istore_n O [(3, .int x4), (2, .int x2), (0, .ref a0), (1, .int a1)] dX4_remove_19 (by decide) rfl ?_
    refine r_bipush O (v := 40) dX4_remove_20 (by decide) ?_
    refine r_iload_n O 1 dX4_remove_22 rfl ?_
    refine r_imul O dX4_remove_23 ?_
    refine r_istore O [(4, .int (40 * x2)), (3, .int x4), (2, .int x2), (0, .ref a0), (1, .int a1)] dX4_remove_24 (by decide) rfl ?_
    refine r_aload_n O 3 dX4_remove_26 rfl (Or.inl rfl) ?_
    obtain ⟨x5, ex5, hf⟩ := bnd hf
    refine r_gP O cf4 6 (by decide) rfl fl_X4_30 ex5 dX4_remove_27 ?_
    refine r_iload_n O 2 dX4_remove_30 rfl ?_
    refine r_dup2 O dX4_remove_31 rfl rfl ?_
    obtain ⟨x6, ex6, hf⟩ := bnd hf
    refine r_ldI O ex6 dX4_remove_32 ?_
    refine r_iconst O (v := 1) dX4_remove_33 (by decide) ?_
    refine r_isub O dX4_remove_34 ?_
    obtain ⟨h7, eh7, hf⟩ := bnd hf
    refine r_stI O eh7 dX4_remove_35 ?_
    refine r_iload_n O 1 dX4_remove_36 rfl ?_
    refine r_istore O [(5, .int x4), (4, .int (40 * x2)), (3, .int x4), (2, .int x2), (0, .ref a0), (1, .int a1)] dX4_remove_37 (by decide) rfl ?_
    obtain ⟨h14, hw, hf⟩ := bnd hf
    refine AW.sub [4, 5, 3, 2, 1, 0] rfl ?_
    refine s_X4_remove_39 O ?_ _ _ _ hw
    refine r_aload_n O 0 dX4_remove_78 rfl (Or.inl rfl) ?_
    obtain ⟨x15, ex15, hf⟩ := bnd hf
    refine r_gP O cf4 3 (by decide) rfl fl_X4_21 ex15 dX4_remove_79 ?_
    refine r_iload_n O 1 dX4_remove_82 rfl ?_
    refine r_iconst O (v := -1) dX4_remove_83 (by decide) ?_
    obtain ⟨h16, eh16, hf⟩ := bnd hf
    refine r_stI O eh16 dX4_remove_84 ?_
    refine r_aload_n O 0 dX4_remove_85 rfl (Or.inl rfl) ?_
    obtain ⟨x17, ex17, hf⟩ := bnd hf
    refine r_gP O cf4 4 (by decide) rfl fl_X4_24 ex17 dX4_remove_86 ?_
    refine r_iload_n O 1 dX4_remove_89 rfl ?_
    refine r_iconst O (v := -1) dX4_remove_90 (by decide) ?_
    obtain ⟨h18, eh18, hf⟩ := bnd hf
    refine r_stI O eh18 dX4_remove_91 ?_
    refine r_aload_n O 0 dX4_remove_92 rfl (Or.inl rfl) ?_
    refine r_iload_n O 2 dX4_remove_93 rfl ?_
    refine r_iload_n O 3 dX4_remove_94 rfl ?_
    obtain ⟨h20, eh20, hf⟩ := bnd hf
    refine r_callV (av := [.int x2, .int x4]) (st := []) O (c_X4_seat eh20) mf_X4_seat cf4 (kd_X4_seat eh20) ml_X4_72 mi_X4_seat mv_X4_seat (by decide) (Nat.le_of_ble_eq_true rfl) (by decide) dX4_remove_95 ?_
    obtain rfl := Option.some.inj hf
    exact r_vret O hr rfl rfl (by decide) (by decide) dX4_remove_98
def f_X8_take (h : AH) (a0 : Nat) (a1 : Int32) : Option (Except Nat Int32 × AH) :=
if aK h a0 = 8 then
Option.bind (f_X8_needThing h a0 a1) fun w => match w with
| (.error k9, h2) => some (.error k9, h2)
| (.ok x1, h2) =>
Option.bind (f_X8_needClosedBook h2 a0) fun w => match w with
| (.error k9, h4) => some (.error k9, h4)
| (.ok x3, h4) =>
Option.bind (gP h4 8 a0 1) fun x5 =>
Option.bind (gP h4 4 x5 3) fun x6 =>
Option.bind (ldI h4 x6 a1) fun x7 =>
if x7 = (-1) then
some (.ok (-4), h4)
else
Option.bind (gP h4 8 a0 1) fun x8 =>
Option.bind (f_X4_isFrozen h4 x8 a1) fun x9 =>
if x9 = 0 then
Option.bind (gP h4 8 a0 1) fun x11 =>
Option.bind (f_X4_remove h4 x11 a1) fun h13 =>
Option.bind (f_X8_settle h13 a0) fun w => match w with
| (x14, h15) =>
some (.ok x14, h15)
else
some (.ok (-3), h4)
else none
theorem kd_X8_take {h : AH} {a0 : Nat} {a1 : Int32} {r : (Except Nat Int32 × AH)} (hf : f_X8_take h a0 a1 = some r) : aK h a0 = 8 := by
  unfold f_X8_take at hf
  exact (ifk hf).1
set_option maxRecDepth 100000 in
set_option maxHeartbeats 4000000 in
theorem c_X8_take {l : Launch} {G : GT} {h : AH} {a0 : Nat} {a1 : Int32} {r : (Except Nat Int32 × AH)} (hf : f_X8_take h a0 a1 = some r) : Cn l yX8_take cX8_take 2 (some .int) 7 170 13 824 G h [.ref a0, .int a1] (r.1.map (fun x => some (.int x))) r.2 := by
  refine Cn.of (by decide) (Nat.le_of_ble_eq_true rfl) ?_
  intro p e s m args below meth c O hr hx hin
  have O : OkC p l s m args meth c G cX8_take 2 RX8 := O
  unfold f_X8_take at hf
  obtain ⟨hk0, hf⟩ := ifk hf
  refine AW.sub (lv' := [(0, .ref a0), (1, .int a1)]) [0, 1] rfl ?_
  refine r_aload_n O 0 dX8_take_0 rfl (Or.inl rfl) ?_
  refine r_iload_n O 1 dX8_take_1 rfl ?_
  obtain ⟨⟨w, h2⟩, ex1, hf⟩ := bnd hf
  cases w with
  | error k9 =>
    dsimp only at hf
    obtain rfl := Option.some.inj hf
    exact r_thrV (av := [.int a1]) (st := []) O hx (c_X8_needThing ex1) mf_X8_needThing cf8 (kd_X8_needThing ex1) ml_X8_114 mi_X8_needThing mv_X8_needThing (by decide) (Nat.le_of_ble_eq_true rfl) (by decide) (by decide) (by decide) dX8_take_2
  | ok x1 =>
    dsimp only at hf
    refine r_callV (av := [.int a1]) (st := []) O (c_X8_needThing ex1) mf_X8_needThing cf8 (kd_X8_needThing ex1) ml_X8_114 mi_X8_needThing mv_X8_needThing (by decide) (Nat.le_of_ble_eq_true rfl) (by decide) dX8_take_2 ?_
    refine r_aload_n O 0 dX8_take_5 rfl (Or.inl rfl) ?_
    obtain ⟨⟨w, h4⟩, ex3, hf⟩ := bnd hf
    cases w with
    | error k9 =>
      dsimp only at hf
      obtain rfl := Option.some.inj hf
      exact r_thrV (av := []) (st := []) O hx (c_X8_needClosedBook ex3) mf_X8_needClosedBook cf8 (kd_X8_needClosedBook ex3) ml_X8_121 mi_X8_needClosedBook mv_X8_needClosedBook (by decide) (Nat.le_of_ble_eq_true rfl) (by decide) (by decide) (by decide) dX8_take_6
    | ok x3 =>
      dsimp only at hf
      refine r_callV (av := []) (st := []) O (c_X8_needClosedBook ex3) mf_X8_needClosedBook cf8 (kd_X8_needClosedBook ex3) ml_X8_121 mi_X8_needClosedBook mv_X8_needClosedBook (by decide) (Nat.le_of_ble_eq_true rfl) (by decide) dX8_take_6 ?_
      refine r_aload_n O 0 dX8_take_9 rfl (Or.inl rfl) ?_
      obtain ⟨x5, ex5, hf⟩ := bnd hf
      refine r_gP O cf8 1 (by decide) rfl fl_X8_19 ex5 dX8_take_10 ?_
      obtain ⟨x6, ex6, hf⟩ := bnd hf
      refine r_gP O cf4 3 (by decide) rfl fl_X8_128 ex6 dX8_take_13 ?_
      refine r_iload_n O 1 dX8_take_16 rfl ?_
      obtain ⟨x7, ex7, hf⟩ := bnd hf
      refine r_ldI O ex7 dX8_take_17 ?_
      refine r_iconst O (v := -1) dX8_take_18 (by decide) ?_
      by_cases hc : x7 = (-1)
      · rw [if_pos hc] at hf
        refine r_icmp_ne_f (tgt := 25) O dX8_take_19 (by decide) hc ?_
        refine r_bipush O (v := -4) dX8_take_22 (by decide) ?_
        obtain rfl := Option.some.inj hf
        exact r_iret O hr rfl rfl (by decide) (by decide) dX8_take_24
      · rw [if_neg hc] at hf
        refine r_icmp_ne_t (tgt := 25) O dX8_take_19 (by decide) hc ?_
        refine r_aload_n O 0 dX8_take_25 rfl (Or.inl rfl) ?_
        obtain ⟨x8, ex8, hf⟩ := bnd hf
        refine r_gP O cf8 1 (by decide) rfl fl_X8_19 ex8 dX8_take_26 ?_
        refine r_iload_n O 1 dX8_take_29 rfl ?_
        obtain ⟨x9, ex9, hf⟩ := bnd hf
        refine r_callV (av := [.int a1]) (st := []) O (c_X4_isFrozen ex9) mf_X4_isFrozen cf4 (kd_X4_isFrozen ex9) ml_X8_141 mi_X4_isFrozen mv_X4_isFrozen (by decide) (Nat.le_of_ble_eq_true rfl) (by decide) dX8_take_30 ?_
        by_cases hc : x9 = 0
        · rw [if_pos hc] at hf
          refine r_if_eq_t (tgt := 39) O dX8_take_33 (by decide) hc ?_
          refine r_aload_n O 0 dX8_take_39 rfl (Or.inl rfl) ?_
          obtain ⟨x11, ex11, hf⟩ := bnd hf
          refine r_gP O cf8 1 (by decide) rfl fl_X8_19 ex11 dX8_take_40 ?_
          refine r_iload_n O 1 dX8_take_43 rfl ?_
          obtain ⟨h13, eh13, hf⟩ := bnd hf
          refine r_callV (av := [.int a1]) (st := []) O (c_X4_remove eh13) mf_X4_remove cf4 (kd_X4_remove eh13) ml_X8_145 mi_X4_remove mv_X4_remove (by decide) (Nat.le_of_ble_eq_true rfl) (by decide) dX8_take_44 ?_
          refine r_aload_n O 0 dX8_take_47 rfl (Or.inl rfl) ?_
          obtain ⟨⟨x14, h15⟩, ex14, hf⟩ := bnd hf
          dsimp only at hf
          refine r_callV (av := []) (st := []) O (c_X8_settle ex14) mf_X8_settle cf8 (kd_X8_settle ex14) ml_X8_137 mi_X8_settle mv_X8_settle (by decide) (Nat.le_of_ble_eq_true rfl) (by decide) dX8_take_48 ?_
          obtain rfl := Option.some.inj hf
          exact r_iret O hr rfl rfl (by decide) (by decide) dX8_take_51
        · rw [if_neg hc] at hf
          refine r_if_eq_f (tgt := 39) O dX8_take_33 (by decide) hc ?_
          refine r_bipush O (v := -3) dX8_take_36 (by decide) ?_
          obtain rfl := Option.some.inj hf
          exact r_iret O hr rfl rfl (by decide) (by decide) dX8_take_38
def f_X8_move (h : AH) (a0 : Nat) (a1 : Int32) (a2 : Int32) (a3 : Int32) : Option (Except Nat Int32 × AH) :=
if aK h a0 = 8 then
Option.bind (f_X8_needThing h a0 a1) fun w => match w with
| (.error k9, h2) => some (.error k9, h2)
| (.ok x1, h2) =>
Option.bind (f_X8_needList h2 a0 a2) fun w => match w with
| (.error k9, h4) => some (.error k9, h4)
| (.ok x3, h4) =>
Option.bind (f_X8_needClosedBook h4 a0) fun w => match w with
| (.error k9, h6) => some (.error k9, h6)
| (.ok x5, h6) =>
Option.bind (gP h6 8 a0 1) fun x7 =>
Option.bind (gP h6 4 x7 3) fun x8 =>
Option.bind (ldI h6 x8 a1) fun x9 =>
Option.bind (if x9 = a2 then
some (1 : Int32)
else
some (0 : Int32)) fun x10 =>
Option.bind (if a3 < 0 then
some (0 : Int32)
else
Option.bind (gP h6 8 a0 1) fun x12 =>
Option.bind (gP h6 4 x12 6) fun x13 =>
Option.bind (ldI h6 x13 a2) fun x14 =>
Option.bind (if x10 = 0 then
some (0 : Int32)
else
some (1 : Int32)) fun x15 =>
if (x14 - x15) < a3 then
some (0 : Int32)
else
some (1 : Int32)) fun x11 =>
Option.bind (f_X8_need h6 x11) fun w => match w with
| (.error k9, h17) => some (.error k9, h17)
| (.ok x16, h17) =>
Option.bind (gP h17 8 a0 1) fun x18 =>
Option.bind (gP h17 4 x18 3) fun x19 =>
Option.bind (ldI h17 x19 a1) fun x20 =>
if x20 = (-1) then
some (.ok (-4), h17)
else
Option.bind (if x10 = 0 then
some (0 : Int32)
else
Option.bind (gP h17 8 a0 1) fun x22 =>
Option.bind (gP h17 4 x22 4) fun x23 =>
Option.bind (ldI h17 x23 a1) fun x24 =>
if x24 = a3 then
some (1 : Int32)
else
some (0 : Int32)) fun x21 =>
if x21 = 0 then
Option.bind (gP h17 8 a0 1) fun x33 =>
Option.bind (f_X4_isFrozen h17 x33 a1) fun x34 =>
if x34 = 0 then
Option.bind (gP h17 8 a0 1) fun x36 =>
Option.bind (gP h17 4 x36 7) fun x37 =>
Option.bind (ldI h17 x37 a2) fun x38 =>
if x38 ≤ a3 then
Option.bind (gP h17 8 a0 1) fun x39 =>
Option.bind (f_X4_remove h17 x39 a1) fun h41 =>
Option.bind (gP h41 8 a0 1) fun x42 =>
Option.bind (f_X4_insert h41 x42 a1 a2 a3) fun h44 =>
Option.bind (f_X8_settle h44 a0) fun w => match w with
| (x45, h46) =>
some (.ok x45, h46)
else
some (.ok (-3), h17)
else
some (.ok (-3), h17)
else
Option.bind (gP h17 8 a0 1) fun x25 =>
Option.bind (f_X4_remove h17 x25 a1) fun h27 =>
Option.bind (gP h27 8 a0 1) fun x28 =>
Option.bind (f_X4_insert h27 x28 a1 a2 a3) fun h30 =>
Option.bind (f_X8_settle h30 a0) fun w => match w with
| (x31, h32) =>
some (.ok x31, h32)
else none
theorem kd_X8_move {h : AH} {a0 : Nat} {a1 : Int32} {a2 : Int32} {a3 : Int32} {r : (Except Nat Int32 × AH)} (hf : f_X8_move h a0 a1 a2 a3 = some r) : aK h a0 = 8 := by
  unfold f_X8_move at hf
  exact (ifk hf).1
set_option maxRecDepth 100000 in
set_option maxHeartbeats 4000000 in
theorem c_X8_move {l : Launch} {G : GT} {h : AH} {a0 : Nat} {a1 : Int32} {a2 : Int32} {a3 : Int32} {r : (Except Nat Int32 × AH)} (hf : f_X8_move h a0 a1 a2 a3 = some r) : Cn l yX8_move cX8_move 6 (some .int) 7 170 15 836 G h [.ref a0, .int a1, .int a2, .int a3] (r.1.map (fun x => some (.int x))) r.2 := by
  refine Cn.of (by decide) (Nat.le_of_ble_eq_true rfl) ?_
  intro p e s m args below meth c O hr hx hin
  have O : OkC p l s m args meth c G cX8_move 6 RX8 := O
  unfold f_X8_move at hf
  obtain ⟨hk0, hf⟩ := ifk hf
  refine AW.sub (lv' := [(0, .ref a0), (1, .int a1), (2, .int a2), (3, .int a3)]) [0, 1, 2, 3] rfl ?_
  refine r_aload_n O 0 dX8_move_0 rfl (Or.inl rfl) ?_
  refine r_iload_n O 1 dX8_move_1 rfl ?_
  obtain ⟨⟨w, h2⟩, ex1, hf⟩ := bnd hf
  cases w with
  | error k9 =>
    dsimp only at hf
    obtain rfl := Option.some.inj hf
    exact r_thrV (av := [.int a1]) (st := []) O hx (c_X8_needThing ex1) mf_X8_needThing cf8 (kd_X8_needThing ex1) ml_X8_114 mi_X8_needThing mv_X8_needThing (by decide) (Nat.le_of_ble_eq_true rfl) (by decide) (by decide) (by decide) dX8_move_2
  | ok x1 =>
    dsimp only at hf
    refine r_callV (av := [.int a1]) (st := []) O (c_X8_needThing ex1) mf_X8_needThing cf8 (kd_X8_needThing ex1) ml_X8_114 mi_X8_needThing mv_X8_needThing (by decide) (Nat.le_of_ble_eq_true rfl) (by decide) dX8_move_2 ?_
    refine r_aload_n O 0 dX8_move_5 rfl (Or.inl rfl) ?_
    refine r_iload_n O 2 dX8_move_6 rfl ?_
    obtain ⟨⟨w, h4⟩, ex3, hf⟩ := bnd hf
    cases w with
    | error k9 =>
      dsimp only at hf
      obtain rfl := Option.some.inj hf
      exact r_thrV (av := [.int a2]) (st := []) O hx (c_X8_needList ex3) mf_X8_needList cf8 (kd_X8_needList ex3) ml_X8_118 mi_X8_needList mv_X8_needList (by decide) (Nat.le_of_ble_eq_true rfl) (by decide) (by decide) (by decide) dX8_move_7
    | ok x3 =>
      dsimp only at hf
      refine r_callV (av := [.int a2]) (st := []) O (c_X8_needList ex3) mf_X8_needList cf8 (kd_X8_needList ex3) ml_X8_118 mi_X8_needList mv_X8_needList (by decide) (Nat.le_of_ble_eq_true rfl) (by decide) dX8_move_7 ?_
      refine r_aload_n O 0 dX8_move_10 rfl (Or.inl rfl) ?_
      obtain ⟨⟨w, h6⟩, ex5, hf⟩ := bnd hf
      cases w with
      | error k9 =>
        dsimp only at hf
        obtain rfl := Option.some.inj hf
        exact r_thrV (av := []) (st := []) O hx (c_X8_needClosedBook ex5) mf_X8_needClosedBook cf8 (kd_X8_needClosedBook ex5) ml_X8_121 mi_X8_needClosedBook mv_X8_needClosedBook (by decide) (Nat.le_of_ble_eq_true rfl) (by decide) (by decide) (by decide) dX8_move_11
      | ok x5 =>
        dsimp only at hf
        refine r_callV (av := []) (st := []) O (c_X8_needClosedBook ex5) mf_X8_needClosedBook cf8 (kd_X8_needClosedBook ex5) ml_X8_121 mi_X8_needClosedBook mv_X8_needClosedBook (by decide) (Nat.le_of_ble_eq_true rfl) (by decide) dX8_move_11 ?_
        refine r_aload_n O 0 dX8_move_14 rfl (Or.inl rfl) ?_
        obtain ⟨x7, ex7, hf⟩ := bnd hf
        refine r_gP O cf8 1 (by decide) rfl fl_X8_19 ex7 dX8_move_15 ?_
        obtain ⟨x8, ex8, hf⟩ := bnd hf
        refine r_gP O cf4 3 (by decide) rfl fl_X8_128 ex8 dX8_move_18 ?_
        refine r_iload_n O 1 dX8_move_21 rfl ?_
        obtain ⟨x9, ex9, hf⟩ := bnd hf
        refine r_ldI O ex9 dX8_move_22 ?_
        refine r_iload_n O 2 dX8_move_23 rfl ?_
        obtain ⟨x10, hg, hf⟩ := bnd hf
        have hJ : AW p l e { frames := 7, cells := 15, slots := 836, locals := 170 } s m args below meth c G 6 (vx_MQ below (QcN G (r.1.map (fun x => some (.int x))) r.2) (XcN G (r.1.map (fun x => some (.int x))) r.2) args s 15 836 (gA G)) h6 3 18 32 [(0, .ref a0), (1, .int a1), (2, .int a2), (3, .int a3)] [.int x10] := by
          refine r_istore O [(4, .int x10), (0, .ref a0), (1, .int a1), (2, .int a2), (3, .int a3)] dX8_move_32 (by decide) rfl ?_
          refine r_iload_n O 4 dX8_move_34 rfl ?_
          obtain ⟨x11, hg, hf⟩ := bnd hf
          have hJ : AW p l e { frames := 7, cells := 15, slots := 836, locals := 170 } s m args below meth c G 6 (vx_MQ below (QcN G (r.1.map (fun x => some (.int x))) r.2) (XcN G (r.1.map (fun x => some (.int x))) r.2) args s 15 836 (gA G)) h6 3 18 67 [(0, .ref a0), (1, .int a1), (2, .int a2), (3, .int a3), (4, .int x10)] [.int x11] := by
            obtain ⟨⟨w, h17⟩, ex16, hf⟩ := bnd hf
            cases w with
            | error k9 =>
              dsimp only at hf
              obtain rfl := Option.some.inj hf
              exact r_thrS (av := [.int x11]) (st := []) O hx (c_X8_need ex16) mf_X8_need ml_X8_92 ms_X8_need (by decide) (Nat.le_of_ble_eq_true rfl) (by decide) (by decide) (by decide) dX8_move_67
            | ok x16 =>
              dsimp only at hf
              refine r_callS (av := [.int x11]) (st := []) O (c_X8_need ex16) mf_X8_need ml_X8_92 ms_X8_need (by decide) (Nat.le_of_ble_eq_true rfl) (by decide) dX8_move_67 ?_
              refine r_aload_n O 0 dX8_move_70 rfl (Or.inl rfl) ?_
              obtain ⟨x18, ex18, hf⟩ := bnd hf
              refine r_gP O cf8 1 (by decide) rfl fl_X8_19 ex18 dX8_move_71 ?_
              obtain ⟨x19, ex19, hf⟩ := bnd hf
              refine r_gP O cf4 3 (by decide) rfl fl_X8_128 ex19 dX8_move_74 ?_
              refine r_iload_n O 1 dX8_move_77 rfl ?_
              obtain ⟨x20, ex20, hf⟩ := bnd hf
              refine r_ldI O ex20 dX8_move_78 ?_
              refine r_iconst O (v := -1) dX8_move_79 (by decide) ?_
              by_cases hc : x20 = (-1)
              · rw [if_pos hc] at hf
                refine r_icmp_ne_f (tgt := 86) O dX8_move_80 (by decide) hc ?_
                refine r_bipush O (v := -4) dX8_move_83 (by decide) ?_
                obtain rfl := Option.some.inj hf
                exact r_iret O hr rfl rfl (by decide) (by decide) dX8_move_85
              · rw [if_neg hc] at hf
                refine r_icmp_ne_t (tgt := 86) O dX8_move_80 (by decide) hc ?_
                refine r_iload O 4 dX8_move_86 rfl ?_
                obtain ⟨x21, hg, hf⟩ := bnd hf
                have hJ : AW p l e { frames := 7, cells := 15, slots := 836, locals := 170 } s m args below meth c G 6 (vx_MQ below (QcN G (r.1.map (fun x => some (.int x))) r.2) (XcN G (r.1.map (fun x => some (.int x))) r.2) args s 15 836 (gA G)) h17 4 24 109 [(0, .ref a0), (1, .int a1), (2, .int a2), (3, .int a3)] [.int x21] := by
                  refine r_istore O [(5, .int x21), (0, .ref a0), (1, .int a1), (2, .int a2), (3, .int a3)] dX8_move_109 (by decide) rfl ?_
                  refine r_iload O 0 dX8_move_111 rfl ?_
                  by_cases hc : x21 = 0
                  · rw [if_pos hc] at hf
                    refine r_if_ne_f (tgt := 143) O dX8_move_113 (by decide) hc ?_
                    refine r_aload_n O 1 dX8_move_116 rfl (Or.inl rfl) ?_
                    obtain ⟨x33, ex33, hf⟩ := bnd hf
                    refine r_gP O cf8 1 (by decide) rfl fl_X8_19 ex33 dX8_move_117 ?_
                    refine r_iload_n O 2 dX8_move_120 rfl ?_
                    obtain ⟨x34, ex34, hf⟩ := bnd hf
                    refine r_callV (av := [.int a1]) (st := []) O (c_X4_isFrozen ex34) mf_X4_isFrozen cf4 (kd_X4_isFrozen ex34) ml_X8_141 mi_X4_isFrozen mv_X4_isFrozen (by decide) (Nat.le_of_ble_eq_true rfl) (by decide) dX8_move_121 ?_
                    by_cases hc : x34 = 0
                    · rw [if_pos hc] at hf
                      refine r_if_ne_f (tgt := 140) O dX8_move_124 (by decide) hc ?_
                      refine r_iload_n O 4 dX8_move_127 rfl ?_
                      refine r_aload_n O 1 dX8_move_128 rfl (Or.inl rfl) ?_
                      obtain ⟨x36, ex36, hf⟩ := bnd hf
                      refine r_gP O cf8 1 (by decide) rfl fl_X8_19 ex36 dX8_move_129 ?_
                      obtain ⟨x37, ex37, hf⟩ := bnd hf
                      refine r_gP O cf4 7 (by decide) rfl fl_X8_131 ex37 dX8_move_132 ?_
                      refine r_iload_n O 3 dX8_move_135 rfl ?_
                      obtain ⟨x38, ex38, hf⟩ := bnd hf
                      refine r_ldI O ex38 dX8_move_136 ?_
                      by_cases hc : x38 ≤ a3
                      · rw [if_pos hc] at hf
                        refine r_icmp_ge_t (tgt := 143) O dX8_move_137 (by decide) hc ?_
                        refine r_aload_n O 1 dX8_move_143 rfl (Or.inl rfl) ?_
                        obtain ⟨x39, ex39, hf⟩ := bnd hf
                        refine r_gP O cf8 1 (by decide) rfl fl_X8_19 ex39 dX8_move_144 ?_
                        refine r_iload_n O 2 dX8_move_147 rfl ?_
                        obtain ⟨h41, eh41, hf⟩ := bnd hf
                        refine r_callV (av := [.int a1]) (st := []) O (c_X4_remove eh41) mf_X4_remove cf4 (kd_X4_remove eh41) ml_X8_145 mi_X4_remove mv_X4_remove (by decide) (Nat.le_of_ble_eq_true rfl) (by decide) dX8_move_148 ?_
                        refine r_aload_n O 1 dX8_move_151 rfl (Or.inl rfl) ?_
                        obtain ⟨x42, ex42, hf⟩ := bnd hf
                        refine r_gP O cf8 1 (by decide) rfl fl_X8_19 ex42 dX8_move_152 ?_
                        refine r_iload_n O 2 dX8_move_155 rfl ?_
                        refine r_iload_n O 3 dX8_move_156 rfl ?_
                        refine r_iload_n O 4 dX8_move_157 rfl ?_
                        obtain ⟨h44, eh44, hf⟩ := bnd hf
                        refine r_callV (av := [.int a1, .int a2, .int a3]) (st := []) O (c_X4_insert eh44) mf_X4_insert cf4 (kd_X4_insert eh44) ml_X8_134 mi_X4_insert mv_X4_insert (by decide) (Nat.le_of_ble_eq_true rfl) (by decide) dX8_move_158 ?_
                        refine r_aload_n O 1 dX8_move_161 rfl (Or.inl rfl) ?_
                        obtain ⟨⟨x45, h46⟩, ex45, hf⟩ := bnd hf
                        dsimp only at hf
                        refine r_callV (av := []) (st := []) O (c_X8_settle ex45) mf_X8_settle cf8 (kd_X8_settle ex45) ml_X8_137 mi_X8_settle mv_X8_settle (by decide) (Nat.le_of_ble_eq_true rfl) (by decide) dX8_move_162 ?_
                        obtain rfl := Option.some.inj hf
                        exact r_iret O hr rfl rfl (by decide) (by decide) dX8_move_165
                      · rw [if_neg hc] at hf
                        refine r_icmp_ge_f (tgt := 143) O dX8_move_137 (by decide) hc ?_
                        refine r_bipush O (v := -3) dX8_move_140 (by decide) ?_
                        obtain rfl := Option.some.inj hf
                        exact r_iret O hr rfl rfl (by decide) (by decide) dX8_move_142
                    · rw [if_neg hc] at hf
                      refine r_if_ne_t (tgt := 140) O dX8_move_124 (by decide) hc ?_
                      refine r_bipush O (v := -3) dX8_move_140 (by decide) ?_
                      obtain rfl := Option.some.inj hf
                      exact r_iret O hr rfl rfl (by decide) (by decide) dX8_move_142
                  · rw [if_neg hc] at hf
                    refine r_if_ne_t (tgt := 143) O dX8_move_113 (by decide) hc ?_
                    refine r_aload_n O 1 dX8_move_143 rfl (Or.inl rfl) ?_
                    obtain ⟨x25, ex25, hf⟩ := bnd hf
                    refine r_gP O cf8 1 (by decide) rfl fl_X8_19 ex25 dX8_move_144 ?_
                    refine r_iload_n O 2 dX8_move_147 rfl ?_
                    obtain ⟨h27, eh27, hf⟩ := bnd hf
                    refine r_callV (av := [.int a1]) (st := []) O (c_X4_remove eh27) mf_X4_remove cf4 (kd_X4_remove eh27) ml_X8_145 mi_X4_remove mv_X4_remove (by decide) (Nat.le_of_ble_eq_true rfl) (by decide) dX8_move_148 ?_
                    refine r_aload_n O 1 dX8_move_151 rfl (Or.inl rfl) ?_
                    obtain ⟨x28, ex28, hf⟩ := bnd hf
                    refine r_gP O cf8 1 (by decide) rfl fl_X8_19 ex28 dX8_move_152 ?_
                    refine r_iload_n O 2 dX8_move_155 rfl ?_
                    refine r_iload_n O 3 dX8_move_156 rfl ?_
                    refine r_iload_n O 4 dX8_move_157 rfl ?_
                    obtain ⟨h30, eh30, hf⟩ := bnd hf
                    refine r_callV (av := [.int a1, .int a2, .int a3]) (st := []) O (c_X4_insert eh30) mf_X4_insert cf4 (kd_X4_insert eh30) ml_X8_134 mi_X4_insert mv_X4_insert (by decide) (Nat.le_of_ble_eq_true rfl) (by decide) dX8_move_158 ?_
                    refine r_aload_n O 1 dX8_move_161 rfl (Or.inl rfl) ?_
                    obtain ⟨⟨x31, h32⟩, ex31, hf⟩ := bnd hf
                    dsimp only at hf
                    refine r_callV (av := []) (st := []) O (c_X8_settle ex31) mf_X8_settle cf8 (kd_X8_settle ex31) ml_X8_137 mi_X8_settle mv_X8_settle (by decide) (Nat.le_of_ble_eq_true rfl) (by decide) dX8_move_162 ?_
                    obtain rfl := Option.some.inj hf
                    exact r_iret O hr rfl rfl (by decide) (by decide) dX8_move_165
                clear hf
                have hf := hg
                clear hg
                by_cases hc : x10 = 0
                · rw [if_pos hc] at hf
                  refine r_if_eq_t (tgt := 108) O dX8_move_88 (by decide) hc ?_
                  refine r_iconst O (v := 0) dX8_move_108 (by decide) ?_
                  obtain rfl := oi1 hf
                  refine AW.sub [0, 1, 2, 3] rfl ?_
                  exact hJ
                · rw [if_neg hc] at hf
                  refine r_if_eq_f (tgt := 108) O dX8_move_88 (by decide) hc ?_
                  refine r_aload_n O 0 dX8_move_91 rfl (Or.inl rfl) ?_
                  obtain ⟨x22, ex22, hf⟩ := bnd hf
                  refine r_gP O cf8 1 (by decide) rfl fl_X8_19 ex22 dX8_move_92 ?_
                  obtain ⟨x23, ex23, hf⟩ := bnd hf
                  refine r_gP O cf4 4 (by decide) rfl fl_X8_148 ex23 dX8_move_95 ?_
                  refine r_iload_n O 1 dX8_move_98 rfl ?_
                  obtain ⟨x24, ex24, hf⟩ := bnd hf
                  refine r_ldI O ex24 dX8_move_99 ?_
                  refine r_iload_n O 3 dX8_move_100 rfl ?_
                  by_cases hc : x24 = a3
                  · rw [if_pos hc] at hf
                    refine r_icmp_ne_f (tgt := 108) O dX8_move_101 (by decide) hc ?_
                    refine r_iconst O (v := 1) dX8_move_104 (by decide) ?_
                    refine r_goto (tgt := 109) O dX8_move_105 (by decide) ?_
                    obtain rfl := oi1 hf
                    refine AW.sub [0, 1, 2, 3] rfl ?_
                    exact hJ
                  · rw [if_neg hc] at hf
                    refine r_icmp_ne_t (tgt := 108) O dX8_move_101 (by decide) hc ?_
                    refine r_iconst O (v := 0) dX8_move_108 (by decide) ?_
                    obtain rfl := oi1 hf
                    refine AW.sub [0, 1, 2, 3] rfl ?_
                    exact hJ
          clear hf
          have hf := hg
          clear hg
          by_cases hc : a3 < 0
          · rw [if_pos hc] at hf
            refine r_if_lt_t (tgt := 66) O dX8_move_35 (by decide) hc ?_
            refine r_iconst O (v := 0) dX8_move_66 (by decide) ?_
            obtain rfl := oi1 hf
            refine AW.sub [1, 2, 3, 4, 0] rfl ?_
            exact hJ
          · rw [if_neg hc] at hf
            refine r_if_lt_f (tgt := 66) O dX8_move_35 (by decide) hc ?_
            refine r_iload_n O 4 dX8_move_38 rfl ?_
            refine r_aload_n O 1 dX8_move_39 rfl (Or.inl rfl) ?_
            obtain ⟨x12, ex12, hf⟩ := bnd hf
            refine r_gP O cf8 1 (by decide) rfl fl_X8_19 ex12 dX8_move_40 ?_
            obtain ⟨x13, ex13, hf⟩ := bnd hf
            refine r_gP O cf4 6 (by decide) rfl fl_X8_124 ex13 dX8_move_43 ?_
            refine r_iload_n O 3 dX8_move_46 rfl ?_
            obtain ⟨x14, ex14, hf⟩ := bnd hf
            refine r_ldI O ex14 dX8_move_47 ?_
            refine r_iload O 0 dX8_move_48 rfl ?_
            obtain ⟨x15, hg, hf⟩ := bnd hf
            have hJ : AW p l e { frames := 7, cells := 15, slots := 836, locals := 170 } s m args below meth c G 6 (vx_MQ below (QcN G (r.1.map (fun x => some (.int x))) r.2) (XcN G (r.1.map (fun x => some (.int x))) r.2) args s 15 836 (gA G)) h6 3 18 58 [(0, .ref a0), (1, .int a1), (2, .int a2), (3, .int a3), (4, .int x10)] [.int x15, .int x14, .int a3] := by
              refine r_isub O dX8_move_58 ?_
              by_cases hc : (x14 - x15) < a3
              · rw [if_pos hc] at hf
                refine r_icmp_gt_t (tgt := 66) O dX8_move_59 (by decide) hc ?_
                refine r_iconst O (v := 0) dX8_move_66 (by decide) ?_
                obtain rfl := oi1 hf
                refine AW.sub [0, 1, 2, 3, 4] rfl ?_
                exact hJ
              · rw [if_neg hc] at hf
                refine r_icmp_gt_f (tgt := 66) O dX8_move_59 (by decide) hc ?_
                refine r_iconst O (v := 1) dX8_move_62 (by decide) ?_
                refine r_goto (tgt := 67) O dX8_move_63 (by decide) ?_
                obtain rfl := oi1 hf
                refine AW.sub [0, 1, 2, 3, 4] rfl ?_
                exact hJ
            clear hf
            have hf := hg
            clear hg
            by_cases hc : x10 = 0
            · rw [if_pos hc] at hf
              refine r_if_eq_t (tgt := 57) O dX8_move_50 (by decide) hc ?_
              refine r_iconst O (v := 0) dX8_move_57 (by decide) ?_
              obtain rfl := oi1 hf
              refine AW.sub [1, 2, 3, 4, 0] rfl ?_
              exact hJ
            · rw [if_neg hc] at hf
              refine r_if_eq_f (tgt := 57) O dX8_move_50 (by decide) hc ?_
              refine r_iconst O (v := 1) dX8_move_53 (by decide) ?_
              refine r_goto (tgt := 58) O dX8_move_54 (by decide) ?_
              obtain rfl := oi1 hf
              refine AW.sub [1, 2, 3, 4, 0] rfl ?_
              exact hJ
        clear hf
        have hf := hg
        clear hg
        by_cases hc : x9 = a2
        · rw [if_pos hc] at hf
          refine r_icmp_ne_f (tgt := 31) O dX8_move_24 (by decide) hc ?_
          refine r_iconst O (v := 1) dX8_move_27 (by decide) ?_
          refine r_goto (tgt := 32) O dX8_move_28 (by decide) ?_
          obtain rfl := oi1 hf
          refine AW.sub [0, 1, 2, 3] rfl ?_
          exact hJ
        · rw [if_neg hc] at hf
          refine r_icmp_ne_t (tgt := 31) O dX8_move_24 (by decide) hc ?_
          refine r_iconst O (v := 0) dX8_move_31 (by decide) ?_
          obtain rfl := oi1 hf
          refine AW.sub [0, 1, 2, 3] rfl ?_
          exact hJ
