def f_X0_init (h : AH) (a0 : Nat) : Option AH :=
Option.bind (some (nw h 10 216)) fun h1 =>
Option.bind (pP h1 0 a0 0 (aN h)) fun h2 =>
Option.bind (some (nw h2 10 216)) fun h3 =>
Option.bind (pP h3 0 a0 1 (aN h2)) fun h4 =>
Option.bind (some (nw h4 10 9)) fun h5 =>
Option.bind (pP h5 0 a0 2 (aN h4)) fun h6 =>
Option.bind (some (nw h6 10 24)) fun h7 =>
Option.bind (pP h7 0 a0 3 (aN h6)) fun h8 =>
Option.bind (some (nw h8 10 24)) fun h9 =>
Option.bind (pP h9 0 a0 4 (aN h8)) fun h10 =>
some h10
set_option maxRecDepth 100000 in
set_option maxHeartbeats 4000000 in
theorem c_X0_init {l : Launch} {G : GT} {h : AH} {a0 : Nat} {r : AH} (hf : f_X0_init h a0 = some r) : Cn l yX0_init cX0_init 1 none 1 20 5 489 G h [.ref a0] (.ok none) r := by
  refine Cn.of (by decide) (Nat.le_of_ble_eq_true rfl) ?_
  intro p e s m args below meth c O hr hx hin
  have O : OkC p l s m args meth c G cX0_init 1 RX0 := O
  unfold f_X0_init at hf
  refine AW.sub (lv' := [(0, .ref a0)]) [0] rfl ?_
  refine r_aload_n O 0 dX0_init_0 rfl (Or.inl rfl) ?_
  refine r_objInit O ml_X0_3 (by decide) (by decide) (Nat.le_of_ble_eq_true rfl) dX0_init_1 ?_
  refine r_aload_n O 0 dX0_init_4 rfl (Or.inl rfl) ?_
  refine r_sipush O (v := 216) dX0_init_5 (by decide) ?_
  obtain ⟨h1, eh1, hf⟩ := bnd hf
  refine r_newI O waI (len := 216) (by decide) (by decide) (by decide) (by decide) (by decide) dX0_init_8 ?_
  rw [Option.some.inj eh1]
  obtain ⟨h2, eh2, hf⟩ := bnd hf
  refine r_pPF O hin cf0 0 (by decide) rfl fl_X0_9 rfl rfl eh2 dX0_init_10 ?_
  refine r_aload_n O 0 dX0_init_13 rfl (Or.inl rfl) ?_
  refine r_sipush O (v := 216) dX0_init_14 (by decide) ?_
  obtain ⟨h3, eh3, hf⟩ := bnd hf
  refine r_newI O waI (len := 216) (by decide) (by decide) (by decide) (by decide) (by decide) dX0_init_17 ?_
  rw [Option.some.inj eh3]
  obtain ⟨h4, eh4, hf⟩ := bnd hf
  refine r_pPF O hin cf0 1 (by decide) rfl fl_X0_15 rfl rfl eh4 dX0_init_19 ?_
  refine r_aload_n O 0 dX0_init_22 rfl (Or.inl rfl) ?_
  refine r_bipush O (v := 9) dX0_init_23 (by decide) ?_
  obtain ⟨h5, eh5, hf⟩ := bnd hf
  refine r_newI O waI (len := 9) (by decide) (by decide) (by decide) (by decide) (by decide) dX0_init_25 ?_
  rw [Option.some.inj eh5]
  obtain ⟨h6, eh6, hf⟩ := bnd hf
  refine r_pPF O hin cf0 2 (by decide) rfl fl_X0_18 rfl rfl eh6 dX0_init_27 ?_
  refine r_aload_n O 0 dX0_init_30 rfl (Or.inl rfl) ?_
  refine r_bipush O (v := 24) dX0_init_31 (by decide) ?_
  obtain ⟨h7, eh7, hf⟩ := bnd hf
  refine r_newI O waI (len := 24) (by decide) (by decide) (by decide) (by decide) (by decide) dX0_init_33 ?_
  rw [Option.some.inj eh7]
  obtain ⟨h8, eh8, hf⟩ := bnd hf
  refine r_pPF O hin cf0 3 (by decide) rfl fl_X0_21 rfl rfl eh8 dX0_init_35 ?_
  refine r_aload_n O 0 dX0_init_38 rfl (Or.inl rfl) ?_
  refine r_bipush O (v := 24) dX0_init_39 (by decide) ?_
  obtain ⟨h9, eh9, hf⟩ := bnd hf
  refine r_newI O waI (len := 24) (by decide) (by decide) (by decide) (by decide) (by decide) dX0_init_41 ?_
  rw [Option.some.inj eh9]
  obtain ⟨h10, eh10, hf⟩ := bnd hf
  refine r_pPF O hin cf0 4 (by decide) rfl fl_X0_24 rfl rfl eh10 dX0_init_43 ?_
  obtain rfl := Option.some.inj hf
  exact r_vret O hr rfl rfl (by decide) (by decide) dX0_init_46
def f_J7_fill_53178_5 (l0 : Nat) (l1 : Int32) (l3 : Int32) (n : Nat) (h : AH) (l2 : Int32) : Option AH := match n with
| 0 => none
| n + 1 =>
if l3 ≤ l2 then
some h
else
Option.bind (stI h l0 l2 l1) fun h2 =>
f_J7_fill_53178_5 l0 l1 l3 n h2 (l2 + 1)
def f_J7_fill_53178 (h : AH) (a0 : Nat) (a1 : Int32) : Option AH :=
Option.bind (aln h a0) fun x1 =>
Option.bind (f_J7_fill_53178_5 a0 a1 x1 FU h 0) fun h3 =>
some h3
set_option maxRecDepth 100000 in
set_option maxHeartbeats 4000000 in
theorem s_J7_fill_53178_5 {p : Program} {l : Launch} {e : Env} {s : State} {m : MethodId} {args : Array Value} {below : List Frame} {meth : Method} {c : Code} {G : GT} {Q : State → Prop} (O : OkC p l s m args meth c G cJ7_fill_53178 4 RJ7) {l0 : Nat} {l1 : Int32} {l3 : Int32} {wh : AH} (kk : AW p l e { frames := 0, cells := 0, slots := 0, locals := 0 } s m args below meth c G 4 Q wh 0 0 20 [] []) : ∀ (n : Nat), ∀ (h : AH) (l2 : Int32), f_J7_fill_53178_5 l0 l1 l3 n h l2 = some wh → AW p l e { frames := 0, cells := 0, slots := 0, locals := 0 } s m args below meth c G 4 Q h 0 0 5 [(0, .ref l0), (1, .int l1), (2, .int l2), (3, .int l3)] [] := by
  intro n
  induction n with
  | zero =>
    intro h l2 hf
    simp [f_J7_fill_53178_5] at hf
  | succ n ih =>
    intro h l2 hf
    unfold f_J7_fill_53178_5 at hf
    refine r_iload_n O 2 dJ7_fill_53178_5 rfl ?_
    refine r_iload_n O 3 dJ7_fill_53178_6 rfl ?_
    by_cases hc : l3 ≤ l2
    · rw [if_pos hc] at hf
      refine r_icmp_ge_t (tgt := 20) O dJ7_fill_53178_7 (by decide) hc ?_
      obtain rfl := oi1 hf
      refine AW.sub [] rfl ?_
      exact kk
    · rw [if_neg hc] at hf
      refine r_icmp_ge_f (tgt := 20) O dJ7_fill_53178_7 (by decide) hc ?_
      refine r_aload_n O 0 dJ7_fill_53178_10 rfl (Or.inl rfl) ?_
      refine r_iload_n O 2 dJ7_fill_53178_11 rfl ?_
      refine r_iload_n O 1 dJ7_fill_53178_12 rfl ?_
      obtain ⟨h2, eh2, hf⟩ := bnd hf
      refine r_stI O eh2 dJ7_fill_53178_13 ?_
      refine r_iinc O 2 [(2, .int (l2 + 1)), (0, .ref l0), (1, .int l1), (3, .int l3)] dJ7_fill_53178_14 rfl rfl (by decide) rfl ?_
      refine r_goto (tgt := 5) O dJ7_fill_53178_17 (by decide) ?_
      refine AW.sub [1, 2, 0, 3] rfl ?_
      exact ih _ _ hf
set_option maxRecDepth 100000 in
set_option maxHeartbeats 4000000 in
theorem c_J7_fill_53178 {l : Launch} {G : GT} {h : AH} {a0 : Nat} {a1 : Int32} {r : AH} (hf : f_J7_fill_53178 h a0 a1 = some r) : Cn l yJ7_fill_53178 cJ7_fill_53178 4 none 0 0 0 0 G h [.ref a0, .int a1] (.ok none) r := by
  refine Cn.of (by decide) (Nat.le_of_ble_eq_true rfl) ?_
  intro p e s m args below meth c O hr hx hin
  have O : OkC p l s m args meth c G cJ7_fill_53178 4 RJ7 := O
  unfold f_J7_fill_53178 at hf
  refine AW.sub (lv' := [(0, .ref a0), (1, .int a1)]) [0, 1] rfl ?_
  refine r_iconst O (v := 0) dJ7_fill_53178_0 (by decide) ?_
  refine r_istore_n O [(2, .int 0), (0, .ref a0), (1, .int a1)] dJ7_fill_53178_1 (by decide) rfl ?_
  refine r_aload_n O 1 dJ7_fill_53178_2 rfl (Or.inl rfl) ?_
  obtain ⟨x1, ex1, hf⟩ := bnd hf
  refine r_aln O ex1 dJ7_fill_53178_3 ?_
  refine r_istore_n O [(3, .int x1), (2, .int 0), (0, .ref a0), (1, .int a1)] dJ7_fill_53178_4 (by decide) rfl ?_
  obtain ⟨h3, hw, hf⟩ := bnd hf
  refine AW.sub [2, 3, 1, 0] rfl ?_
  refine s_J7_fill_53178_5 O ?_ _ _ _ hw
  obtain rfl := Option.some.inj hf
  exact r_vret O hr rfl rfl (by decide) (by decide) dJ7_fill_53178_20
def f_X4_init (h : AH) (a0 : Nat) : Option AH :=
Option.bind (some (nw h 10 160)) fun h1 =>
Option.bind (pP h1 4 a0 0 (aN h)) fun h2 =>
Option.bind (some (nw h2 10 12)) fun h3 =>
Option.bind (pP h3 4 a0 1 (aN h2)) fun h4 =>
Option.bind (some (nw h4 10 40)) fun h5 =>
Option.bind (pP h5 4 a0 2 (aN h4)) fun h6 =>
Option.bind (some (nw h6 10 40)) fun h7 =>
Option.bind (pP h7 4 a0 3 (aN h6)) fun h8 =>
Option.bind (some (nw h8 10 40)) fun h9 =>
Option.bind (pP h9 4 a0 4 (aN h8)) fun h10 =>
Option.bind (some (nw h10 10 240)) fun h11 =>
Option.bind (pP h11 4 a0 5 (aN h10)) fun h12 =>
Option.bind (some (nw h12 10 6)) fun h13 =>
Option.bind (pP h13 4 a0 6 (aN h12)) fun h14 =>
Option.bind (some (nw h14 10 6)) fun h15 =>
Option.bind (pP h15 4 a0 7 (aN h14)) fun h16 =>
Option.bind (gP h16 4 a0 2) fun x17 =>
Option.bind (f_J7_fill_53178 h16 x17 (-1)) fun h19 =>
Option.bind (gP h19 4 a0 3) fun x20 =>
Option.bind (f_J7_fill_53178 h19 x20 (-1)) fun h22 =>
Option.bind (gP h22 4 a0 4) fun x23 =>
Option.bind (f_J7_fill_53178 h22 x23 (-1)) fun h25 =>
some h25
set_option maxRecDepth 100000 in
set_option maxHeartbeats 4000000 in
theorem c_X4_init {l : Launch} {G : GT} {h : AH} {a0 : Nat} {r : AH} (hf : f_X4_init h a0 = some r) : Cn l yX4_init cX4_init 1 none 1 23 8 544 G h [.ref a0] (.ok none) r := by
  refine Cn.of (by decide) (Nat.le_of_ble_eq_true rfl) ?_
  intro p e s m args below meth c O hr hx hin
  have O : OkC p l s m args meth c G cX4_init 1 RX4 := O
  unfold f_X4_init at hf
  refine AW.sub (lv' := [(0, .ref a0)]) [0] rfl ?_
  refine r_aload_n O 0 dX4_init_0 rfl (Or.inl rfl) ?_
  refine r_objInit O ml_X4_3 (by decide) (by decide) (Nat.le_of_ble_eq_true rfl) dX4_init_1 ?_
  refine r_aload_n O 0 dX4_init_4 rfl (Or.inl rfl) ?_
  refine r_sipush O (v := 160) dX4_init_5 (by decide) ?_
  obtain ⟨h1, eh1, hf⟩ := bnd hf
  refine r_newI O waI (len := 160) (by decide) (by decide) (by decide) (by decide) (by decide) dX4_init_8 ?_
  rw [Option.some.inj eh1]
  obtain ⟨h2, eh2, hf⟩ := bnd hf
  refine r_pPF O hin cf4 0 (by decide) rfl fl_X4_9 rfl rfl eh2 dX4_init_10 ?_
  refine r_aload_n O 0 dX4_init_13 rfl (Or.inl rfl) ?_
  refine r_bipush O (v := 12) dX4_init_14 (by decide) ?_
  obtain ⟨h3, eh3, hf⟩ := bnd hf
  refine r_newI O waI (len := 12) (by decide) (by decide) (by decide) (by decide) (by decide) dX4_init_16 ?_
  rw [Option.some.inj eh3]
  obtain ⟨h4, eh4, hf⟩ := bnd hf
  refine r_pPF O hin cf4 1 (by decide) rfl fl_X4_15 rfl rfl eh4 dX4_init_18 ?_
  refine r_aload_n O 0 dX4_init_21 rfl (Or.inl rfl) ?_
  refine r_bipush O (v := 40) dX4_init_22 (by decide) ?_
  obtain ⟨h5, eh5, hf⟩ := bnd hf
  refine r_newI O waI (len := 40) (by decide) (by decide) (by decide) (by decide) (by decide) dX4_init_24 ?_
  rw [Option.some.inj eh5]
  obtain ⟨h6, eh6, hf⟩ := bnd hf
  refine r_pPF O hin cf4 2 (by decide) rfl fl_X4_18 rfl rfl eh6 dX4_init_26 ?_
  refine r_aload_n O 0 dX4_init_29 rfl (Or.inl rfl) ?_
  refine r_bipush O (v := 40) dX4_init_30 (by decide) ?_
  obtain ⟨h7, eh7, hf⟩ := bnd hf
  refine r_newI O waI (len := 40) (by decide) (by decide) (by decide) (by decide) (by decide) dX4_init_32 ?_
  rw [Option.some.inj eh7]
  obtain ⟨h8, eh8, hf⟩ := bnd hf
  refine r_pPF O hin cf4 3 (by decide) rfl fl_X4_21 rfl rfl eh8 dX4_init_34 ?_
  refine r_aload_n O 0 dX4_init_37 rfl (Or.inl rfl) ?_
  refine r_bipush O (v := 40) dX4_init_38 (by decide) ?_
  obtain ⟨h9, eh9, hf⟩ := bnd hf
  refine r_newI O waI (len := 40) (by decide) (by decide) (by decide) (by decide) (by decide) dX4_init_40 ?_
  rw [Option.some.inj eh9]
  obtain ⟨h10, eh10, hf⟩ := bnd hf
  refine r_pPF O hin cf4 4 (by decide) rfl fl_X4_24 rfl rfl eh10 dX4_init_42 ?_
  refine r_aload_n O 0 dX4_init_45 rfl (Or.inl rfl) ?_
  refine r_sipush O (v := 240) dX4_init_46 (by decide) ?_
  obtain ⟨h11, eh11, hf⟩ := bnd hf
  refine r_newI O waI (len := 240) (by decide) (by decide) (by decide) (by decide) (by decide) dX4_init_49 ?_
  rw [Option.some.inj eh11]
  obtain ⟨h12, eh12, hf⟩ := bnd hf
  refine r_pPF O hin cf4 5 (by decide) rfl fl_X4_27 rfl rfl eh12 dX4_init_51 ?_
  refine r_aload_n O 0 dX4_init_54 rfl (Or.inl rfl) ?_
  refine r_bipush O (v := 6) dX4_init_55 (by decide) ?_
  obtain ⟨h13, eh13, hf⟩ := bnd hf
  refine r_newI O waI (len := 6) (by decide) (by decide) (by decide) (by decide) (by decide) dX4_init_57 ?_
  rw [Option.some.inj eh13]
  obtain ⟨h14, eh14, hf⟩ := bnd hf
  refine r_pPF O hin cf4 6 (by decide) rfl fl_X4_30 rfl rfl eh14 dX4_init_59 ?_
  refine r_aload_n O 0 dX4_init_62 rfl (Or.inl rfl) ?_
  refine r_bipush O (v := 6) dX4_init_63 (by decide) ?_
  obtain ⟨h15, eh15, hf⟩ := bnd hf
  refine r_newI O waI (len := 6) (by decide) (by decide) (by decide) (by decide) (by decide) dX4_init_65 ?_
  rw [Option.some.inj eh15]
  obtain ⟨h16, eh16, hf⟩ := bnd hf
  refine r_pPF O hin cf4 7 (by decide) rfl fl_X4_33 rfl rfl eh16 dX4_init_67 ?_
  refine r_aload_n O 0 dX4_init_70 rfl (Or.inl rfl) ?_
  obtain ⟨x17, ex17, hf⟩ := bnd hf
  refine r_gP O cf4 2 (by decide) rfl fl_X4_18 ex17 dX4_init_71 ?_
  refine r_iconst O (v := -1) dX4_init_74 (by decide) ?_
  obtain ⟨h19, eh19, hf⟩ := bnd hf
  refine r_callS (av := [.ref x17, .int (-1)]) (st := []) O (c_J7_fill_53178 eh19) mf_J7_fill_53178 ml_X4_36 ms_J7_fill_53178 (by decide) (Nat.le_of_ble_eq_true rfl) (by decide) dX4_init_75 ?_
  refine r_aload_n O 0 dX4_init_78 rfl (Or.inl rfl) ?_
  obtain ⟨x20, ex20, hf⟩ := bnd hf
  refine r_gP O cf4 3 (by decide) rfl fl_X4_21 ex20 dX4_init_79 ?_
  refine r_iconst O (v := -1) dX4_init_82 (by decide) ?_
  obtain ⟨h22, eh22, hf⟩ := bnd hf
  refine r_callS (av := [.ref x20, .int (-1)]) (st := []) O (c_J7_fill_53178 eh22) mf_J7_fill_53178 ml_X4_36 ms_J7_fill_53178 (by decide) (Nat.le_of_ble_eq_true rfl) (by decide) dX4_init_83 ?_
  refine r_aload_n O 0 dX4_init_86 rfl (Or.inl rfl) ?_
  obtain ⟨x23, ex23, hf⟩ := bnd hf
  refine r_gP O cf4 4 (by decide) rfl fl_X4_24 ex23 dX4_init_87 ?_
  refine r_iconst O (v := -1) dX4_init_90 (by decide) ?_
  obtain ⟨h25, eh25, hf⟩ := bnd hf
  refine r_callS (av := [.ref x23, .int (-1)]) (st := []) O (c_J7_fill_53178 eh25) mf_J7_fill_53178 ml_X4_36 ms_J7_fill_53178 (by decide) (Nat.le_of_ble_eq_true rfl) (by decide) dX4_init_91 ?_
  obtain rfl := Option.some.inj hf
  exact r_vret O hr rfl rfl (by decide) (by decide) dX4_init_94
def f_X6_init (h : AH) (a0 : Nat) : Option AH :=
Option.bind (some (nw h 10 258)) fun h1 =>
Option.bind (pP h1 6 a0 0 (aN h)) fun h2 =>
some h2
set_option maxRecDepth 100000 in
set_option maxHeartbeats 4000000 in
theorem c_X6_init {l : Launch} {G : GT} {h : AH} {a0 : Nat} {r : AH} (hf : f_X6_init h a0 = some r) : Cn l yX6_init cX6_init 1 none 1 20 1 258 G h [.ref a0] (.ok none) r := by
  refine Cn.of (by decide) (Nat.le_of_ble_eq_true rfl) ?_
  intro p e s m args below meth c O hr hx hin
  have O : OkC p l s m args meth c G cX6_init 1 RX6 := O
  unfold f_X6_init at hf
  refine AW.sub (lv' := [(0, .ref a0)]) [0] rfl ?_
  refine r_aload_n O 0 dX6_init_0 rfl (Or.inl rfl) ?_
  refine r_objInit O ml_X6_3 (by decide) (by decide) (Nat.le_of_ble_eq_true rfl) dX6_init_1 ?_
  refine r_aload_n O 0 dX6_init_4 rfl (Or.inl rfl) ?_
  refine r_sipush O (v := 258) dX6_init_5 (by decide) ?_
  obtain ⟨h1, eh1, hf⟩ := bnd hf
  refine r_newI O waI (len := 258) (by decide) (by decide) (by decide) (by decide) (by decide) dX6_init_8 ?_
  rw [Option.some.inj eh1]
  obtain ⟨h2, eh2, hf⟩ := bnd hf
  refine r_pPF O hin cf6 0 (by decide) rfl fl_X6_9 rfl rfl eh2 dX6_init_10 ?_
  obtain rfl := Option.some.inj hf
  exact r_vret O hr rfl rfl (by decide) (by decide) dX6_init_13
def f_X5_init (h : AH) (a0 : Nat) (a1 : Nat) (a2 : Nat) : Option AH :=
Option.bind (some (nw h 11 1290)) fun h1 =>
Option.bind (pP h1 5 a0 1 (aN h)) fun h2 =>
Option.bind (some (nw h2 11 5)) fun h3 =>
Option.bind (pP h3 5 a0 2 (aN h2)) fun h4 =>
Option.bind (some (nw h4 11 5)) fun h5 =>
Option.bind (pP h5 5 a0 3 (aN h4)) fun h6 =>
Option.bind (some (nw h6 11 5)) fun h7 =>
Option.bind (pP h7 5 a0 4 (aN h6)) fun h8 =>
Option.bind (some (nw h8 10 258)) fun h9 =>
Option.bind (pP h9 5 a0 5 (aN h8)) fun h10 =>
Option.bind (some (nw h10 10 258)) fun h11 =>
Option.bind (pP h11 5 a0 6 (aN h10)) fun h12 =>
Option.bind (some (nw h12 10 258)) fun h13 =>
Option.bind (pP h13 5 a0 7 (aN h12)) fun h14 =>
Option.bind (some (nw h14 10 258)) fun h15 =>
Option.bind (pP h15 5 a0 8 (aN h14)) fun h16 =>
Option.bind (some (nw h16 6 0)) fun h17 =>
Option.bind (f_X6_init h17 (aN h16)) fun h19 =>
Option.bind (pP h19 5 a0 9 (aN h16)) fun h20 =>
Option.bind (some (nw h20 6 0)) fun h21 =>
Option.bind (f_X6_init h21 (aN h20)) fun h23 =>
Option.bind (pP h23 5 a0 10 (aN h20)) fun h24 =>
Option.bind (some (nw h24 6 0)) fun h25 =>
Option.bind (f_X6_init h25 (aN h24)) fun h27 =>
Option.bind (pP h27 5 a0 11 (aN h24)) fun h28 =>
Option.bind (pP h28 5 a0 0 a1) fun h29 =>
Option.bind (pP h29 5 a0 12 a2) fun h30 =>
some h30
set_option maxRecDepth 100000 in
set_option maxHeartbeats 4000000 in
theorem c_X5_init {l : Launch} {G : GT} {h : AH} {a0 : Nat} {a1 : Nat} {a2 : Nat} {r : AH} (hf : f_X5_init h a0 a1 a2 = some r) : Cn l yX5_init cX5_init 3 none 2 40 14 3117 G h [.ref a0, .ref a1, .ref a2] (.ok none) r := by
  refine Cn.of (by decide) (Nat.le_of_ble_eq_true rfl) ?_
  intro p e s m args below meth c O hr hx hin
  have O : OkC p l s m args meth c G cX5_init 3 RX5 := O
  unfold f_X5_init at hf
  refine AW.sub (lv' := [(0, .ref a0), (1, .ref a1), (2, .ref a2)]) [0, 1, 2] rfl ?_
  refine r_aload_n O 0 dX5_init_0 rfl (Or.inl rfl) ?_
  refine r_objInit O ml_X5_3 (by decide) (by decide) (Nat.le_of_ble_eq_true rfl) dX5_init_1 ?_
  refine r_aload_n O 0 dX5_init_4 rfl (Or.inl rfl) ?_
  refine r_sipush O (v := 1290) dX5_init_5 (by decide) ?_
  obtain ⟨h1, eh1, hf⟩ := bnd hf
  refine r_newJ O waJ (len := 1290) (by decide) (by decide) (by decide) (by decide) (by decide) dX5_init_8 ?_
  rw [Option.some.inj eh1]
  obtain ⟨h2, eh2, hf⟩ := bnd hf
  refine r_pPF O hin cf5 1 (by decide) rfl fl_X5_9 rfl rfl eh2 dX5_init_10 ?_
  refine r_aload_n O 0 dX5_init_13 rfl (Or.inl rfl) ?_
  refine r_iconst O (v := 5) dX5_init_14 (by decide) ?_
  obtain ⟨h3, eh3, hf⟩ := bnd hf
  refine r_newJ O waJ (len := 5) (by decide) (by decide) (by decide) (by decide) (by decide) dX5_init_15 ?_
  rw [Option.some.inj eh3]
  obtain ⟨h4, eh4, hf⟩ := bnd hf
  refine r_pPF O hin cf5 2 (by decide) rfl fl_X5_15 rfl rfl eh4 dX5_init_17 ?_
  refine r_aload_n O 0 dX5_init_20 rfl (Or.inl rfl) ?_
  refine r_iconst O (v := 5) dX5_init_21 (by decide) ?_
  obtain ⟨h5, eh5, hf⟩ := bnd hf
  refine r_newJ O waJ (len := 5) (by decide) (by decide) (by decide) (by decide) (by decide) dX5_init_22 ?_
  rw [Option.some.inj eh5]
  obtain ⟨h6, eh6, hf⟩ := bnd hf
  refine r_pPF O hin cf5 3 (by decide) rfl fl_X5_18 rfl rfl eh6 dX5_init_24 ?_
  refine r_aload_n O 0 dX5_init_27 rfl (Or.inl rfl) ?_
  refine r_iconst O (v := 5) dX5_init_28 (by decide) ?_
  obtain ⟨h7, eh7, hf⟩ := bnd hf
  refine r_newJ O waJ (len := 5) (by decide) (by decide) (by decide) (by decide) (by decide) dX5_init_29 ?_
  rw [Option.some.inj eh7]
  obtain ⟨h8, eh8, hf⟩ := bnd hf
  refine r_pPF O hin cf5 4 (by decide) rfl fl_X5_21 rfl rfl eh8 dX5_init_31 ?_
  refine r_aload_n O 0 dX5_init_34 rfl (Or.inl rfl) ?_
  refine r_sipush O (v := 258) dX5_init_35 (by decide) ?_
  obtain ⟨h9, eh9, hf⟩ := bnd hf
  refine r_newI O waI (len := 258) (by decide) (by decide) (by decide) (by decide) (by decide) dX5_init_38 ?_
  rw [Option.some.inj eh9]
  obtain ⟨h10, eh10, hf⟩ := bnd hf
  refine r_pPF O hin cf5 5 (by decide) rfl fl_X5_24 rfl rfl eh10 dX5_init_40 ?_
  refine r_aload_n O 0 dX5_init_43 rfl (Or.inl rfl) ?_
  refine r_sipush O (v := 258) dX5_init_44 (by decide) ?_
  obtain ⟨h11, eh11, hf⟩ := bnd hf
  refine r_newI O waI (len := 258) (by decide) (by decide) (by decide) (by decide) (by decide) dX5_init_47 ?_
  rw [Option.some.inj eh11]
  obtain ⟨h12, eh12, hf⟩ := bnd hf
  refine r_pPF O hin cf5 6 (by decide) rfl fl_X5_28 rfl rfl eh12 dX5_init_49 ?_
  refine r_aload_n O 0 dX5_init_52 rfl (Or.inl rfl) ?_
  refine r_sipush O (v := 258) dX5_init_53 (by decide) ?_
  obtain ⟨h13, eh13, hf⟩ := bnd hf
  refine r_newI O waI (len := 258) (by decide) (by decide) (by decide) (by decide) (by decide) dX5_init_56 ?_
  rw [Option.some.inj eh13]
  obtain ⟨h14, eh14, hf⟩ := bnd hf
  refine r_pPF O hin cf5 7 (by decide) rfl fl_X5_31 rfl rfl eh14 dX5_init_58 ?_
  refine r_aload_n O 0 dX5_init_61 rfl (Or.inl rfl) ?_
  refine r_sipush O (v := 258) dX5_init_62 (by decide) ?_
  obtain ⟨h15, eh15, hf⟩ := bnd hf
  refine r_newI O waI (len := 258) (by decide) (by decide) (by decide) (by decide) (by decide) dX5_init_65 ?_
  rw [Option.some.inj eh15]
  obtain ⟨h16, eh16, hf⟩ := bnd hf
  refine r_pPF O hin cf5 8 (by decide) rfl fl_X5_34 rfl rfl eh16 dX5_init_67 ?_
  refine r_aload_n O 0 dX5_init_70 rfl (Or.inl rfl) ?_
  obtain ⟨h17, eh17, hf⟩ := bnd hf
  refine r_new O cf6 kl_X5_37 (by decide) (by decide) dX5_init_71 ?_
  rw [Option.some.inj eh17]
  refine r_dup O dX5_init_74 rfl ?_
  obtain ⟨h19, eh19, hf⟩ := bnd hf
  refine r_callIN (av := []) (st := [.ref (aN h16), .ref a0]) O (c_X6_init eh19) mf_X6_init rfl mn_X5_39 mi_X6_init (by decide) (Nat.le_of_ble_eq_true rfl) (by decide) dX5_init_75 ?_
  obtain ⟨h20, eh20, hf⟩ := bnd hf
  refine r_pPF O hin cf5 9 (by decide) rfl fl_X5_40 rfl rfl eh20 dX5_init_78 ?_
  refine r_aload_n O 0 dX5_init_81 rfl (Or.inl rfl) ?_
  obtain ⟨h21, eh21, hf⟩ := bnd hf
  refine r_new O cf6 kl_X5_37 (by decide) (by decide) dX5_init_82 ?_
  rw [Option.some.inj eh21]
  refine r_dup O dX5_init_85 rfl ?_
  obtain ⟨h23, eh23, hf⟩ := bnd hf
  refine r_callIN (av := []) (st := [.ref (aN h20), .ref a0]) O (c_X6_init eh23) mf_X6_init rfl mn_X5_39 mi_X6_init (by decide) (Nat.le_of_ble_eq_true rfl) (by decide) dX5_init_86 ?_
  obtain ⟨h24, eh24, hf⟩ := bnd hf
  refine r_pPF O hin cf5 10 (by decide) rfl fl_X5_44 rfl rfl eh24 dX5_init_89 ?_
  refine r_aload_n O 0 dX5_init_92 rfl (Or.inl rfl) ?_
  obtain ⟨h25, eh25, hf⟩ := bnd hf
  refine r_new O cf6 kl_X5_37 (by decide) (by decide) dX5_init_93 ?_
  rw [Option.some.inj eh25]
  refine r_dup O dX5_init_96 rfl ?_
  obtain ⟨h27, eh27, hf⟩ := bnd hf
  refine r_callIN (av := []) (st := [.ref (aN h24), .ref a0]) O (c_X6_init eh27) mf_X6_init rfl mn_X5_39 mi_X6_init (by decide) (Nat.le_of_ble_eq_true rfl) (by decide) dX5_init_97 ?_
  obtain ⟨h28, eh28, hf⟩ := bnd hf
  refine r_pPF O hin cf5 11 (by decide) rfl fl_X5_47 rfl rfl eh28 dX5_init_100 ?_
  refine r_aload_n O 0 dX5_init_103 rfl (Or.inl rfl) ?_
  refine r_aload_n O 1 dX5_init_104 rfl (Or.inl rfl) ?_
  obtain ⟨h29, eh29, hf⟩ := bnd hf
  refine r_pPF O hin cf5 0 (by decide) rfl fl_X5_50 rfl rfl eh29 dX5_init_105 ?_
  refine r_aload_n O 0 dX5_init_108 rfl (Or.inl rfl) ?_
  refine r_aload_n O 2 dX5_init_109 rfl (Or.inl rfl) ?_
  obtain ⟨h30, eh30, hf⟩ := bnd hf
  refine r_pP O cf5 12 (by decide) rfl fl_X5_54 rfl eh30 dX5_init_110 ?_
  obtain rfl := Option.some.inj hf
  exact r_vret O hr rfl rfl (by decide) (by decide) dX5_init_113
def f_X7_init (h : AH) (a0 : Nat) (a1 : Nat) (a2 : Nat) (a3 : Nat) : Option AH :=
Option.bind (some (nw h 11 8)) fun h1 =>
Option.bind (pP h1 7 a0 1 (aN h)) fun h2 =>
Option.bind (pP h2 7 a0 0 a1) fun h3 =>
Option.bind (pP h3 7 a0 6 a2) fun h4 =>
Option.bind (pP h4 7 a0 7 a3) fun h5 =>
some h5
set_option maxRecDepth 100000 in
set_option maxHeartbeats 4000000 in
theorem c_X7_init {l : Launch} {G : GT} {h : AH} {a0 : Nat} {a1 : Nat} {a2 : Nat} {a3 : Nat} {r : AH} (hf : f_X7_init h a0 a1 a2 a3 = some r) : Cn l yX7_init cX7_init 4 none 1 20 1 8 G h [.ref a0, .ref a1, .ref a2, .ref a3] (.ok none) r := by
  refine Cn.of (by decide) (Nat.le_of_ble_eq_true rfl) ?_
  intro p e s m args below meth c O hr hx hin
  have O : OkC p l s m args meth c G cX7_init 4 RX7 := O
  unfold f_X7_init at hf
  refine AW.sub (lv' := [(0, .ref a0), (1, .ref a1), (2, .ref a2), (3, .ref a3)]) [0, 1, 2, 3] rfl ?_
  refine r_aload_n O 0 dX7_init_0 rfl (Or.inl rfl) ?_
  refine r_objInit O ml_X7_3 (by decide) (by decide) (Nat.le_of_ble_eq_true rfl) dX7_init_1 ?_
  refine r_aload_n O 0 dX7_init_4 rfl (Or.inl rfl) ?_
  refine r_bipush O (v := 8) dX7_init_5 (by decide) ?_
  obtain ⟨h1, eh1, hf⟩ := bnd hf
  refine r_newJ O waJ (len := 8) (by decide) (by decide) (by decide) (by decide) (by decide) dX7_init_7 ?_
  rw [Option.some.inj eh1]
  obtain ⟨h2, eh2, hf⟩ := bnd hf
  refine r_pPF O hin cf7 1 (by decide) rfl fl_X7_9 rfl rfl eh2 dX7_init_9 ?_
  refine r_aload_n O 0 dX7_init_12 rfl (Or.inl rfl) ?_
  refine r_aload_n O 1 dX7_init_13 rfl (Or.inl rfl) ?_
  obtain ⟨h3, eh3, hf⟩ := bnd hf
  refine r_pPF O hin cf7 0 (by decide) rfl fl_X7_15 rfl rfl eh3 dX7_init_14 ?_
  refine r_aload_n O 0 dX7_init_17 rfl (Or.inl rfl) ?_
  refine r_aload_n O 2 dX7_init_18 rfl (Or.inl rfl) ?_
  obtain ⟨h4, eh4, hf⟩ := bnd hf
  refine r_pP O cf7 6 (by decide) rfl fl_X7_19 rfl eh4 dX7_init_19 ?_
  refine r_aload_n O 0 dX7_init_22 rfl (Or.inl rfl) ?_
  refine r_aload_n O 3 dX7_init_23 rfl (Or.inl rfl) ?_
  obtain ⟨h5, eh5, hf⟩ := bnd hf
  refine r_pP O cf7 7 (by decide) rfl fl_X7_23 rfl eh5 dX7_init_24 ?_
  obtain rfl := Option.some.inj hf
  exact r_vret O hr rfl rfl (by decide) (by decide) dX7_init_27
def f_X1_init (h : AH) (a0 : Nat) (a1 : Nat) (a2 : Nat) (a3 : Nat) : Option AH :=
Option.bind (some (nw h 6 0)) fun h1 =>
Option.bind (f_X6_init h1 (aN h)) fun h3 =>
Option.bind (pP h3 1 a0 3 (aN h)) fun h4 =>
Option.bind (some (nw h4 11 258)) fun h5 =>
Option.bind (pP h5 1 a0 4 (aN h4)) fun h6 =>
Option.bind (pI h6 1 a0 6 (-1)) fun h7 =>
Option.bind (pI h7 1 a0 7 (-1)) fun h8 =>
Option.bind (pI h8 1 a0 8 (-1)) fun h9 =>
Option.bind (pP h9 1 a0 0 a1) fun h10 =>
Option.bind (pP h10 1 a0 9 a2) fun h11 =>
Option.bind (pP h11 1 a0 10 a2) fun h12 =>
Option.bind (pP h12 1 a0 11 a3) fun h13 =>
Option.bind (some (nw h13 5 0)) fun h14 =>
Option.bind (f_X5_init h14 (aN h13) a1 a2) fun h16 =>
Option.bind (pP h16 1 a0 1 (aN h13)) fun h17 =>
Option.bind (some (nw h17 7 0)) fun h18 =>
Option.bind (f_X7_init h18 (aN h17) a1 a2 a3) fun h20 =>
Option.bind (pP h20 1 a0 2 (aN h17)) fun h21 =>
some h21
set_option maxRecDepth 100000 in
set_option maxHeartbeats 4000000 in
theorem c_X1_init {l : Launch} {G : GT} {h : AH} {a0 : Nat} {a1 : Nat} {a2 : Nat} {a3 : Nat} {r : AH} (hf : f_X1_init h a0 a1 a2 a3 = some r) : Cn l yX1_init cX1_init 4 none 3 62 20 3665 G h [.ref a0, .ref a1, .ref a2, .ref a3] (.ok none) r := by
  refine Cn.of (by decide) (Nat.le_of_ble_eq_true rfl) ?_
  intro p e s m args below meth c O hr hx hin
  have O : OkC p l s m args meth c G cX1_init 4 RX1 := O
  unfold f_X1_init at hf
  refine AW.sub (lv' := [(0, .ref a0), (1, .ref a1), (2, .ref a2), (3, .ref a3)]) [0, 1, 2, 3] rfl ?_
  refine r_aload_n O 0 dX1_init_0 rfl (Or.inl rfl) ?_
  refine r_objInit O ml_X1_3 (by decide) (by decide) (Nat.le_of_ble_eq_true rfl) dX1_init_1 ?_
  refine r_aload_n O 0 dX1_init_4 rfl (Or.inl rfl) ?_
  obtain ⟨h1, eh1, hf⟩ := bnd hf
  refine r_new O cf6 kl_X1_9 (by decide) (by decide) dX1_init_5 ?_
  rw [Option.some.inj eh1]
  refine r_dup O dX1_init_8 rfl ?_
  obtain ⟨h3, eh3, hf⟩ := bnd hf
  refine r_callIN (av := []) (st := [.ref (aN h), .ref a0]) O (c_X6_init eh3) mf_X6_init rfl mn_X1_11 mi_X6_init (by decide) (Nat.le_of_ble_eq_true rfl) (by decide) dX1_init_9 ?_
  obtain ⟨h4, eh4, hf⟩ := bnd hf
  refine r_pPF O hin cf1 3 (by decide) rfl fl_X1_12 rfl rfl eh4 dX1_init_12 ?_
  refine r_aload_n O 0 dX1_init_15 rfl (Or.inl rfl) ?_
  refine r_sipush O (v := 258) dX1_init_16 (by decide) ?_
  obtain ⟨h5, eh5, hf⟩ := bnd hf
  refine r_newJ O waJ (len := 258) (by decide) (by decide) (by decide) (by decide) (by decide) dX1_init_19 ?_
  rw [Option.some.inj eh5]
  obtain ⟨h6, eh6, hf⟩ := bnd hf
  refine r_pPF O hin cf1 4 (by decide) rfl fl_X1_18 rfl rfl eh6 dX1_init_21 ?_
  refine r_aload_n O 0 dX1_init_24 rfl (Or.inl rfl) ?_
  refine r_iconst O (v := -1) dX1_init_25 (by decide) ?_
  obtain ⟨h7, eh7, hf⟩ := bnd hf
  refine r_pI O cf1 6 (by decide) rfl fl_X1_22 rfl eh7 dX1_init_26 ?_
  refine r_aload_n O 0 dX1_init_29 rfl (Or.inl rfl) ?_
  refine r_iconst O (v := -1) dX1_init_30 (by decide) ?_
  obtain ⟨h8, eh8, hf⟩ := bnd hf
  refine r_pI O cf1 7 (by decide) rfl fl_X1_26 rfl eh8 dX1_init_31 ?_
  refine r_aload_n O 0 dX1_init_34 rfl (Or.inl rfl) ?_
  refine r_iconst O (v := -1) dX1_init_35 (by decide) ?_
  obtain ⟨h9, eh9, hf⟩ := bnd hf
  refine r_pI O cf1 8 (by decide) rfl fl_X1_29 rfl eh9 dX1_init_36 ?_
  refine r_aload_n O 0 dX1_init_39 rfl (Or.inl rfl) ?_
  refine r_aload_n O 1 dX1_init_40 rfl (Or.inl rfl) ?_
  obtain ⟨h10, eh10, hf⟩ := bnd hf
  refine r_pPF O hin cf1 0 (by decide) rfl fl_X1_32 rfl rfl eh10 dX1_init_41 ?_
  refine r_aload_n O 0 dX1_init_44 rfl (Or.inl rfl) ?_
  refine r_aload_n O 2 dX1_init_45 rfl (Or.inl rfl) ?_
  obtain ⟨h11, eh11, hf⟩ := bnd hf
  refine r_pP O cf1 9 (by decide) rfl fl_X1_36 rfl eh11 dX1_init_46 ?_
  refine r_aload_n O 0 dX1_init_49 rfl (Or.inl rfl) ?_
  refine r_aload_n O 2 dX1_init_50 rfl (Or.inl rfl) ?_
  obtain ⟨h12, eh12, hf⟩ := bnd hf
  refine r_pP O cf1 10 (by decide) rfl fl_X1_40 rfl eh12 dX1_init_51 ?_
  refine r_aload_n O 0 dX1_init_54 rfl (Or.inl rfl) ?_
  refine r_aload_n O 3 dX1_init_55 rfl (Or.inl rfl) ?_
  obtain ⟨h13, eh13, hf⟩ := bnd hf
  refine r_pP O cf1 11 (by decide) rfl fl_X1_43 rfl eh13 dX1_init_56 ?_
  refine r_aload_n O 0 dX1_init_59 rfl (Or.inl rfl) ?_
  obtain ⟨h14, eh14, hf⟩ := bnd hf
  refine r_new O cf5 kl_X1_46 (by decide) (by decide) dX1_init_60 ?_
  rw [Option.some.inj eh14]
  refine r_dup O dX1_init_63 rfl ?_
  refine r_aload_n O 1 dX1_init_64 rfl (Or.inl rfl) ?_
  refine r_aload_n O 2 dX1_init_65 rfl (Or.inl rfl) ?_
  obtain ⟨h16, eh16, hf⟩ := bnd hf
  refine r_callI (av := [.ref a1, .ref a2]) (st := [.ref (aN h13), .ref a0]) O (c_X5_init eh16) mf_X5_init rfl ml_X1_48 mi_X5_init (by decide) (Nat.le_of_ble_eq_true rfl) (by decide) dX1_init_66 ?_
  obtain ⟨h17, eh17, hf⟩ := bnd hf
  refine r_pPF O hin cf1 1 (by decide) rfl fl_X1_51 rfl rfl eh17 dX1_init_69 ?_
  refine r_aload_n O 0 dX1_init_72 rfl (Or.inl rfl) ?_
  obtain ⟨h18, eh18, hf⟩ := bnd hf
  refine r_new O cf7 kl_X1_55 (by decide) (by decide) dX1_init_73 ?_
  rw [Option.some.inj eh18]
  refine r_dup O dX1_init_76 rfl ?_
  refine r_aload_n O 1 dX1_init_77 rfl (Or.inl rfl) ?_
  refine r_aload_n O 2 dX1_init_78 rfl (Or.inl rfl) ?_
  refine r_aload_n O 3 dX1_init_79 rfl (Or.inl rfl) ?_
  obtain ⟨h20, eh20, hf⟩ := bnd hf
  refine r_callI (av := [.ref a1, .ref a2, .ref a3]) (st := [.ref (aN h17), .ref a0]) O (c_X7_init eh20) mf_X7_init rfl ml_X1_57 mi_X7_init (by decide) (Nat.le_of_ble_eq_true rfl) (by decide) dX1_init_80 ?_
  obtain ⟨h21, eh21, hf⟩ := bnd hf
  refine r_pPF O hin cf1 2 (by decide) rfl fl_X1_60 rfl rfl eh21 dX1_init_83 ?_
  obtain rfl := Option.some.inj hf
  exact r_vret O hr rfl rfl (by decide) (by decide) dX1_init_86
def f_X3_init (h : AH) (a0 : Nat) : Option AH :=
Option.bind (some (nw h 13 60)) fun h1 =>
Option.bind (pP h1 3 a0 0 (aN h)) fun h2 =>
some h2
set_option maxRecDepth 100000 in
set_option maxHeartbeats 4000000 in
theorem c_X3_init {l : Launch} {G : GT} {h : AH} {a0 : Nat} {r : AH} (hf : f_X3_init h a0 = some r) : Cn l yX3_init cX3_init 1 none 1 20 1 60 G h [.ref a0] (.ok none) r := by
  refine Cn.of (by decide) (Nat.le_of_ble_eq_true rfl) ?_
  intro p e s m args below meth c O hr hx hin
  have O : OkC p l s m args meth c G cX3_init 1 RX3 := O
  unfold f_X3_init at hf
  refine AW.sub (lv' := [(0, .ref a0)]) [0] rfl ?_
  refine r_aload_n O 0 dX3_init_0 rfl (Or.inl rfl) ?_
  refine r_objInit O ml_X3_3 (by decide) (by decide) (Nat.le_of_ble_eq_true rfl) dX3_init_1 ?_
  refine r_aload_n O 0 dX3_init_4 rfl (Or.inl rfl) ?_
  refine r_bipush O (v := 60) dX3_init_5 (by decide) ?_
  obtain ⟨h1, eh1, hf⟩ := bnd hf
  refine r_newM O kl_X3_9 (len := 60) (by decide) (by decide) (by decide) (by decide) (by decide) dX3_init_7 ?_
  rw [Option.some.inj eh1]
  obtain ⟨h2, eh2, hf⟩ := bnd hf
  refine r_pPF O hin cf3 0 (by decide) rfl fl_X3_11 rfl rfl eh2 dX3_init_10 ?_
  obtain rfl := Option.some.inj hf
  exact r_vret O hr rfl rfl (by decide) (by decide) dX3_init_13
def f_X8_init (h : AH) (a0 : Nat) : Option AH :=
Option.bind (some (nw h 0 0)) fun h1 =>
Option.bind (f_X0_init h1 (aN h)) fun h3 =>
Option.bind (pP h3 8 a0 0 (aN h)) fun h4 =>
Option.bind (some (nw h4 4 0)) fun h5 =>
Option.bind (f_X4_init h5 (aN h4)) fun h7 =>
Option.bind (pP h7 8 a0 1 (aN h4)) fun h8 =>
Option.bind (some (nw h8 4 0)) fun h9 =>
Option.bind (f_X4_init h9 (aN h8)) fun h11 =>
Option.bind (pP h11 8 a0 2 (aN h8)) fun h12 =>
Option.bind (some (nw h12 11 258)) fun h13 =>
Option.bind (pP h13 8 a0 3 (aN h12)) fun h14 =>
Option.bind (some (nw h14 6 0)) fun h15 =>
Option.bind (f_X6_init h15 (aN h14)) fun h17 =>
Option.bind (pP h17 8 a0 4 (aN h14)) fun h18 =>
Option.bind (some (nw h18 6 0)) fun h19 =>
Option.bind (f_X6_init h19 (aN h18)) fun h21 =>
Option.bind (pP h21 8 a0 5 (aN h18)) fun h22 =>
Option.bind (some (nw h22 1 0)) fun h23 =>
Option.bind (gP h23 8 a0 0) fun x24 =>
Option.bind (gP h23 8 a0 2) fun x25 =>
Option.bind (gP h23 8 a0 3) fun x26 =>
Option.bind (f_X1_init h23 (aN h22) x24 x25 x26) fun h28 =>
Option.bind (pP h28 8 a0 6 (aN h22)) fun h29 =>
Option.bind (some (nw h29 3 0)) fun h30 =>
Option.bind (f_X3_init h30 (aN h29)) fun h32 =>
Option.bind (pP h32 8 a0 7 (aN h29)) fun h33 =>
some h33
set_option maxRecDepth 100000 in
set_option maxHeartbeats 4000000 in
theorem c_X8_init {l : Launch} {G : GT} {h : AH} {a0 : Nat} {r : AH} (hf : f_X8_init h a0 = some r) : Cn l yX8_init cX8_init 1 none 4 85 52 6119 G h [.ref a0] (.ok none) r := by
  refine Cn.of (by decide) (Nat.le_of_ble_eq_true rfl) ?_
  intro p e s m args below meth c O hr hx hin
  have O : OkC p l s m args meth c G cX8_init 1 RX8 := O
  unfold f_X8_init at hf
  refine AW.sub (lv' := [(0, .ref a0)]) [0] rfl ?_
  refine r_aload_n O 0 dX8_init_0 rfl (Or.inl rfl) ?_
  refine r_objInit O ml_X8_1 (by decide) (by decide) (Nat.le_of_ble_eq_true rfl) dX8_init_1 ?_
  refine r_aload_n O 0 dX8_init_4 rfl (Or.inl rfl) ?_
  obtain ⟨h1, eh1, hf⟩ := bnd hf
  refine r_new O cf0 kl_X8_7 (by decide) (by decide) dX8_init_5 ?_
  rw [Option.some.inj eh1]
  refine r_dup O dX8_init_8 rfl ?_
  obtain ⟨h3, eh3, hf⟩ := bnd hf
  refine r_callIN (av := []) (st := [.ref (aN h), .ref a0]) O (c_X0_init eh3) mf_X0_init rfl mn_X8_9 mi_X0_init (by decide) (Nat.le_of_ble_eq_true rfl) (by decide) dX8_init_9 ?_
  obtain ⟨h4, eh4, hf⟩ := bnd hf
  refine r_pPF O hin cf8 0 (by decide) rfl fl_X8_10 rfl rfl eh4 dX8_init_12 ?_
  refine r_aload_n O 0 dX8_init_15 rfl (Or.inl rfl) ?_
  obtain ⟨h5, eh5, hf⟩ := bnd hf
  refine r_new O cf4 kl_X8_16 (by decide) (by decide) dX8_init_16 ?_
  rw [Option.some.inj eh5]
  refine r_dup O dX8_init_19 rfl ?_
  obtain ⟨h7, eh7, hf⟩ := bnd hf
  refine r_callI (av := []) (st := [.ref (aN h4), .ref a0]) O (c_X4_init eh7) mf_X4_init rfl ml_X8_18 mi_X4_init (by decide) (Nat.le_of_ble_eq_true rfl) (by decide) dX8_init_20 ?_
  obtain ⟨h8, eh8, hf⟩ := bnd hf
  refine r_pPF O hin cf8 1 (by decide) rfl fl_X8_19 rfl rfl eh8 dX8_init_23 ?_
  refine r_aload_n O 0 dX8_init_26 rfl (Or.inl rfl) ?_
  obtain ⟨h9, eh9, hf⟩ := bnd hf
  refine r_new O cf4 kl_X8_16 (by decide) (by decide) dX8_init_27 ?_
  rw [Option.some.inj eh9]
  refine r_dup O dX8_init_30 rfl ?_
  obtain ⟨h11, eh11, hf⟩ := bnd hf
  refine r_callI (av := []) (st := [.ref (aN h8), .ref a0]) O (c_X4_init eh11) mf_X4_init rfl ml_X8_18 mi_X4_init (by decide) (Nat.le_of_ble_eq_true rfl) (by decide) dX8_init_31 ?_
  obtain ⟨h12, eh12, hf⟩ := bnd hf
  refine r_pPF O hin cf8 2 (by decide) rfl fl_X8_23 rfl rfl eh12 dX8_init_34 ?_
  refine r_aload_n O 0 dX8_init_37 rfl (Or.inl rfl) ?_
  refine r_sipush O (v := 258) dX8_init_38 (by decide) ?_
  obtain ⟨h13, eh13, hf⟩ := bnd hf
  refine r_newJ O waJ (len := 258) (by decide) (by decide) (by decide) (by decide) (by decide) dX8_init_41 ?_
  rw [Option.some.inj eh13]
  obtain ⟨h14, eh14, hf⟩ := bnd hf
  refine r_pPF O hin cf8 3 (by decide) rfl fl_X8_26 rfl rfl eh14 dX8_init_43 ?_
  refine r_aload_n O 0 dX8_init_46 rfl (Or.inl rfl) ?_
  obtain ⟨h15, eh15, hf⟩ := bnd hf
  refine r_new O cf6 kl_X8_30 (by decide) (by decide) dX8_init_47 ?_
  rw [Option.some.inj eh15]
  refine r_dup O dX8_init_50 rfl ?_
  obtain ⟨h17, eh17, hf⟩ := bnd hf
  refine r_callIN (av := []) (st := [.ref (aN h14), .ref a0]) O (c_X6_init eh17) mf_X6_init rfl mn_X8_32 mi_X6_init (by decide) (Nat.le_of_ble_eq_true rfl) (by decide) dX8_init_51 ?_
  obtain ⟨h18, eh18, hf⟩ := bnd hf
  refine r_pPF O hin cf8 4 (by decide) rfl fl_X8_33 rfl rfl eh18 dX8_init_54 ?_
  refine r_aload_n O 0 dX8_init_57 rfl (Or.inl rfl) ?_
  obtain ⟨h19, eh19, hf⟩ := bnd hf
  refine r_new O cf6 kl_X8_30 (by decide) (by decide) dX8_init_58 ?_
  rw [Option.some.inj eh19]
  refine r_dup O dX8_init_61 rfl ?_
  obtain ⟨h21, eh21, hf⟩ := bnd hf
  refine r_callIN (av := []) (st := [.ref (aN h18), .ref a0]) O (c_X6_init eh21) mf_X6_init rfl mn_X8_32 mi_X6_init (by decide) (Nat.le_of_ble_eq_true rfl) (by decide) dX8_init_62 ?_
  obtain ⟨h22, eh22, hf⟩ := bnd hf
  refine r_pPF O hin cf8 5 (by decide) rfl fl_X8_37 rfl rfl eh22 dX8_init_65 ?_
  refine r_aload_n O 0 dX8_init_68 rfl (Or.inl rfl) ?_
  obtain ⟨h23, eh23, hf⟩ := bnd hf
  refine r_new O cf1 kl_X8_40 (by decide) (by decide) dX8_init_69 ?_
  rw [Option.some.inj eh23]
  refine r_dup O dX8_init_72 rfl ?_
  refine r_aload_n O 0 dX8_init_73 rfl (Or.inl rfl) ?_
  obtain ⟨x24, ex24, hf⟩ := bnd hf
  refine r_gP O cf8 0 (by decide) rfl fl_X8_10 ex24 dX8_init_74 ?_
  refine r_aload_n O 0 dX8_init_77 rfl (Or.inl rfl) ?_
  obtain ⟨x25, ex25, hf⟩ := bnd hf
  refine r_gP O cf8 2 (by decide) rfl fl_X8_23 ex25 dX8_init_78 ?_
  refine r_aload_n O 0 dX8_init_81 rfl (Or.inl rfl) ?_
  obtain ⟨x26, ex26, hf⟩ := bnd hf
  refine r_gP O cf8 3 (by decide) rfl fl_X8_26 ex26 dX8_init_82 ?_
  obtain ⟨h28, eh28, hf⟩ := bnd hf
  refine r_callI (av := [.ref x24, .ref x25, .ref x26]) (st := [.ref (aN h22), .ref a0]) O (c_X1_init eh28) mf_X1_init rfl ml_X8_42 mi_X1_init (by decide) (Nat.le_of_ble_eq_true rfl) (by decide) dX8_init_85 ?_
  obtain ⟨h29, eh29, hf⟩ := bnd hf
  refine r_pPF O hin cf8 6 (by decide) rfl fl_X8_45 rfl rfl eh29 dX8_init_88 ?_
  refine r_aload_n O 0 dX8_init_91 rfl (Or.inl rfl) ?_
  obtain ⟨h30, eh30, hf⟩ := bnd hf
  refine r_new O cf3 kl_X8_49 (by decide) (by decide) dX8_init_92 ?_
  rw [Option.some.inj eh30]
  refine r_dup O dX8_init_95 rfl ?_
  obtain ⟨h32, eh32, hf⟩ := bnd hf
  refine r_callIN (av := []) (st := [.ref (aN h29), .ref a0]) O (c_X3_init eh32) mf_X3_init rfl mn_X8_51 mi_X3_init (by decide) (Nat.le_of_ble_eq_true rfl) (by decide) dX8_init_96 ?_
  obtain ⟨h33, eh33, hf⟩ := bnd hf
  refine r_pPF O hin cf8 7 (by decide) rfl fl_X8_52 rfl rfl eh33 dX8_init_99 ?_
  obtain rfl := Option.some.inj hf
  exact r_vret O hr rfl rfl (by decide) (by decide) dX8_init_102
def f_X8_needOpenBook (h : AH) (a0 : Nat) : Option (Except Nat Unit × AH) :=
if aK h a0 = 8 then
Option.bind (gI h 8 a0 8) fun x1 =>
if x1 = 0 then
some (.ok (), h)
else
some (.error 0, nx h)
else none
theorem kd_X8_needOpenBook {h : AH} {a0 : Nat} {r : (Except Nat Unit × AH)} (hf : f_X8_needOpenBook h a0 = some r) : aK h a0 = 8 := by
  unfold f_X8_needOpenBook at hf
  exact (ifk hf).1
set_option maxRecDepth 100000 in
set_option maxHeartbeats 4000000 in
theorem c_X8_needOpenBook {l : Launch} {G : GT} {h : AH} {a0 : Nat} {r : (Except Nat Unit × AH)} (hf : f_X8_needOpenBook h a0 = some r) : Cn l yX8_needOpenBook cX8_needOpenBook 1 none 6 90 1 6 G h [.ref a0] (r.1.map (fun x => none)) r.2 := by
  refine Cn.of (by decide) (Nat.le_of_ble_eq_true rfl) ?_
  intro p e s m args below meth c O hr hx hin
  have O : OkC p l s m args meth c G cX8_needOpenBook 1 RX8 := O
  unfold f_X8_needOpenBook at hf
  obtain ⟨hk0, hf⟩ := ifk hf
  refine AW.sub (lv' := [(0, .ref a0)]) [0] rfl ?_
  refine r_aload_n O 0 dX8_needOpenBook_0 rfl (Or.inl rfl) ?_
  obtain ⟨x1, ex1, hf⟩ := bnd hf
  refine r_gI O cf8 8 (by decide) rfl fl_X8_107 ex1 dX8_needOpenBook_1 ?_
  by_cases hc : x1 = 0
  · rw [if_pos hc] at hf
    refine r_if_eq_t (tgt := 18) O dX8_needOpenBook_4 (by decide) hc ?_
    obtain rfl := Option.some.inj hf
    exact r_vret O hr rfl rfl (by decide) (by decide) dX8_needOpenBook_18
  · rw [if_neg hc] at hf
    refine r_if_eq_f (tgt := 18) O dX8_needOpenBook_4 (by decide) hc ?_
    obtain rfl := Option.some.inj hf
    exact r_throwW 0 O hx kl_X8_63 xa_X8_63_67 st_X8_268 (by decide) (by decide) (Nat.le_of_ble_eq_true rfl) (by decide) (by decide) (by decide) dX8_needOpenBook_7 dX8_needOpenBook_10 dX8_needOpenBook_11 dX8_needOpenBook_14 dX8_needOpenBook_17
def f_X4_setFacts (h : AH) (a0 : Nat) (a1 : Int32) (a2 : Int32) (a3 : Int32) (a4 : Int32) (a5 : Int32) : Option AH :=
if aK h a0 = 4 then
Option.bind (gP h 4 a0 0) fun x1 =>
Option.bind (stI h x1 (4 * a1) a2) fun h2 =>
Option.bind (gP h2 4 a0 0) fun x3 =>
Option.bind (stI h2 x3 ((4 * a1) + 1) a3) fun h4 =>
Option.bind (gP h4 4 a0 0) fun x5 =>
Option.bind (stI h4 x5 ((4 * a1) + 2) a4) fun h6 =>
Option.bind (gP h6 4 a0 0) fun x7 =>
Option.bind (stI h6 x7 ((4 * a1) + 3) a5) fun h8 =>
some h8
else none
theorem kd_X4_setFacts {h : AH} {a0 : Nat} {a1 : Int32} {a2 : Int32} {a3 : Int32} {a4 : Int32} {a5 : Int32} {r : AH} (hf : f_X4_setFacts h a0 a1 a2 a3 a4 a5 = some r) : aK h a0 = 4 := by
  unfold f_X4_setFacts at hf
  exact (ifk hf).1
set_option maxRecDepth 100000 in
set_option maxHeartbeats 4000000 in
theorem c_X4_setFacts {l : Launch} {G : GT} {h : AH} {a0 : Nat} {a1 : Int32} {a2 : Int32} {a3 : Int32} {a4 : Int32} {a5 : Int32} {r : AH} (hf : f_X4_setFacts h a0 a1 a2 a3 a4 a5 = some r) : Cn l yX4_setFacts cX4_setFacts 7 none 0 0 0 0 G h [.ref a0, .int a1, .int a2, .int a3, .int a4, .int a5] (.ok none) r := by
  refine Cn.of (by decide) (Nat.le_of_ble_eq_true rfl) ?_
  intro p e s m args below meth c O hr hx hin
  have O : OkC p l s m args meth c G cX4_setFacts 7 RX4 := O
  unfold f_X4_setFacts at hf
  obtain ⟨hk0, hf⟩ := ifk hf
  refine AW.sub (lv' := [(0, .ref a0), (1, .int a1), (2, .int a2), (3, .int a3), (4, .int a4), (5, .int a5)]) [0, 1, 2, 3, 4, 5] rfl ?_
  refine r_iconst O (v := 4) dX4_setFacts_0 (by decide) ?_
  refine r_iload_n O 1 dX4_setFacts_1 rfl ?_
  refine r_imul O dX4_setFacts_2 ?_
  refine r_istore O [(6, .int (4 * a1)), (0, .ref a0), (1, .int a1), (2, .int a2), (3, .int a3), (4, .int a4), (5, .int a5)] dX4_setFacts_3 (by decide) rfl ?_
  refine r_aload_n O 1 dX4_setFacts_5 rfl (Or.inl rfl) ?_
  obtain ⟨x1, ex1, hf⟩ := bnd hf
  refine r_gP O cf4 0 (by decide) rfl fl_X4_9 ex1 dX4_setFacts_6 ?_
  refine r_iload O 0 dX4_setFacts_9 rfl ?_
  refine r_iload_n O 3 dX4_setFacts_11 rfl ?_
  obtain ⟨h2, eh2, hf⟩ := bnd hf
  refine r_stI O eh2 dX4_setFacts_12 ?_
  refine r_aload_n O 1 dX4_setFacts_13 rfl (Or.inl rfl) ?_
  obtain ⟨x3, ex3, hf⟩ := bnd hf
  refine r_gP O cf4 0 (by decide) rfl fl_X4_9 ex3 dX4_setFacts_14 ?_
  refine r_iload O 0 dX4_setFacts_17 rfl ?_
  refine r_iconst O (v := 1) dX4_setFacts_19 (by decide) ?_
  refine r_iadd O dX4_setFacts_20 ?_
  refine r_iload_n O 4 dX4_setFacts_21 rfl ?_
  obtain ⟨h4, eh4, hf⟩ := bnd hf
  refine r_stI O eh4 dX4_setFacts_22 ?_
  refine r_aload_n O 1 dX4_setFacts_23 rfl (Or.inl rfl) ?_
  obtain ⟨x5, ex5, hf⟩ := bnd hf
  refine r_gP O cf4 0 (by decide) rfl fl_X4_9 ex5 dX4_setFacts_24 ?_
  refine r_iload O 0 dX4_setFacts_27 rfl ?_
  refine r_iconst O (v := 2) dX4_setFacts_29 (by decide) ?_
  refine r_iadd O dX4_setFacts_30 ?_
  refine r_iload O 5 dX4_setFacts_31 rfl ?_
  obtain ⟨h6, eh6, hf⟩ := bnd hf
  refine r_stI O eh6 dX4_setFacts_33 ?_
  refine r_aload_n O 1 dX4_setFacts_34 rfl (Or.inl rfl) ?_
  obtain ⟨x7, ex7, hf⟩ := bnd hf
  refine r_gP O cf4 0 (by decide) rfl fl_X4_9 ex7 dX4_setFacts_35 ?_
  refine r_iload O 0 dX4_setFacts_38 rfl ?_
  refine r_iconst O (v := 3) dX4_setFacts_40 (by decide) ?_
  refine r_iadd O dX4_setFacts_41 ?_
  refine r_iload O 6 dX4_setFacts_42 rfl ?_
  obtain ⟨h8, eh8, hf⟩ := bnd hf
  refine r_stI O eh8 dX4_setFacts_44 ?_
  obtain rfl := Option.some.inj hf
  exact r_vret O hr rfl rfl (by decide) (by decide) dX4_setFacts_45
def f_X8_thing (h : AH) (a0 : Nat) (a1 : Int32) (a2 : Int32) (a3 : Int32) (a4 : Int32) : Option (Except Nat Int32 × AH) :=
if aK h a0 = 8 then
Option.bind (f_X8_needOpenBook h a0) fun w => match w with
| (.error k9, h2) => some (.error k9, h2)
| (.ok x1, h2) =>
Option.bind (gP h2 8 a0 0) fun x3 =>
Option.bind (gI h2 0 x3 6) fun x4 =>
if x4 < 40 then
Option.bind (gP h2 8 a0 0) fun x5 =>
Option.bind (gI h2 0 x5 6) fun x6 =>
Option.bind (gP h2 8 a0 0) fun x7 =>
Option.bind (gI h2 0 x7 6) fun x8 =>
Option.bind (pI h2 0 x7 6 (x8 + 1)) fun h9 =>
Option.bind (gP h9 8 a0 1) fun x10 =>
Option.bind (f_X4_setFacts h9 x10 x6 a1 a2 a3 a4) fun h12 =>
Option.bind (gP h12 8 a0 2) fun x13 =>
Option.bind (f_X4_setFacts h12 x13 x6 a1 a2 a3 a4) fun h15 =>
some (.ok x6, h15)
else
some (.error 0, nx h2)
else none
theorem kd_X8_thing {h : AH} {a0 : Nat} {a1 : Int32} {a2 : Int32} {a3 : Int32} {a4 : Int32} {r : (Except Nat Int32 × AH)} (hf : f_X8_thing h a0 a1 a2 a3 a4 = some r) : aK h a0 = 8 := by
  unfold f_X8_thing at hf
  exact (ifk hf).1
set_option maxRecDepth 100000 in
set_option maxHeartbeats 4000000 in
theorem c_X8_thing {l : Launch} {G : GT} {h : AH} {a0 : Nat} {a1 : Int32} {a2 : Int32} {a3 : Int32} {a4 : Int32} {r : (Except Nat Int32 × AH)} (hf : f_X8_thing h a0 a1 a2 a3 a4 = some r) : Cn l yX8_thing cX8_thing 6 (some .int) 7 110 2 12 G h [.ref a0, .int a1, .int a2, .int a3, .int a4] (r.1.map (fun x => some (.int x))) r.2 := by
  refine Cn.of (by decide) (Nat.le_of_ble_eq_true rfl) ?_
  intro p e s m args below meth c O hr hx hin
  have O : OkC p l s m args meth c G cX8_thing 6 RX8 := O
  unfold f_X8_thing at hf
  obtain ⟨hk0, hf⟩ := ifk hf
  refine AW.sub (lv' := [(0, .ref a0), (1, .int a1), (2, .int a2), (3, .int a3), (4, .int a4)]) [0, 1, 2, 3, 4] rfl ?_
  refine r_aload_n O 0 dX8_thing_0 rfl (Or.inl rfl) ?_
  obtain ⟨⟨w, h2⟩, ex1, hf⟩ := bnd hf
  cases w with
  | error k9 =>
    dsimp only at hf
    obtain rfl := Option.some.inj hf
    exact r_thrV (av := []) (st := []) O hx (c_X8_needOpenBook ex1) mf_X8_needOpenBook cf8 (kd_X8_needOpenBook ex1) ml_X8_56 mi_X8_needOpenBook mv_X8_needOpenBook (by decide) (Nat.le_of_ble_eq_true rfl) (by decide) (by decide) (by decide) dX8_thing_1
  | ok x1 =>
    dsimp only at hf
    refine r_callV (av := []) (st := []) O (c_X8_needOpenBook ex1) mf_X8_needOpenBook cf8 (kd_X8_needOpenBook ex1) ml_X8_56 mi_X8_needOpenBook mv_X8_needOpenBook (by decide) (Nat.le_of_ble_eq_true rfl) (by decide) dX8_thing_1 ?_
    refine r_aload_n O 0 dX8_thing_4 rfl (Or.inl rfl) ?_
    obtain ⟨x3, ex3, hf⟩ := bnd hf
    refine r_gP O cf8 0 (by decide) rfl fl_X8_10 ex3 dX8_thing_5 ?_
    obtain ⟨x4, ex4, hf⟩ := bnd hf
    refine r_gI O cf0 6 (by decide) rfl fl_X8_59 ex4 dX8_thing_8 ?_
    refine r_bipush O (v := 40) dX8_thing_11 (by decide) ?_
    by_cases hc : x4 < 40
    · rw [if_pos hc] at hf
      refine r_icmp_lt_t (tgt := 26) O dX8_thing_13 (by decide) hc ?_
      refine r_aload_n O 0 dX8_thing_26 rfl (Or.inl rfl) ?_
      obtain ⟨x5, ex5, hf⟩ := bnd hf
      refine r_gP O cf8 0 (by decide) rfl fl_X8_10 ex5 dX8_thing_27 ?_
      obtain ⟨x6, ex6, hf⟩ := bnd hf
      refine r_gI O cf0 6 (by decide) rfl fl_X8_59 ex6 dX8_thing_30 ?_
      refine r_istore O [(5, .int x6), (0, .ref a0), (1, .int a1), (2, .int a2), (3, .int a3), (4, .int a4)] dX8_thing_33 (by decide) rfl ?_
      refine r_aload_n O 1 dX8_thing_35 rfl (Or.inl rfl) ?_
      obtain ⟨x7, ex7, hf⟩ := bnd hf
      refine r_gP O cf8 0 (by decide) rfl fl_X8_10 ex7 dX8_thing_36 ?_
      refine r_dup O dX8_thing_39 rfl ?_
      obtain ⟨x8, ex8, hf⟩ := bnd hf
      refine r_gI O cf0 6 (by decide) rfl fl_X8_59 ex8 dX8_thing_40 ?_
      refine r_iconst O (v := 1) dX8_thing_43 (by decide) ?_
      refine r_iadd O dX8_thing_44 ?_
      obtain ⟨h9, eh9, hf⟩ := bnd hf
      refine r_pI O cf0 6 (by decide) rfl fl_X8_59 rfl eh9 dX8_thing_45 ?_
      refine r_aload_n O 1 dX8_thing_48 rfl (Or.inl rfl) ?_
      obtain ⟨x10, ex10, hf⟩ := bnd hf
      refine r_gP O cf8 1 (by decide) rfl fl_X8_19 ex10 dX8_thing_49 ?_
      refine r_iload O 0 dX8_thing_52 rfl ?_
      refine r_iload_n O 2 dX8_thing_54 rfl ?_
      refine r_iload_n O 3 dX8_thing_55 rfl ?_
      refine r_iload_n O 4 dX8_thing_56 rfl ?_
      refine r_iload O 5 dX8_thing_57 rfl ?_
      obtain ⟨h12, eh12, hf⟩ := bnd hf
      refine r_callV (av := [.int x6, .int a1, .int a2, .int a3, .int a4]) (st := []) O (c_X4_setFacts eh12) mf_X4_setFacts cf4 (kd_X4_setFacts eh12) ml_X8_70 mi_X4_setFacts mv_X4_setFacts (by decide) (Nat.le_of_ble_eq_true rfl) (by decide) dX8_thing_59 ?_
      refine r_aload_n O 1 dX8_thing_62 rfl (Or.inl rfl) ?_
      obtain ⟨x13, ex13, hf⟩ := bnd hf
      refine r_gP O cf8 2 (by decide) rfl fl_X8_23 ex13 dX8_thing_63 ?_
      refine r_iload O 0 dX8_thing_66 rfl ?_
      refine r_iload_n O 2 dX8_thing_68 rfl ?_
      refine r_iload_n O 3 dX8_thing_69 rfl ?_
      refine r_iload_n O 4 dX8_thing_70 rfl ?_
      refine r_iload O 5 dX8_thing_71 rfl ?_
      obtain ⟨h15, eh15, hf⟩ := bnd hf
      refine r_callV (av := [.int x6, .int a1, .int a2, .int a3, .int a4]) (st := []) O (c_X4_setFacts eh15) mf_X4_setFacts cf4 (kd_X4_setFacts eh15) ml_X8_70 mi_X4_setFacts mv_X4_setFacts (by decide) (Nat.le_of_ble_eq_true rfl) (by decide) dX8_thing_73 ?_
      refine r_iload O 0 dX8_thing_76 rfl ?_
      obtain rfl := Option.some.inj hf
      exact r_iret O hr rfl rfl (by decide) (by decide) dX8_thing_78
    · rw [if_neg hc] at hf
      refine r_icmp_lt_f (tgt := 26) O dX8_thing_13 (by decide) hc ?_
      obtain rfl := Option.some.inj hf
      exact r_throw 0 O hx kl_X8_63 xa_X8_63_67 st_X8_65 (by decide) (by decide) (Nat.le_of_ble_eq_true rfl) (by decide) (by decide) (by decide) dX8_thing_16 dX8_thing_19 dX8_thing_20 dX8_thing_22 dX8_thing_25
def f_X4_setListFacts (h : AH) (a0 : Nat) (a1 : Int32) (a2 : Int32) (a3 : Int32) : Option AH :=
if aK h a0 = 4 then
Option.bind (gP h 4 a0 1) fun x1 =>
Option.bind (stI h x1 (2 * a1) a2) fun h2 =>
Option.bind (gP h2 4 a0 1) fun x3 =>
Option.bind (stI h2 x3 ((2 * a1) + 1) a3) fun h4 =>
some h4
else none
theorem kd_X4_setListFacts {h : AH} {a0 : Nat} {a1 : Int32} {a2 : Int32} {a3 : Int32} {r : AH} (hf : f_X4_setListFacts h a0 a1 a2 a3 = some r) : aK h a0 = 4 := by
  unfold f_X4_setListFacts at hf
  exact (ifk hf).1
set_option maxRecDepth 100000 in
set_option maxHeartbeats 4000000 in
theorem c_X4_setListFacts {l : Launch} {G : GT} {h : AH} {a0 : Nat} {a1 : Int32} {a2 : Int32} {a3 : Int32} {r : AH} (hf : f_X4_setListFacts h a0 a1 a2 a3 = some r) : Cn l yX4_setListFacts cX4_setListFacts 5 none 0 0 0 0 G h [.ref a0, .int a1, .int a2, .int a3] (.ok none) r := by
  refine Cn.of (by decide) (Nat.le_of_ble_eq_true rfl) ?_
  intro p e s m args below meth c O hr hx hin
  have O : OkC p l s m args meth c G cX4_setListFacts 5 RX4 := O
  unfold f_X4_setListFacts at hf
  obtain ⟨hk0, hf⟩ := ifk hf
  refine AW.sub (lv' := [(0, .ref a0), (1, .int a1), (2, .int a2), (3, .int a3)]) [0, 1, 2, 3] rfl ?_
  refine r_iconst O (v := 2) dX4_setListFacts_0 (by decide) ?_
  refine r_iload_n O 1 dX4_setListFacts_1 rfl ?_
  refine r_imul O dX4_setListFacts_2 ?_
  refine r_istore O [(4, .int (2 * a1)), (0, .ref a0), (1, .int a1), (2, .int a2), (3, .int a3)] dX4_setListFacts_3 (by decide) rfl ?_
  refine r_aload_n O 1 dX4_setListFacts_5 rfl (Or.inl rfl) ?_
  obtain ⟨x1, ex1, hf⟩ := bnd hf
  refine r_gP O cf4 1 (by decide) rfl fl_X4_15 ex1 dX4_setListFacts_6 ?_
  refine r_iload O 0 dX4_setListFacts_9 rfl ?_
  refine r_iload_n O 3 dX4_setListFacts_11 rfl ?_
  obtain ⟨h2, eh2, hf⟩ := bnd hf
  refine r_stI O eh2 dX4_setListFacts_12 ?_
  refine r_aload_n O 1 dX4_setListFacts_13 rfl (Or.inl rfl) ?_
  obtain ⟨x3, ex3, hf⟩ := bnd hf
  refine r_gP O cf4 1 (by decide) rfl fl_X4_15 ex3 dX4_setListFacts_14 ?_
  refine r_iload O 0 dX4_setListFacts_17 rfl ?_
  refine r_iconst O (v := 1) dX4_setListFacts_19 (by decide) ?_
  refine r_iadd O dX4_setListFacts_20 ?_
  refine r_iload_n O 4 dX4_setListFacts_21 rfl ?_
  obtain ⟨h4, eh4, hf⟩ := bnd hf
  refine r_stI O eh4 dX4_setListFacts_22 ?_
  obtain rfl := Option.some.inj hf
  exact r_vret O hr rfl rfl (by decide) (by decide) dX4_setListFacts_23
def f_X8_list (h : AH) (a0 : Nat) (a1 : Int32) (a2 : Int32) : Option (Except Nat Int32 × AH) :=
if aK h a0 = 8 then
Option.bind (f_X8_needOpenBook h a0) fun w => match w with
| (.error k9, h2) => some (.error k9, h2)
| (.ok x1, h2) =>
Option.bind (gP h2 8 a0 0) fun x3 =>
Option.bind (gI h2 0 x3 7) fun x4 =>
if x4 < 6 then
Option.bind (gP h2 8 a0 0) fun x5 =>
Option.bind (gI h2 0 x5 7) fun x6 =>
Option.bind (gP h2 8 a0 0) fun x7 =>
Option.bind (gI h2 0 x7 7) fun x8 =>
Option.bind (pI h2 0 x7 7 (x8 + 1)) fun h9 =>
Option.bind (gP h9 8 a0 1) fun x10 =>
Option.bind (f_X4_setListFacts h9 x10 x6 a1 a2) fun h12 =>
Option.bind (gP h12 8 a0 2) fun x13 =>
Option.bind (f_X4_setListFacts h12 x13 x6 a1 a2) fun h15 =>
some (.ok x6, h15)
else
some (.error 0, nx h2)
else none
theorem kd_X8_list {h : AH} {a0 : Nat} {a1 : Int32} {a2 : Int32} {r : (Except Nat Int32 × AH)} (hf : f_X8_list h a0 a1 a2 = some r) : aK h a0 = 8 := by
  unfold f_X8_list at hf
  exact (ifk hf).1
set_option maxRecDepth 100000 in
set_option maxHeartbeats 4000000 in
theorem c_X8_list {l : Launch} {G : GT} {h : AH} {a0 : Nat} {a1 : Int32} {a2 : Int32} {r : (Except Nat Int32 × AH)} (hf : f_X8_list h a0 a1 a2 = some r) : Cn l yX8_list cX8_list 4 (some .int) 7 110 2 12 G h [.ref a0, .int a1, .int a2] (r.1.map (fun x => some (.int x))) r.2 := by
  refine Cn.of (by decide) (Nat.le_of_ble_eq_true rfl) ?_
  intro p e s m args below meth c O hr hx hin
  have O : OkC p l s m args meth c G cX8_list 4 RX8 := O
  unfold f_X8_list at hf
  obtain ⟨hk0, hf⟩ := ifk hf
  refine AW.sub (lv' := [(0, .ref a0), (1, .int a1), (2, .int a2)]) [0, 1, 2] rfl ?_
  refine r_aload_n O 0 dX8_list_0 rfl (Or.inl rfl) ?_
  obtain ⟨⟨w, h2⟩, ex1, hf⟩ := bnd hf
  cases w with
  | error k9 =>
    dsimp only at hf
    obtain rfl := Option.some.inj hf
    exact r_thrV (av := []) (st := []) O hx (c_X8_needOpenBook ex1) mf_X8_needOpenBook cf8 (kd_X8_needOpenBook ex1) ml_X8_56 mi_X8_needOpenBook mv_X8_needOpenBook (by decide) (Nat.le_of_ble_eq_true rfl) (by decide) (by decide) (by decide) dX8_list_1
  | ok x1 =>
    dsimp only at hf
    refine r_callV (av := []) (st := []) O (c_X8_needOpenBook ex1) mf_X8_needOpenBook cf8 (kd_X8_needOpenBook ex1) ml_X8_56 mi_X8_needOpenBook mv_X8_needOpenBook (by decide) (Nat.le_of_ble_eq_true rfl) (by decide) dX8_list_1 ?_
    refine r_aload_n O 0 dX8_list_4 rfl (Or.inl rfl) ?_
    obtain ⟨x3, ex3, hf⟩ := bnd hf
    refine r_gP O cf8 0 (by decide) rfl fl_X8_10 ex3 dX8_list_5 ?_
    obtain ⟨x4, ex4, hf⟩ := bnd hf
    refine r_gI O cf0 7 (by decide) rfl fl_X8_74 ex4 dX8_list_8 ?_
    refine r_bipush O (v := 6) dX8_list_11 (by decide) ?_
    by_cases hc : x4 < 6
    · rw [if_pos hc] at hf
      refine r_icmp_lt_t (tgt := 26) O dX8_list_13 (by decide) hc ?_
      refine r_aload_n O 0 dX8_list_26 rfl (Or.inl rfl) ?_
      obtain ⟨x5, ex5, hf⟩ := bnd hf
      refine r_gP O cf8 0 (by decide) rfl fl_X8_10 ex5 dX8_list_27 ?_
      obtain ⟨x6, ex6, hf⟩ := bnd hf
      refine r_gI O cf0 7 (by decide) rfl fl_X8_74 ex6 dX8_list_30 ?_
      refine r_istore_n O [(3, .int x6), (0, .ref a0), (1, .int a1), (2, .int a2)] dX8_list_33 (by decide) rfl ?_
      refine r_aload_n O 1 dX8_list_34 rfl (Or.inl rfl) ?_
      obtain ⟨x7, ex7, hf⟩ := bnd hf
      refine r_gP O cf8 0 (by decide) rfl fl_X8_10 ex7 dX8_list_35 ?_
      refine r_dup O dX8_list_38 rfl ?_
      obtain ⟨x8, ex8, hf⟩ := bnd hf
      refine r_gI O cf0 7 (by decide) rfl fl_X8_74 ex8 dX8_list_39 ?_
      refine r_iconst O (v := 1) dX8_list_42 (by decide) ?_
      refine r_iadd O dX8_list_43 ?_
      obtain ⟨h9, eh9, hf⟩ := bnd hf
      refine r_pI O cf0 7 (by decide) rfl fl_X8_74 rfl eh9 dX8_list_44 ?_
      refine r_aload_n O 1 dX8_list_47 rfl (Or.inl rfl) ?_
      obtain ⟨x10, ex10, hf⟩ := bnd hf
      refine r_gP O cf8 1 (by decide) rfl fl_X8_19 ex10 dX8_list_48 ?_
      refine r_iload_n O 0 dX8_list_51 rfl ?_
      refine r_iload_n O 2 dX8_list_52 rfl ?_
      refine r_iload_n O 3 dX8_list_53 rfl ?_
      obtain ⟨h12, eh12, hf⟩ := bnd hf
      refine r_callV (av := [.int x6, .int a1, .int a2]) (st := []) O (c_X4_setListFacts eh12) mf_X4_setListFacts cf4 (kd_X4_setListFacts eh12) ml_X8_79 mi_X4_setListFacts mv_X4_setListFacts (by decide) (Nat.le_of_ble_eq_true rfl) (by decide) dX8_list_54 ?_
      refine r_aload_n O 1 dX8_list_57 rfl (Or.inl rfl) ?_
      obtain ⟨x13, ex13, hf⟩ := bnd hf
      refine r_gP O cf8 2 (by decide) rfl fl_X8_23 ex13 dX8_list_58 ?_
      refine r_iload_n O 0 dX8_list_61 rfl ?_
      refine r_iload_n O 2 dX8_list_62 rfl ?_
      refine r_iload_n O 3 dX8_list_63 rfl ?_
      obtain ⟨h15, eh15, hf⟩ := bnd hf
      refine r_callV (av := [.int x6, .int a1, .int a2]) (st := []) O (c_X4_setListFacts eh15) mf_X4_setListFacts cf4 (kd_X4_setListFacts eh15) ml_X8_79 mi_X4_setListFacts mv_X4_setListFacts (by decide) (Nat.le_of_ble_eq_true rfl) (by decide) dX8_list_64 ?_
      refine r_iload_n O 0 dX8_list_67 rfl ?_
      obtain rfl := Option.some.inj hf
      exact r_iret O hr rfl rfl (by decide) (by decide) dX8_list_68
    · rw [if_neg hc] at hf
      refine r_icmp_lt_f (tgt := 26) O dX8_list_13 (by decide) hc ?_
      obtain rfl := Option.some.inj hf
      exact r_throw 0 O hx kl_X8_63 xa_X8_63_67 st_X8_77 (by decide) (by decide) (Nat.le_of_ble_eq_true rfl) (by decide) (by decide) (by decide) dX8_list_16 dX8_list_19 dX8_list_20 dX8_list_22 dX8_list_25
def f_X0_collect (h : AH) (a0 : Nat) (a1 : Int32) (a2 : Int32) : Option (Int32 × AH) :=
if aK h a0 = 0 then
Option.bind (gI h 0 a0 5) fun x1 =>
Option.bind (if 24 ≤ x1 then
some h
else
Option.bind (gP h 0 a0 3) fun x3 =>
Option.bind (gI h 0 a0 5) fun x4 =>
Option.bind (stI h x3 x4 a1) fun h5 =>
Option.bind (gP h5 0 a0 4) fun x6 =>
Option.bind (gI h5 0 a0 5) fun x7 =>
Option.bind (stI h5 x6 x7 a2) fun h8 =>
Option.bind (gI h8 0 a0 5) fun x9 =>
Option.bind (pI h8 0 a0 5 (x9 + 1)) fun h10 =>
some h10) fun h2 =>
Option.bind (gI h2 0 a0 5) fun x11 =>
some (x11, h2)
else none
theorem kd_X0_collect {h : AH} {a0 : Nat} {a1 : Int32} {a2 : Int32} {r : (Int32 × AH)} (hf : f_X0_collect h a0 a1 a2 = some r) : aK h a0 = 0 := by
  unfold f_X0_collect at hf
  exact (ifk hf).1
set_option maxRecDepth 100000 in
set_option maxHeartbeats 4000000 in
theorem c_X0_collect {l : Launch} {G : GT} {h : AH} {a0 : Nat} {a1 : Int32} {a2 : Int32} {r : (Int32 × AH)} (hf : f_X0_collect h a0 a1 a2 = some r) : Cn l yX0_collect cX0_collect 3 (some .int) 0 0 0 0 G h [.ref a0, .int a1, .int a2] (.ok (some (.int r.1))) r.2 := by
  refine Cn.of (by decide) (Nat.le_of_ble_eq_true rfl) ?_
  intro p e s m args below meth c O hr hx hin
  have O : OkC p l s m args meth c G cX0_collect 3 RX0 := O
  unfold f_X0_collect at hf
  obtain ⟨hk0, hf⟩ := ifk hf
  refine AW.sub (lv' := [(0, .ref a0), (1, .int a1), (2, .int a2)]) [0, 1, 2] rfl ?_
  refine r_aload_n O 0 dX0_collect_0 rfl (Or.inl rfl) ?_
  obtain ⟨x1, ex1, hf⟩ := bnd hf
  refine r_gI O cf0 5 (by decide) rfl fl_X0_27 ex1 dX0_collect_1 ?_
  refine r_bipush O (v := 24) dX0_collect_4 (by decide) ?_
  obtain ⟨h2, hg, hf⟩ := bnd hf
  have hJ : AW p l e { frames := 0, cells := 0, slots := 0, locals := 0 } s m args below meth c G 3 (vx_MQ below (QcN G (.ok (some (.int r.1))) r.2) (XcN G (.ok (some (.int r.1))) r.2) args s 0 0 (gA G)) h2 0 0 39 [(0, .ref a0)] [] := by
    refine r_aload_n O 0 dX0_collect_39 rfl (Or.inl rfl) ?_
    obtain ⟨x11, ex11, hf⟩ := bnd hf
    refine r_gI O cf0 5 (by decide) rfl fl_X0_27 ex11 dX0_collect_40 ?_
    obtain rfl := Option.some.inj hf
    exact r_iret O hr rfl rfl (by decide) (by decide) dX0_collect_43
  clear hf
  have hf := hg
  clear hg
  by_cases hc : 24 ≤ x1
  · rw [if_pos hc] at hf
    refine r_icmp_ge_t (tgt := 39) O dX0_collect_6 (by decide) hc ?_
    obtain rfl := oi1 hf
    refine AW.sub [0] rfl ?_
    exact hJ
  · rw [if_neg hc] at hf
    refine r_icmp_ge_f (tgt := 39) O dX0_collect_6 (by decide) hc ?_
    refine r_aload_n O 0 dX0_collect_9 rfl (Or.inl rfl) ?_
    obtain ⟨x3, ex3, hf⟩ := bnd hf
    refine r_gP O cf0 3 (by decide) rfl fl_X0_21 ex3 dX0_collect_10 ?_
    refine r_aload_n O 0 dX0_collect_13 rfl (Or.inl rfl) ?_
    obtain ⟨x4, ex4, hf⟩ := bnd hf
    refine r_gI O cf0 5 (by decide) rfl fl_X0_27 ex4 dX0_collect_14 ?_
    refine r_iload_n O 1 dX0_collect_17 rfl ?_
    obtain ⟨h5, eh5, hf⟩ := bnd hf
    refine r_stI O eh5 dX0_collect_18 ?_
    refine r_aload_n O 0 dX0_collect_19 rfl (Or.inl rfl) ?_
    obtain ⟨x6, ex6, hf⟩ := bnd hf
    refine r_gP O cf0 4 (by decide) rfl fl_X0_24 ex6 dX0_collect_20 ?_
    refine r_aload_n O 0 dX0_collect_23 rfl (Or.inl rfl) ?_
    obtain ⟨x7, ex7, hf⟩ := bnd hf
    refine r_gI O cf0 5 (by decide) rfl fl_X0_27 ex7 dX0_collect_24 ?_
    refine r_iload_n O 2 dX0_collect_27 rfl ?_
    obtain ⟨h8, eh8, hf⟩ := bnd hf
    refine r_stI O eh8 dX0_collect_28 ?_
    refine r_aload_n O 0 dX0_collect_29 rfl (Or.inl rfl) ?_
    refine r_dup O dX0_collect_30 rfl ?_
    obtain ⟨x9, ex9, hf⟩ := bnd hf
    refine r_gI O cf0 5 (by decide) rfl fl_X0_27 ex9 dX0_collect_31 ?_
    refine r_iconst O (v := 1) dX0_collect_34 (by decide) ?_
    refine r_iadd O dX0_collect_35 ?_
    obtain ⟨h10, eh10, hf⟩ := bnd hf
    refine r_pI O cf0 5 (by decide) rfl fl_X0_27 rfl eh10 dX0_collect_36 ?_
    obtain rfl := oi1 hf
    refine AW.sub [0] rfl ?_
    exact hJ
def f_X8_step (h : AH) (a0 : Nat) (a1 : Int32) (a2 : Int32) : Option (Except Nat Int32 × AH) :=
if aK h a0 = 8 then
Option.bind (f_X8_needOpenBook h a0) fun w => match w with
| (.error k9, h2) => some (.error k9, h2)
| (.ok x1, h2) =>
Option.bind (gP h2 8 a0 0) fun x3 =>
Option.bind (gI h2 0 x3 5) fun x4 =>
if x4 < 24 then
Option.bind (gP h2 8 a0 0) fun x5 =>
Option.bind (f_X0_collect h2 x5 a1 a2) fun w => match w with
| (x6, h7) =>
some (.ok x6, h7)
else
some (.error 0, nx h2)
else none
theorem kd_X8_step {h : AH} {a0 : Nat} {a1 : Int32} {a2 : Int32} {r : (Except Nat Int32 × AH)} (hf : f_X8_step h a0 a1 a2 = some r) : aK h a0 = 8 := by
  unfold f_X8_step at hf
  exact (ifk hf).1
set_option maxRecDepth 100000 in
set_option maxHeartbeats 4000000 in
theorem c_X8_step {l : Launch} {G : GT} {h : AH} {a0 : Nat} {a1 : Int32} {a2 : Int32} {r : (Except Nat Int32 × AH)} (hf : f_X8_step h a0 a1 a2 = some r) : Cn l yX8_step cX8_step 3 (some .int) 7 110 2 12 G h [.ref a0, .int a1, .int a2] (r.1.map (fun x => some (.int x))) r.2 := by
  refine Cn.of (by decide) (Nat.le_of_ble_eq_true rfl) ?_
  intro p e s m args below meth c O hr hx hin
  have O : OkC p l s m args meth c G cX8_step 3 RX8 := O
  unfold f_X8_step at hf
  obtain ⟨hk0, hf⟩ := ifk hf
  refine AW.sub (lv' := [(0, .ref a0), (1, .int a1), (2, .int a2)]) [0, 1, 2] rfl ?_
  refine r_aload_n O 0 dX8_step_0 rfl (Or.inl rfl) ?_
  obtain ⟨⟨w, h2⟩, ex1, hf⟩ := bnd hf
  cases w with
  | error k9 =>
    dsimp only at hf
    obtain rfl := Option.some.inj hf
    exact r_thrV (av := []) (st := []) O hx (c_X8_needOpenBook ex1) mf_X8_needOpenBook cf8 (kd_X8_needOpenBook ex1) ml_X8_56 mi_X8_needOpenBook mv_X8_needOpenBook (by decide) (Nat.le_of_ble_eq_true rfl) (by decide) (by decide) (by decide) dX8_step_1
  | ok x1 =>
    dsimp only at hf
    refine r_callV (av := []) (st := []) O (c_X8_needOpenBook ex1) mf_X8_needOpenBook cf8 (kd_X8_needOpenBook ex1) ml_X8_56 mi_X8_needOpenBook mv_X8_needOpenBook (by decide) (Nat.le_of_ble_eq_true rfl) (by decide) dX8_step_1 ?_
    refine r_aload_n O 0 dX8_step_4 rfl (Or.inl rfl) ?_
    obtain ⟨x3, ex3, hf⟩ := bnd hf
    refine r_gP O cf8 0 (by decide) rfl fl_X8_10 ex3 dX8_step_5 ?_
    obtain ⟨x4, ex4, hf⟩ := bnd hf
    refine r_gI O cf0 5 (by decide) rfl fl_X8_83 ex4 dX8_step_8 ?_
    refine r_bipush O (v := 24) dX8_step_11 (by decide) ?_
    by_cases hc : x4 < 24
    · rw [if_pos hc] at hf
      refine r_icmp_lt_t (tgt := 26) O dX8_step_13 (by decide) hc ?_
      refine r_aload_n O 0 dX8_step_26 rfl (Or.inl rfl) ?_
      obtain ⟨x5, ex5, hf⟩ := bnd hf
      refine r_gP O cf8 0 (by decide) rfl fl_X8_10 ex5 dX8_step_27 ?_
      refine r_iload_n O 1 dX8_step_30 rfl ?_
      refine r_iload_n O 2 dX8_step_31 rfl ?_
      obtain ⟨⟨x6, h7⟩, ex6, hf⟩ := bnd hf
      dsimp only at hf
      refine r_callV (av := [.int a1, .int a2]) (st := []) O (c_X0_collect ex6) mf_X0_collect cf0 (kd_X0_collect ex6) ml_X8_88 mi_X0_collect mv_X0_collect (by decide) (Nat.le_of_ble_eq_true rfl) (by decide) dX8_step_32 ?_
      obtain rfl := Option.some.inj hf
      exact r_iret O hr rfl rfl (by decide) (by decide) dX8_step_35
    · rw [if_neg hc] at hf
      refine r_icmp_lt_f (tgt := 26) O dX8_step_13 (by decide) hc ?_
      obtain rfl := Option.some.inj hf
      exact r_throw 0 O hx kl_X8_63 xa_X8_63_67 st_X8_86 (by decide) (by decide) (Nat.le_of_ble_eq_true rfl) (by decide) (by decide) (by decide) dX8_step_16 dX8_step_19 dX8_step_20 dX8_step_22 dX8_step_25
