def f_X8_isSame (h : AH) (a0 : Nat) : Option (Int32 × AH) :=
if aK h a0 = 8 then
Option.bind (gP h 8 a0 6) fun x1 =>
Option.bind (gP h 8 a0 2) fun x2 =>
Option.bind (gP h 8 a0 3) fun x3 =>
Option.bind (gP h 8 a0 4) fun x4 =>
Option.bind (f_X1_agrees h x1 x2 x3 x4) fun w => match w with
| (x5, h6) =>
Option.bind (bz x5) fun x7 =>
some (x7, h6)
else none
theorem kd_X8_isSame {h : AH} {a0 : Nat} {r : (Int32 × AH)} (hf : f_X8_isSame h a0 = some r) : aK h a0 = 8 := by
  unfold f_X8_isSame at hf
  exact (ifk hf).1
set_option maxRecDepth 100000 in
set_option maxHeartbeats 4000000 in
theorem c_X8_isSame {l : Launch} {G : GT} {h : AH} {a0 : Nat} {r : (Int32 × AH)} (hf : f_X8_isSame h a0 = some r) : Cn l yX8_isSame cX8_isSame 1 (some .boolean) 6 147 0 0 G h [.ref a0] (.ok (some (.int r.1))) r.2 := by
  refine Cn.of (by decide) (Nat.le_of_ble_eq_true rfl) ?_
  intro p e s m args below meth c O hr hx hin
  have O : OkC p l s m args meth c G cX8_isSame 1 RX8 := O
  unfold f_X8_isSame at hf
  obtain ⟨hk0, hf⟩ := ifk hf
  refine AW.sub (lv' := [(0, .ref a0)]) [0] rfl ?_
  refine r_aload_n O 0 dX8_isSame_0 rfl (Or.inl rfl) ?_
  obtain ⟨x1, ex1, hf⟩ := bnd hf
  refine r_gP O cf8 6 (by decide) rfl fl_X8_45 ex1 dX8_isSame_1 ?_
  refine r_aload_n O 0 dX8_isSame_4 rfl (Or.inl rfl) ?_
  obtain ⟨x2, ex2, hf⟩ := bnd hf
  refine r_gP O cf8 2 (by decide) rfl fl_X8_23 ex2 dX8_isSame_5 ?_
  refine r_aload_n O 0 dX8_isSame_8 rfl (Or.inl rfl) ?_
  obtain ⟨x3, ex3, hf⟩ := bnd hf
  refine r_gP O cf8 3 (by decide) rfl fl_X8_26 ex3 dX8_isSame_9 ?_
  refine r_aload_n O 0 dX8_isSame_12 rfl (Or.inl rfl) ?_
  obtain ⟨x4, ex4, hf⟩ := bnd hf
  refine r_gP O cf8 4 (by decide) rfl fl_X8_33 ex4 dX8_isSame_13 ?_
  obtain ⟨⟨x5, h6⟩, ex5, hf⟩ := bnd hf
  dsimp only at hf
  refine r_callV (av := [.ref x2, .ref x3, .ref x4]) (st := []) O (c_X1_agrees ex5) mf_X1_agrees cf1 (kd_X1_agrees ex5) ml_X8_264 mi_X1_agrees mv_X1_agrees (by decide) (Nat.le_of_ble_eq_true rfl) (by decide) dX8_isSame_16 ?_
  obtain ⟨x7, ex7, hf⟩ := bnd hf
  refine r_nmI (bz_eq ex7) ?_
  obtain rfl := Option.some.inj hf
  exact r_zret O hr (bz_or ex7) rfl rfl (by decide) (by decide) dX8_isSame_19
def f_X9_thrown (h : AH) (a0 : Nat) : Option Int32 :=
if aK h a0 = 9 then
Option.bind (gI h 9 a0 0) fun x1 =>
some x1
else none
theorem kd_X9_thrown {h : AH} {a0 : Nat} {r : Int32} (hf : f_X9_thrown h a0 = some r) : aK h a0 = 9 := by
  unfold f_X9_thrown at hf
  exact (ifk hf).1
set_option maxRecDepth 100000 in
set_option maxHeartbeats 4000000 in
theorem c_X9_thrown {l : Launch} {G : GT} {h : AH} {a0 : Nat} {r : Int32} (hf : f_X9_thrown h a0 = some r) : Cn l yX9_thrown cX9_thrown 1 (some .int) 0 0 0 0 G h [.ref a0] (.ok (some (.int r))) h := by
  refine Cn.of (by decide) (Nat.le_of_ble_eq_true rfl) ?_
  intro p e s m args below meth c O hr hx hin
  have O : OkC p l s m args meth c G cX9_thrown 1 RX9 := O
  unfold f_X9_thrown at hf
  obtain ⟨hk0, hf⟩ := ifk hf
  refine AW.sub (lv' := [(0, .ref a0)]) [0] rfl ?_
  refine r_aload_n O 0 dX9_thrown_0 rfl (Or.inl rfl) ?_
  obtain ⟨x1, ex1, hf⟩ := bnd hf
  refine r_gI O cf9 0 (by decide) rfl fl_X9_1 ex1 dX9_thrown_1 ?_
  obtain rfl := Option.some.inj hf
  exact r_iret O hr rfl rfl (by decide) (by decide) dX9_thrown_4
def f_X9_copyInts_3 (l0 : Nat) (l1 : Int32) (l2 : Nat) (l3 : Int32) (l4 : Int32) (n : Nat) (h : AH) (l5 : Int32) : Option AH := match n with
| 0 => none
| n + 1 =>
if l4 ≤ l5 then
some h
else
Option.bind (ldI h l0 (l1 + l5)) fun x1 =>
Option.bind (stI h l2 (l3 + l5) x1) fun h2 =>
f_X9_copyInts_3 l0 l1 l2 l3 l4 n h2 (l5 + 1)
def f_X9_copyInts (h : AH) (a0 : Nat) (a1 : Int32) (a2 : Nat) (a3 : Int32) (a4 : Int32) : Option AH :=
Option.bind (f_X9_copyInts_3 a0 a1 a2 a3 a4 FU h 0) fun h3 =>
some h3
set_option maxRecDepth 100000 in
set_option maxHeartbeats 4000000 in
theorem s_X9_copyInts_3 {p : Program} {l : Launch} {e : Env} {s : State} {m : MethodId} {args : Array Value} {below : List Frame} {meth : Method} {c : Code} {G : GT} {Q : State → Prop} (O : OkC p l s m args meth c G cX9_copyInts 6 RX9) {l0 : Nat} {l1 : Int32} {l2 : Nat} {l3 : Int32} {l4 : Int32} {wh : AH} (kk : AW p l e { frames := 0, cells := 0, slots := 0, locals := 0 } s m args below meth c G 6 Q wh 0 0 28 [] []) : ∀ (n : Nat), ∀ (h : AH) (l5 : Int32), f_X9_copyInts_3 l0 l1 l2 l3 l4 n h l5 = some wh → AW p l e { frames := 0, cells := 0, slots := 0, locals := 0 } s m args below meth c G 6 Q h 0 0 3 [(0, .ref l0), (1, .int l1), (2, .ref l2), (3, .int l3), (4, .int l4), (5, .int l5)] [] := by
  intro n
  induction n with
  | zero =>
    intro h l5 hf
    simp [f_X9_copyInts_3] at hf
  | succ n ih =>
    intro h l5 hf
    unfold f_X9_copyInts_3 at hf
    refine r_iload O 5 dX9_copyInts_3 rfl ?_
    refine r_iload O 4 dX9_copyInts_5 rfl ?_
    by_cases hc : l4 ≤ l5
    · rw [if_pos hc] at hf
      refine r_icmp_ge_t (tgt := 28) O dX9_copyInts_7 (by decide) hc ?_
      obtain rfl := oi1 hf
      refine AW.sub [] rfl ?_
      exact kk
    · rw [if_neg hc] at hf
      refine r_icmp_ge_f (tgt := 28) O dX9_copyInts_7 (by decide) hc ?_
      refine r_aload_n O 2 dX9_copyInts_10 rfl (Or.inl rfl) ?_
      refine r_iload_n O 3 dX9_copyInts_11 rfl ?_
      refine r_iload O 5 dX9_copyInts_12 rfl ?_
      refine r_iadd O dX9_copyInts_14 ?_
      refine r_aload_n O 0 dX9_copyInts_15 rfl (Or.inl rfl) ?_
      refine r_iload_n O 1 dX9_copyInts_16 rfl ?_
      refine r_iload O 5 dX9_copyInts_17 rfl ?_
      refine r_iadd O dX9_copyInts_19 ?_
      obtain ⟨x1, ex1, hf⟩ := bnd hf
      refine r_ldI O ex1 dX9_copyInts_20 ?_
      obtain ⟨h2, eh2, hf⟩ := bnd hf
      refine r_stI O eh2 dX9_copyInts_21 ?_
      refine r_iinc O 5 [(5, .int (l5 + 1)), (0, .ref l0), (1, .int l1), (2, .ref l2), (3, .int l3), (4, .int l4)] dX9_copyInts_22 rfl rfl (by decide) rfl ?_
      refine r_goto (tgt := 3) O dX9_copyInts_25 (by decide) ?_
      refine AW.sub [1, 2, 3, 4, 5, 0] rfl ?_
      exact ih _ _ hf
set_option maxRecDepth 100000 in
set_option maxHeartbeats 4000000 in
theorem c_X9_copyInts {l : Launch} {G : GT} {h : AH} {a0 : Nat} {a1 : Int32} {a2 : Nat} {a3 : Int32} {a4 : Int32} {r : AH} (hf : f_X9_copyInts h a0 a1 a2 a3 a4 = some r) : Cn l yX9_copyInts cX9_copyInts 6 none 0 0 0 0 G h [.ref a0, .int a1, .ref a2, .int a3, .int a4] (.ok none) r := by
  refine Cn.of (by decide) (Nat.le_of_ble_eq_true rfl) ?_
  intro p e s m args below meth c O hr hx hin
  have O : OkC p l s m args meth c G cX9_copyInts 6 RX9 := O
  unfold f_X9_copyInts at hf
  refine AW.sub (lv' := [(0, .ref a0), (1, .int a1), (2, .ref a2), (3, .int a3), (4, .int a4)]) [0, 1, 2, 3, 4] rfl ?_
  refine r_iconst O (v := 0) dX9_copyInts_0 (by decide) ?_
  refine r_istore O [(5, .int 0), (0, .ref a0), (1, .int a1), (2, .ref a2), (3, .int a3), (4, .int a4)] dX9_copyInts_1 (by decide) rfl ?_
  obtain ⟨h3, hw, hf⟩ := bnd hf
  refine AW.sub [1, 2, 3, 4, 5, 0] rfl ?_
  refine s_X9_copyInts_3 O ?_ _ _ _ hw
  obtain rfl := Option.some.inj hf
  exact r_vret O hr rfl rfl (by decide) (by decide) dX9_copyInts_28
def f_X9_init_219 (l0 : Nat) (n : Nat) (h : AH) (l1 : Int32) : Option AH := match n with
| 0 => none
| n + 1 =>
if 40 ≤ l1 then
some h
else
Option.bind (gP h 9 l0 10) fun x49 =>
Option.bind (stI h x49 (172 + l1) (-1)) fun h50 =>
Option.bind (gP h50 9 l0 10) fun x51 =>
Option.bind (stI h50 x51 (212 + l1) (-1)) fun h52 =>
f_X9_init_219 l0 n h52 (l1 + 1)
def f_X9_init (h : AH) (a0 : Nat) : Option AH :=
Option.bind (pZ h 9 a0 1 1) fun h1 =>
Option.bind (some (nw h1 10 24)) fun h2 =>
Option.bind (pP h2 9 a0 5 (aN h1)) fun h3 =>
Option.bind (some (nw h3 10 24)) fun h4 =>
Option.bind (pP h4 9 a0 6 (aN h3)) fun h5 =>
Option.bind (some (nw h5 10 9)) fun h6 =>
Option.bind (pP h6 9 a0 7 (aN h5)) fun h7 =>
Option.bind (some (nw h7 10 216)) fun h8 =>
Option.bind (pP h8 9 a0 8 (aN h7)) fun h9 =>
Option.bind (some (nw h9 10 216)) fun h10 =>
Option.bind (pP h10 9 a0 9 (aN h9)) fun h11 =>
Option.bind (some (nw h11 10 504)) fun h12 =>
Option.bind (pP h12 9 a0 10 (aN h11)) fun h13 =>
Option.bind (some (nw h13 10 504)) fun h14 =>
Option.bind (pP h14 9 a0 11 (aN h13)) fun h15 =>
Option.bind (some (nw h15 10 504)) fun h16 =>
Option.bind (pP h16 9 a0 12 (aN h15)) fun h17 =>
Option.bind (some (nw h17 11 258)) fun h18 =>
Option.bind (pP h18 9 a0 13 (aN h17)) fun h19 =>
Option.bind (some (nw h19 11 258)) fun h20 =>
Option.bind (pP h20 9 a0 14 (aN h19)) fun h21 =>
Option.bind (some (nw h21 10 30240)) fun h22 =>
Option.bind (pP h22 9 a0 18 (aN h21)) fun h23 =>
Option.bind (some (nw h23 11 15480)) fun h24 =>
Option.bind (pP h24 9 a0 19 (aN h23)) fun h25 =>
Option.bind (some (nw h25 10 258)) fun h26 =>
Option.bind (pP h26 9 a0 21 (aN h25)) fun h27 =>
Option.bind (some (nw h27 10 258)) fun h28 =>
Option.bind (pP h28 9 a0 23 (aN h27)) fun h29 =>
Option.bind (some (nw h29 10 258)) fun h30 =>
Option.bind (pP h30 9 a0 25 (aN h29)) fun h31 =>
Option.bind (pI h31 9 a0 27 (-1)) fun h32 =>
Option.bind (pI h32 9 a0 28 (-1)) fun h33 =>
Option.bind (pI h33 9 a0 29 (-1)) fun h34 =>
Option.bind (some (nw h34 10 1100)) fun h35 =>
Option.bind (pP h35 9 a0 33 (aN h34)) fun h36 =>
Option.bind (some (nw h36 10 1100)) fun h37 =>
Option.bind (pP h37 9 a0 35 (aN h36)) fun h38 =>
Option.bind (some (nw h38 10 258)) fun h39 =>
Option.bind (pP h39 9 a0 37 (aN h38)) fun h40 =>
Option.bind (some (nw h40 12 258)) fun h41 =>
Option.bind (pP h41 9 a0 38 (aN h40)) fun h42 =>
Option.bind (some (nw h42 12 66564)) fun h43 =>
Option.bind (pP h43 9 a0 39 (aN h42)) fun h44 =>
Option.bind (some (nw h44 10 258)) fun h45 =>
Option.bind (pP h45 9 a0 40 (aN h44)) fun h46 =>
Option.bind (some (nw h46 11 9)) fun h47 =>
Option.bind (pP h47 9 a0 41 (aN h46)) fun h48 =>
Option.bind (f_X9_init_219 a0 FU h48 0) fun h53 =>
Option.bind (gP h53 9 a0 10) fun x54 =>
Option.bind (gP h53 9 a0 11) fun x55 =>
Option.bind (f_X9_copyInts h53 x54 0 x55 0 504) fun h57 =>
some h57
set_option maxRecDepth 100000 in
set_option maxHeartbeats 4000000 in
theorem s_X9_init_219 {p : Program} {l : Launch} {e : Env} {s : State} {m : MethodId} {args : Array Value} {below : List Frame} {meth : Method} {c : Code} {G : GT} {Q : State → Prop} (O : OkC p l s m args meth c G cX9_init 2 RX9) {l0 : Nat} {wh : AH} (kk : AW p l e { frames := 1, cells := 22, slots := 118558, locals := 25 } s m args below meth c G 2 Q wh 22 118558 253 [(0, .ref l0)] []) : ∀ (n : Nat), ∀ (h : AH) (l1 : Int32), f_X9_init_219 l0 n h l1 = some wh → AW p l e { frames := 1, cells := 22, slots := 118558, locals := 25 } s m args below meth c G 2 Q h 22 118558 219 [(0, .ref l0), (1, .int l1)] [] := by
  intro n
  induction n with
  | zero =>
    intro h l1 hf
    simp [f_X9_init_219] at hf
  | succ n ih =>
    intro h l1 hf
    unfold f_X9_init_219 at hf
    refine r_iload_n O 1 dX9_init_219 rfl ?_
    refine r_bipush O (v := 40) dX9_init_220 (by decide) ?_
    by_cases hc : 40 ≤ l1
    · rw [if_pos hc] at hf
      refine r_icmp_ge_t (tgt := 253) O dX9_init_222 (by decide) hc ?_
      obtain rfl := oi1 hf
      refine AW.sub [0] rfl ?_
      exact kk
    · rw [if_neg hc] at hf
      refine r_icmp_ge_f (tgt := 253) O dX9_init_222 (by decide) hc ?_
      refine r_aload_n O 0 dX9_init_225 rfl (Or.inl rfl) ?_
      obtain ⟨x49, ex49, hf⟩ := bnd hf
      refine r_gP O cf9 10 (by decide) rfl fl_X9_33 ex49 dX9_init_226 ?_
      refine r_sipush O (v := 172) dX9_init_229 (by decide) ?_
      refine r_iload_n O 1 dX9_init_232 rfl ?_
      refine r_iadd O dX9_init_233 ?_
      refine r_iconst O (v := -1) dX9_init_234 (by decide) ?_
      obtain ⟨h50, eh50, hf⟩ := bnd hf
      refine r_stI O eh50 dX9_init_235 ?_
      refine r_aload_n O 0 dX9_init_236 rfl (Or.inl rfl) ?_
      obtain ⟨x51, ex51, hf⟩ := bnd hf
      refine r_gP O cf9 10 (by decide) rfl fl_X9_33 ex51 dX9_init_237 ?_
      refine r_sipush O (v := 212) dX9_init_240 (by decide) ?_
      refine r_iload_n O 1 dX9_init_243 rfl ?_
      refine r_iadd O dX9_init_244 ?_
      refine r_iconst O (v := -1) dX9_init_245 (by decide) ?_
      obtain ⟨h52, eh52, hf⟩ := bnd hf
      refine r_stI O eh52 dX9_init_246 ?_
      refine r_iinc O 1 [(1, .int (l1 + 1)), (0, .ref l0)] dX9_init_247 rfl rfl (by decide) rfl ?_
      refine r_goto (tgt := 219) O dX9_init_250 (by decide) ?_
      refine AW.sub [1, 0] rfl ?_
      exact ih _ _ hf
set_option maxRecDepth 100000 in
set_option maxHeartbeats 4000000 in
theorem c_X9_init {l : Launch} {G : GT} {h : AH} {a0 : Nat} {r : AH} (hf : f_X9_init h a0 = some r) : Cn l yX9_init cX9_init 2 none 1 25 22 118558 G h [.ref a0] (.ok none) r := by
  refine Cn.of (by decide) (Nat.le_of_ble_eq_true rfl) ?_
  intro p e s m args below meth c O hr hx hin
  have O : OkC p l s m args meth c G cX9_init 2 RX9 := O
  unfold f_X9_init at hf
  refine AW.sub (lv' := [(0, .ref a0)]) [0] rfl ?_
  refine r_aload_n O 0 dX9_init_0 rfl (Or.inl rfl) ?_
  refine r_objInit O ml_X9_7 (by decide) (by decide) (Nat.le_of_ble_eq_true rfl) dX9_init_1 ?_
  refine r_aload_n O 0 dX9_init_4 rfl (Or.inl rfl) ?_
  refine r_iconst O (v := 1) dX9_init_5 (by decide) ?_
  obtain ⟨h1, eh1, hf⟩ := bnd hf
  refine r_pZ O cf9 1 (by decide) rfl fl_X9_13 rfl eh1 dX9_init_6 ?_
  refine r_aload_n O 0 dX9_init_9 rfl (Or.inl rfl) ?_
  refine r_bipush O (v := 24) dX9_init_10 (by decide) ?_
  obtain ⟨h2, eh2, hf⟩ := bnd hf
  refine r_newI O waI (len := 24) (by decide) (by decide) (by decide) (by decide) (by decide) dX9_init_12 ?_
  rw [Option.some.inj eh2]
  obtain ⟨h3, eh3, hf⟩ := bnd hf
  refine r_pPF O hin cf9 5 (by decide) rfl fl_X9_17 rfl rfl eh3 dX9_init_14 ?_
  refine r_aload_n O 0 dX9_init_17 rfl (Or.inl rfl) ?_
  refine r_bipush O (v := 24) dX9_init_18 (by decide) ?_
  obtain ⟨h4, eh4, hf⟩ := bnd hf
  refine r_newI O waI (len := 24) (by decide) (by decide) (by decide) (by decide) (by decide) dX9_init_20 ?_
  rw [Option.some.inj eh4]
  obtain ⟨h5, eh5, hf⟩ := bnd hf
  refine r_pPF O hin cf9 6 (by decide) rfl fl_X9_21 rfl rfl eh5 dX9_init_22 ?_
  refine r_aload_n O 0 dX9_init_25 rfl (Or.inl rfl) ?_
  refine r_bipush O (v := 9) dX9_init_26 (by decide) ?_
  obtain ⟨h6, eh6, hf⟩ := bnd hf
  refine r_newI O waI (len := 9) (by decide) (by decide) (by decide) (by decide) (by decide) dX9_init_28 ?_
  rw [Option.some.inj eh6]
  obtain ⟨h7, eh7, hf⟩ := bnd hf
  refine r_pPF O hin cf9 7 (by decide) rfl fl_X9_24 rfl rfl eh7 dX9_init_30 ?_
  refine r_aload_n O 0 dX9_init_33 rfl (Or.inl rfl) ?_
  refine r_sipush O (v := 216) dX9_init_34 (by decide) ?_
  obtain ⟨h8, eh8, hf⟩ := bnd hf
  refine r_newI O waI (len := 216) (by decide) (by decide) (by decide) (by decide) (by decide) dX9_init_37 ?_
  rw [Option.some.inj eh8]
  obtain ⟨h9, eh9, hf⟩ := bnd hf
  refine r_pPF O hin cf9 8 (by decide) rfl fl_X9_27 rfl rfl eh9 dX9_init_39 ?_
  refine r_aload_n O 0 dX9_init_42 rfl (Or.inl rfl) ?_
  refine r_sipush O (v := 216) dX9_init_43 (by decide) ?_
  obtain ⟨h10, eh10, hf⟩ := bnd hf
  refine r_newI O waI (len := 216) (by decide) (by decide) (by decide) (by decide) (by decide) dX9_init_46 ?_
  rw [Option.some.inj eh10]
  obtain ⟨h11, eh11, hf⟩ := bnd hf
  refine r_pPF O hin cf9 9 (by decide) rfl fl_X9_30 rfl rfl eh11 dX9_init_48 ?_
  refine r_aload_n O 0 dX9_init_51 rfl (Or.inl rfl) ?_
  refine r_sipush O (v := 504) dX9_init_52 (by decide) ?_
  obtain ⟨h12, eh12, hf⟩ := bnd hf
  refine r_newI O waI (len := 504) (by decide) (by decide) (by decide) (by decide) (by decide) dX9_init_55 ?_
  rw [Option.some.inj eh12]
  obtain ⟨h13, eh13, hf⟩ := bnd hf
  refine r_pPF O hin cf9 10 (by decide) rfl fl_X9_33 rfl rfl eh13 dX9_init_57 ?_
  refine r_aload_n O 0 dX9_init_60 rfl (Or.inl rfl) ?_
  refine r_sipush O (v := 504) dX9_init_61 (by decide) ?_
  obtain ⟨h14, eh14, hf⟩ := bnd hf
  refine r_newI O waI (len := 504) (by decide) (by decide) (by decide) (by decide) (by decide) dX9_init_64 ?_
  rw [Option.some.inj eh14]
  obtain ⟨h15, eh15, hf⟩ := bnd hf
  refine r_pPF O hin cf9 11 (by decide) rfl fl_X9_36 rfl rfl eh15 dX9_init_66 ?_
  refine r_aload_n O 0 dX9_init_69 rfl (Or.inl rfl) ?_
  refine r_sipush O (v := 504) dX9_init_70 (by decide) ?_
  obtain ⟨h16, eh16, hf⟩ := bnd hf
  refine r_newI O waI (len := 504) (by decide) (by decide) (by decide) (by decide) (by decide) dX9_init_73 ?_
  rw [Option.some.inj eh16]
  obtain ⟨h17, eh17, hf⟩ := bnd hf
  refine r_pPF O hin cf9 12 (by decide) rfl fl_X9_39 rfl rfl eh17 dX9_init_75 ?_
  refine r_aload_n O 0 dX9_init_78 rfl (Or.inl rfl) ?_
  refine r_sipush O (v := 258) dX9_init_79 (by decide) ?_
  obtain ⟨h18, eh18, hf⟩ := bnd hf
  refine r_newJ O waJ (len := 258) (by decide) (by decide) (by decide) (by decide) (by decide) dX9_init_82 ?_
  rw [Option.some.inj eh18]
  obtain ⟨h19, eh19, hf⟩ := bnd hf
  refine r_pPF O hin cf9 13 (by decide) rfl fl_X9_42 rfl rfl eh19 dX9_init_84 ?_
  refine r_aload_n O 0 dX9_init_87 rfl (Or.inl rfl) ?_
  refine r_sipush O (v := 258) dX9_init_88 (by decide) ?_
  obtain ⟨h20, eh20, hf⟩ := bnd hf
  refine r_newJ O waJ (len := 258) (by decide) (by decide) (by decide) (by decide) (by decide) dX9_init_91 ?_
  rw [Option.some.inj eh20]
  obtain ⟨h21, eh21, hf⟩ := bnd hf
  refine r_pPF O hin cf9 14 (by decide) rfl fl_X9_46 rfl rfl eh21 dX9_init_93 ?_
  refine r_aload_n O 0 dX9_init_96 rfl (Or.inl rfl) ?_
  refine r_sipush O (v := 30240) dX9_init_97 (by decide) ?_
  obtain ⟨h22, eh22, hf⟩ := bnd hf
  refine r_newI O waI (len := 30240) (by decide) (by decide) (by decide) (by decide) (by decide) dX9_init_100 ?_
  rw [Option.some.inj eh22]
  obtain ⟨h23, eh23, hf⟩ := bnd hf
  refine r_pPF O hin cf9 18 (by decide) rfl fl_X9_49 rfl rfl eh23 dX9_init_102 ?_
  refine r_aload_n O 0 dX9_init_105 rfl (Or.inl rfl) ?_
  refine r_sipush O (v := 15480) dX9_init_106 (by decide) ?_
  obtain ⟨h24, eh24, hf⟩ := bnd hf
  refine r_newJ O waJ (len := 15480) (by decide) (by decide) (by decide) (by decide) (by decide) dX9_init_109 ?_
  rw [Option.some.inj eh24]
  obtain ⟨h25, eh25, hf⟩ := bnd hf
  refine r_pPF O hin cf9 19 (by decide) rfl fl_X9_52 rfl rfl eh25 dX9_init_111 ?_
  refine r_aload_n O 0 dX9_init_114 rfl (Or.inl rfl) ?_
  refine r_sipush O (v := 258) dX9_init_115 (by decide) ?_
  obtain ⟨h26, eh26, hf⟩ := bnd hf
  refine r_newI O waI (len := 258) (by decide) (by decide) (by decide) (by decide) (by decide) dX9_init_118 ?_
  rw [Option.some.inj eh26]
  obtain ⟨h27, eh27, hf⟩ := bnd hf
  refine r_pPF O hin cf9 21 (by decide) rfl fl_X9_55 rfl rfl eh27 dX9_init_120 ?_
  refine r_aload_n O 0 dX9_init_123 rfl (Or.inl rfl) ?_
  refine r_sipush O (v := 258) dX9_init_124 (by decide) ?_
  obtain ⟨h28, eh28, hf⟩ := bnd hf
  refine r_newI O waI (len := 258) (by decide) (by decide) (by decide) (by decide) (by decide) dX9_init_127 ?_
  rw [Option.some.inj eh28]
  obtain ⟨h29, eh29, hf⟩ := bnd hf
  refine r_pPF O hin cf9 23 (by decide) rfl fl_X9_58 rfl rfl eh29 dX9_init_129 ?_
  refine r_aload_n O 0 dX9_init_132 rfl (Or.inl rfl) ?_
  refine r_sipush O (v := 258) dX9_init_133 (by decide) ?_
  obtain ⟨h30, eh30, hf⟩ := bnd hf
  refine r_newI O waI (len := 258) (by decide) (by decide) (by decide) (by decide) (by decide) dX9_init_136 ?_
  rw [Option.some.inj eh30]
  obtain ⟨h31, eh31, hf⟩ := bnd hf
  refine r_pPF O hin cf9 25 (by decide) rfl fl_X9_61 rfl rfl eh31 dX9_init_138 ?_
  refine r_aload_n O 0 dX9_init_141 rfl (Or.inl rfl) ?_
  refine r_iconst O (v := -1) dX9_init_142 (by decide) ?_
  obtain ⟨h32, eh32, hf⟩ := bnd hf
  refine r_pI O cf9 27 (by decide) rfl fl_X9_64 rfl eh32 dX9_init_143 ?_
  refine r_aload_n O 0 dX9_init_146 rfl (Or.inl rfl) ?_
  refine r_iconst O (v := -1) dX9_init_147 (by decide) ?_
  obtain ⟨h33, eh33, hf⟩ := bnd hf
  refine r_pI O cf9 28 (by decide) rfl fl_X9_67 rfl eh33 dX9_init_148 ?_
  refine r_aload_n O 0 dX9_init_151 rfl (Or.inl rfl) ?_
  refine r_iconst O (v := -1) dX9_init_152 (by decide) ?_
  obtain ⟨h34, eh34, hf⟩ := bnd hf
  refine r_pI O cf9 29 (by decide) rfl fl_X9_70 rfl eh34 dX9_init_153 ?_
  refine r_aload_n O 0 dX9_init_156 rfl (Or.inl rfl) ?_
  refine r_sipush O (v := 1100) dX9_init_157 (by decide) ?_
  obtain ⟨h35, eh35, hf⟩ := bnd hf
  refine r_newI O waI (len := 1100) (by decide) (by decide) (by decide) (by decide) (by decide) dX9_init_160 ?_
  rw [Option.some.inj eh35]
  obtain ⟨h36, eh36, hf⟩ := bnd hf
  refine r_pPF O hin cf9 33 (by decide) rfl fl_X9_73 rfl rfl eh36 dX9_init_162 ?_
  refine r_aload_n O 0 dX9_init_165 rfl (Or.inl rfl) ?_
  refine r_sipush O (v := 1100) dX9_init_166 (by decide) ?_
  obtain ⟨h37, eh37, hf⟩ := bnd hf
  refine r_newI O waI (len := 1100) (by decide) (by decide) (by decide) (by decide) (by decide) dX9_init_169 ?_
  rw [Option.some.inj eh37]
  obtain ⟨h38, eh38, hf⟩ := bnd hf
  refine r_pPF O hin cf9 35 (by decide) rfl fl_X9_76 rfl rfl eh38 dX9_init_171 ?_
  refine r_aload_n O 0 dX9_init_174 rfl (Or.inl rfl) ?_
  refine r_sipush O (v := 258) dX9_init_175 (by decide) ?_
  obtain ⟨h39, eh39, hf⟩ := bnd hf
  refine r_newI O waI (len := 258) (by decide) (by decide) (by decide) (by decide) (by decide) dX9_init_178 ?_
  rw [Option.some.inj eh39]
  obtain ⟨h40, eh40, hf⟩ := bnd hf
  refine r_pPF O hin cf9 37 (by decide) rfl fl_X9_79 rfl rfl eh40 dX9_init_180 ?_
  refine r_aload_n O 0 dX9_init_183 rfl (Or.inl rfl) ?_
  refine r_sipush O (v := 258) dX9_init_184 (by decide) ?_
  obtain ⟨h41, eh41, hf⟩ := bnd hf
  refine r_newZ O waZ (len := 258) (by decide) (by decide) (by decide) (by decide) (by decide) dX9_init_187 ?_
  rw [Option.some.inj eh41]
  obtain ⟨h42, eh42, hf⟩ := bnd hf
  refine r_pPF O hin cf9 38 (by decide) rfl fl_X9_82 rfl rfl eh42 dX9_init_189 ?_
  refine r_aload_n O 0 dX9_init_192 rfl (Or.inl rfl) ?_
  refine r_ldc O ci_X9_86 dX9_init_193 ?_
  obtain ⟨h43, eh43, hf⟩ := bnd hf
  refine r_newZ O waZ (len := 66564) (by decide) (by decide) (by decide) (by decide) (by decide) dX9_init_195 ?_
  rw [Option.some.inj eh43]
  obtain ⟨h44, eh44, hf⟩ := bnd hf
  refine r_pPF O hin cf9 39 (by decide) rfl fl_X9_87 rfl rfl eh44 dX9_init_197 ?_
  refine r_aload_n O 0 dX9_init_200 rfl (Or.inl rfl) ?_
  refine r_sipush O (v := 258) dX9_init_201 (by decide) ?_
  obtain ⟨h45, eh45, hf⟩ := bnd hf
  refine r_newI O waI (len := 258) (by decide) (by decide) (by decide) (by decide) (by decide) dX9_init_204 ?_
  rw [Option.some.inj eh45]
  obtain ⟨h46, eh46, hf⟩ := bnd hf
  refine r_pPF O hin cf9 40 (by decide) rfl fl_X9_90 rfl rfl eh46 dX9_init_206 ?_
  refine r_aload_n O 0 dX9_init_209 rfl (Or.inl rfl) ?_
  refine r_bipush O (v := 9) dX9_init_210 (by decide) ?_
  obtain ⟨h47, eh47, hf⟩ := bnd hf
  refine r_newJ O waJ (len := 9) (by decide) (by decide) (by decide) (by decide) (by decide) dX9_init_212 ?_
  rw [Option.some.inj eh47]
  obtain ⟨h48, eh48, hf⟩ := bnd hf
  refine r_pPF O hin cf9 41 (by decide) rfl fl_X9_93 rfl rfl eh48 dX9_init_214 ?_
  refine r_iconst O (v := 0) dX9_init_217 (by decide) ?_
  refine r_istore_n O [(1, .int 0), (0, .ref a0)] dX9_init_218 (by decide) rfl ?_
  obtain ⟨h53, hw, hf⟩ := bnd hf
  refine AW.sub [1, 0] rfl ?_
  refine s_X9_init_219 O ?_ _ _ _ hw
  refine r_aload_n O 0 dX9_init_253 rfl (Or.inl rfl) ?_
  obtain ⟨x54, ex54, hf⟩ := bnd hf
  refine r_gP O cf9 10 (by decide) rfl fl_X9_33 ex54 dX9_init_254 ?_
  refine r_iconst O (v := 0) dX9_init_257 (by decide) ?_
  refine r_aload_n O 0 dX9_init_258 rfl (Or.inl rfl) ?_
  obtain ⟨x55, ex55, hf⟩ := bnd hf
  refine r_gP O cf9 11 (by decide) rfl fl_X9_36 ex55 dX9_init_259 ?_
  refine r_iconst O (v := 0) dX9_init_262 (by decide) ?_
  refine r_sipush O (v := 504) dX9_init_263 (by decide) ?_
  obtain ⟨h57, eh57, hf⟩ := bnd hf
  refine r_callS (av := [.ref x54, .int 0, .ref x55, .int 0, .int 504]) (st := []) O (c_X9_copyInts eh57) mf_X9_copyInts ml_X9_96 ms_X9_copyInts (by decide) (Nat.le_of_ble_eq_true rfl) (by decide) dX9_init_266 ?_
  obtain rfl := Option.some.inj hf
  exact r_vret O hr rfl rfl (by decide) (by decide) dX9_init_269
def f_X9_copyLongs_3 (l0 : Nat) (l1 : Int32) (l2 : Nat) (l3 : Int32) (l4 : Int32) (n : Nat) (h : AH) (l5 : Int32) : Option AH := match n with
| 0 => none
| n + 1 =>
if l4 ≤ l5 then
some h
else
Option.bind (ldJ h l0 (l1 + l5)) fun x1 =>
Option.bind (stJ h l2 (l3 + l5) x1) fun h2 =>
f_X9_copyLongs_3 l0 l1 l2 l3 l4 n h2 (l5 + 1)
def f_X9_copyLongs (h : AH) (a0 : Nat) (a1 : Int32) (a2 : Nat) (a3 : Int32) (a4 : Int32) : Option AH :=
Option.bind (f_X9_copyLongs_3 a0 a1 a2 a3 a4 FU h 0) fun h3 =>
some h3
set_option maxRecDepth 100000 in
set_option maxHeartbeats 4000000 in
theorem s_X9_copyLongs_3 {p : Program} {l : Launch} {e : Env} {s : State} {m : MethodId} {args : Array Value} {below : List Frame} {meth : Method} {c : Code} {G : GT} {Q : State → Prop} (O : OkC p l s m args meth c G cX9_copyLongs 6 RX9) {l0 : Nat} {l1 : Int32} {l2 : Nat} {l3 : Int32} {l4 : Int32} {wh : AH} (kk : AW p l e { frames := 0, cells := 0, slots := 0, locals := 0 } s m args below meth c G 6 Q wh 0 0 28 [] []) : ∀ (n : Nat), ∀ (h : AH) (l5 : Int32), f_X9_copyLongs_3 l0 l1 l2 l3 l4 n h l5 = some wh → AW p l e { frames := 0, cells := 0, slots := 0, locals := 0 } s m args below meth c G 6 Q h 0 0 3 [(0, .ref l0), (1, .int l1), (2, .ref l2), (3, .int l3), (4, .int l4), (5, .int l5)] [] := by
  intro n
  induction n with
  | zero =>
    intro h l5 hf
    simp [f_X9_copyLongs_3] at hf
  | succ n ih =>
    intro h l5 hf
    unfold f_X9_copyLongs_3 at hf
    refine r_iload O 5 dX9_copyLongs_3 rfl ?_
    refine r_iload O 4 dX9_copyLongs_5 rfl ?_
    by_cases hc : l4 ≤ l5
    · rw [if_pos hc] at hf
      refine r_icmp_ge_t (tgt := 28) O dX9_copyLongs_7 (by decide) hc ?_
      obtain rfl := oi1 hf
      refine AW.sub [] rfl ?_
      exact kk
    · rw [if_neg hc] at hf
      refine r_icmp_ge_f (tgt := 28) O dX9_copyLongs_7 (by decide) hc ?_
      refine r_aload_n O 2 dX9_copyLongs_10 rfl (Or.inl rfl) ?_
      refine r_iload_n O 3 dX9_copyLongs_11 rfl ?_
      refine r_iload O 5 dX9_copyLongs_12 rfl ?_
      refine r_iadd O dX9_copyLongs_14 ?_
      refine r_aload_n O 0 dX9_copyLongs_15 rfl (Or.inl rfl) ?_
      refine r_iload_n O 1 dX9_copyLongs_16 rfl ?_
      refine r_iload O 5 dX9_copyLongs_17 rfl ?_
      refine r_iadd O dX9_copyLongs_19 ?_
      obtain ⟨x1, ex1, hf⟩ := bnd hf
      refine r_ldJ O ex1 dX9_copyLongs_20 ?_
      obtain ⟨h2, eh2, hf⟩ := bnd hf
      refine r_stJ O eh2 dX9_copyLongs_21 ?_
      refine r_iinc O 5 [(5, .int (l5 + 1)), (0, .ref l0), (1, .int l1), (2, .ref l2), (3, .int l3), (4, .int l4)] dX9_copyLongs_22 rfl rfl (by decide) rfl ?_
      refine r_goto (tgt := 3) O dX9_copyLongs_25 (by decide) ?_
      refine AW.sub [1, 2, 3, 4, 5, 0] rfl ?_
      exact ih _ _ hf
set_option maxRecDepth 100000 in
set_option maxHeartbeats 4000000 in
theorem c_X9_copyLongs {l : Launch} {G : GT} {h : AH} {a0 : Nat} {a1 : Int32} {a2 : Nat} {a3 : Int32} {a4 : Int32} {r : AH} (hf : f_X9_copyLongs h a0 a1 a2 a3 a4 = some r) : Cn l yX9_copyLongs cX9_copyLongs 6 none 0 0 0 0 G h [.ref a0, .int a1, .ref a2, .int a3, .int a4] (.ok none) r := by
  refine Cn.of (by decide) (Nat.le_of_ble_eq_true rfl) ?_
  intro p e s m args below meth c O hr hx hin
  have O : OkC p l s m args meth c G cX9_copyLongs 6 RX9 := O
  unfold f_X9_copyLongs at hf
  refine AW.sub (lv' := [(0, .ref a0), (1, .int a1), (2, .ref a2), (3, .int a3), (4, .int a4)]) [0, 1, 2, 3, 4] rfl ?_
  refine r_iconst O (v := 0) dX9_copyLongs_0 (by decide) ?_
  refine r_istore O [(5, .int 0), (0, .ref a0), (1, .int a1), (2, .ref a2), (3, .int a3), (4, .int a4)] dX9_copyLongs_1 (by decide) rfl ?_
  obtain ⟨h3, hw, hf⟩ := bnd hf
  refine AW.sub [1, 2, 3, 4, 5, 0] rfl ?_
  refine s_X9_copyLongs_3 O ?_ _ _ _ hw
  obtain rfl := Option.some.inj hf
  exact r_vret O hr rfl rfl (by decide) (by decide) dX9_copyLongs_28
def f_X9_fail (h : AH) (a0 : Nat) (a1 : Int32) : Option (Int32 × AH) :=
if aK h a0 = 9 then
Option.bind (pI h 9 a0 0 a1) fun h1 =>
some (0, h1)
else none
theorem kd_X9_fail {h : AH} {a0 : Nat} {a1 : Int32} {r : (Int32 × AH)} (hf : f_X9_fail h a0 a1 = some r) : aK h a0 = 9 := by
  unfold f_X9_fail at hf
  exact (ifk hf).1
set_option maxRecDepth 100000 in
set_option maxHeartbeats 4000000 in
theorem c_X9_fail {l : Launch} {G : GT} {h : AH} {a0 : Nat} {a1 : Int32} {r : (Int32 × AH)} (hf : f_X9_fail h a0 a1 = some r) : Cn l yX9_fail cX9_fail 2 (some .int) 0 0 0 0 G h [.ref a0, .int a1] (.ok (some (.int r.1))) r.2 := by
  refine Cn.of (by decide) (Nat.le_of_ble_eq_true rfl) ?_
  intro p e s m args below meth c O hr hx hin
  have O : OkC p l s m args meth c G cX9_fail 2 RX9 := O
  unfold f_X9_fail at hf
  obtain ⟨hk0, hf⟩ := ifk hf
  refine AW.sub (lv' := [(0, .ref a0), (1, .int a1)]) [0, 1] rfl ?_
  refine r_aload_n O 0 dX9_fail_0 rfl (Or.inl rfl) ?_
  refine r_iload_n O 1 dX9_fail_1 rfl ?_
  obtain ⟨h1, eh1, hf⟩ := bnd hf
  refine r_pI O cf9 0 (by decide) rfl fl_X9_1 rfl eh1 dX9_fail_2 ?_
  refine r_iconst O (v := 0) dX9_fail_5 (by decide) ?_
  obtain rfl := Option.some.inj hf
  exact r_iret O hr rfl rfl (by decide) (by decide) dX9_fail_6
def f_X9_isThing (h : AH) (a0 : Nat) (a1 : Int32) : Option Int32 :=
if aK h a0 = 9 then
Option.bind (if a1 < 0 then
some (0 : Int32)
else
Option.bind (gI h 9 a0 2) fun x2 =>
if x2 ≤ a1 then
some (0 : Int32)
else
some (1 : Int32)) fun x1 =>
Option.bind (bz x1) fun x3 =>
some x3
else none
theorem kd_X9_isThing {h : AH} {a0 : Nat} {a1 : Int32} {r : Int32} (hf : f_X9_isThing h a0 a1 = some r) : aK h a0 = 9 := by
  unfold f_X9_isThing at hf
  exact (ifk hf).1
set_option maxRecDepth 100000 in
set_option maxHeartbeats 4000000 in
theorem c_X9_isThing {l : Launch} {G : GT} {h : AH} {a0 : Nat} {a1 : Int32} {r : Int32} (hf : f_X9_isThing h a0 a1 = some r) : Cn l yX9_isThing cX9_isThing 2 (some .boolean) 0 0 0 0 G h [.ref a0, .int a1] (.ok (some (.int r))) h := by
  refine Cn.of (by decide) (Nat.le_of_ble_eq_true rfl) ?_
  intro p e s m args below meth c O hr hx hin
  have O : OkC p l s m args meth c G cX9_isThing 2 RX9 := O
  unfold f_X9_isThing at hf
  obtain ⟨hk0, hf⟩ := ifk hf
  refine AW.sub (lv' := [(0, .ref a0), (1, .int a1)]) [0, 1] rfl ?_
  refine r_iload_n O 1 dX9_isThing_0 rfl ?_
  obtain ⟨x1, hg, hf⟩ := bnd hf
  have hJ : AW p l e { frames := 0, cells := 0, slots := 0, locals := 0 } s m args below meth c G 2 (vx_MQ below (QcN G (.ok (some (.int r))) h) (XcN G (.ok (some (.int r))) h) args s 0 0 (gA G)) h 0 0 17 [] [.int x1] := by
    obtain ⟨x3, ex3, hf⟩ := bnd hf
    refine r_nmI (bz_eq ex3) ?_
    obtain rfl := Option.some.inj hf
    exact r_zret O hr (bz_or ex3) rfl rfl (by decide) (by decide) dX9_isThing_17
  clear hf
  have hf := hg
  clear hg
  by_cases hc : a1 < 0
  · rw [if_pos hc] at hf
    refine r_if_lt_t (tgt := 16) O dX9_isThing_1 (by decide) hc ?_
    refine r_iconst O (v := 0) dX9_isThing_16 (by decide) ?_
    obtain rfl := oi1 hf
    refine AW.sub [] rfl ?_
    exact hJ
  · rw [if_neg hc] at hf
    refine r_if_lt_f (tgt := 16) O dX9_isThing_1 (by decide) hc ?_
    refine r_iload_n O 1 dX9_isThing_4 rfl ?_
    refine r_aload_n O 0 dX9_isThing_5 rfl (Or.inl rfl) ?_
    obtain ⟨x2, ex2, hf⟩ := bnd hf
    refine r_gI O cf9 2 (by decide) rfl fl_X9_100 ex2 dX9_isThing_6 ?_
    by_cases hc : x2 ≤ a1
    · rw [if_pos hc] at hf
      refine r_icmp_ge_t (tgt := 16) O dX9_isThing_9 (by decide) hc ?_
      refine r_iconst O (v := 0) dX9_isThing_16 (by decide) ?_
      obtain rfl := oi1 hf
      refine AW.sub [] rfl ?_
      exact hJ
    · rw [if_neg hc] at hf
      refine r_icmp_ge_f (tgt := 16) O dX9_isThing_9 (by decide) hc ?_
      refine r_iconst O (v := 1) dX9_isThing_12 (by decide) ?_
      refine r_goto (tgt := 17) O dX9_isThing_13 (by decide) ?_
      obtain rfl := oi1 hf
      refine AW.sub [] rfl ?_
      exact hJ
def f_X9_isList (h : AH) (a0 : Nat) (a1 : Int32) : Option Int32 :=
if aK h a0 = 9 then
Option.bind (if a1 < 0 then
some (0 : Int32)
else
Option.bind (gI h 9 a0 3) fun x2 =>
if x2 ≤ a1 then
some (0 : Int32)
else
some (1 : Int32)) fun x1 =>
Option.bind (bz x1) fun x3 =>
some x3
else none
theorem kd_X9_isList {h : AH} {a0 : Nat} {a1 : Int32} {r : Int32} (hf : f_X9_isList h a0 a1 = some r) : aK h a0 = 9 := by
  unfold f_X9_isList at hf
  exact (ifk hf).1
set_option maxRecDepth 100000 in
set_option maxHeartbeats 4000000 in
theorem c_X9_isList {l : Launch} {G : GT} {h : AH} {a0 : Nat} {a1 : Int32} {r : Int32} (hf : f_X9_isList h a0 a1 = some r) : Cn l yX9_isList cX9_isList 2 (some .boolean) 0 0 0 0 G h [.ref a0, .int a1] (.ok (some (.int r))) h := by
  refine Cn.of (by decide) (Nat.le_of_ble_eq_true rfl) ?_
  intro p e s m args below meth c O hr hx hin
  have O : OkC p l s m args meth c G cX9_isList 2 RX9 := O
  unfold f_X9_isList at hf
  obtain ⟨hk0, hf⟩ := ifk hf
  refine AW.sub (lv' := [(0, .ref a0), (1, .int a1)]) [0, 1] rfl ?_
  refine r_iload_n O 1 dX9_isList_0 rfl ?_
  obtain ⟨x1, hg, hf⟩ := bnd hf
  have hJ : AW p l e { frames := 0, cells := 0, slots := 0, locals := 0 } s m args below meth c G 2 (vx_MQ below (QcN G (.ok (some (.int r))) h) (XcN G (.ok (some (.int r))) h) args s 0 0 (gA G)) h 0 0 17 [] [.int x1] := by
    obtain ⟨x3, ex3, hf⟩ := bnd hf
    refine r_nmI (bz_eq ex3) ?_
    obtain rfl := Option.some.inj hf
    exact r_zret O hr (bz_or ex3) rfl rfl (by decide) (by decide) dX9_isList_17
  clear hf
  have hf := hg
  clear hg
  by_cases hc : a1 < 0
  · rw [if_pos hc] at hf
    refine r_if_lt_t (tgt := 16) O dX9_isList_1 (by decide) hc ?_
    refine r_iconst O (v := 0) dX9_isList_16 (by decide) ?_
    obtain rfl := oi1 hf
    refine AW.sub [] rfl ?_
    exact hJ
  · rw [if_neg hc] at hf
    refine r_if_lt_f (tgt := 16) O dX9_isList_1 (by decide) hc ?_
    refine r_iload_n O 1 dX9_isList_4 rfl ?_
    refine r_aload_n O 0 dX9_isList_5 rfl (Or.inl rfl) ?_
    obtain ⟨x2, ex2, hf⟩ := bnd hf
    refine r_gI O cf9 3 (by decide) rfl fl_X9_103 ex2 dX9_isList_6 ?_
    by_cases hc : x2 ≤ a1
    · rw [if_pos hc] at hf
      refine r_icmp_ge_t (tgt := 16) O dX9_isList_9 (by decide) hc ?_
      refine r_iconst O (v := 0) dX9_isList_16 (by decide) ?_
      obtain rfl := oi1 hf
      refine AW.sub [] rfl ?_
      exact hJ
    · rw [if_neg hc] at hf
      refine r_icmp_ge_f (tgt := 16) O dX9_isList_9 (by decide) hc ?_
      refine r_iconst O (v := 1) dX9_isList_12 (by decide) ?_
      refine r_goto (tgt := 17) O dX9_isList_13 (by decide) ?_
      obtain rfl := oi1 hf
      refine AW.sub [] rfl ?_
      exact hJ
def f_X9_thing (h : AH) (a0 : Nat) (a1 : Int32) (a2 : Int32) (a3 : Int32) (a4 : Int32) : Option (Int32 × AH) :=
if aK h a0 = 9 then
Option.bind (pI h 9 a0 0 0) fun h1 =>
Option.bind (gI h1 9 a0 1) fun x2 =>
if x2 = 0 then
Option.bind (f_X9_fail h1 a0 1) fun w => match w with
| (x3, h4) =>
some (x3, h4)
else
Option.bind (gI h1 9 a0 2) fun x5 =>
if x5 = 40 then
Option.bind (f_X9_fail h1 a0 1) fun w => match w with
| (x25, h26) =>
some (x25, h26)
else
Option.bind (gP h1 9 a0 10) fun x6 =>
Option.bind (gI h1 9 a0 2) fun x7 =>
Option.bind (stI h1 x6 (0 + (4 * x7)) a1) fun h8 =>
Option.bind (gP h8 9 a0 10) fun x9 =>
Option.bind (gI h8 9 a0 2) fun x10 =>
Option.bind (stI h8 x9 ((0 + (4 * x10)) + 1) a2) fun h11 =>
Option.bind (gP h11 9 a0 10) fun x12 =>
Option.bind (gI h11 9 a0 2) fun x13 =>
Option.bind (stI h11 x12 ((0 + (4 * x13)) + 2) a3) fun h14 =>
Option.bind (gP h14 9 a0 10) fun x15 =>
Option.bind (gI h14 9 a0 2) fun x16 =>
Option.bind (stI h14 x15 ((0 + (4 * x16)) + 3) a4) fun h17 =>
Option.bind (gI h17 9 a0 2) fun x18 =>
Option.bind (pI h17 9 a0 2 (x18 + 1)) fun h19 =>
Option.bind (gP h19 9 a0 10) fun x20 =>
Option.bind (gP h19 9 a0 11) fun x21 =>
Option.bind (f_X9_copyInts h19 x20 0 x21 0 504) fun h23 =>
Option.bind (gI h23 9 a0 2) fun x24 =>
some (x24 - 1, h23)
else none
theorem kd_X9_thing {h : AH} {a0 : Nat} {a1 : Int32} {a2 : Int32} {a3 : Int32} {a4 : Int32} {r : (Int32 × AH)} (hf : f_X9_thing h a0 a1 a2 a3 a4 = some r) : aK h a0 = 9 := by
  unfold f_X9_thing at hf
  exact (ifk hf).1
set_option maxRecDepth 100000 in
set_option maxHeartbeats 4000000 in
theorem c_X9_thing {l : Launch} {G : GT} {h : AH} {a0 : Nat} {a1 : Int32} {a2 : Int32} {a3 : Int32} {a4 : Int32} {r : (Int32 × AH)} (hf : f_X9_thing h a0 a1 a2 a3 a4 = some r) : Cn l yX9_thing cX9_thing 5 (some .int) 1 25 0 0 G h [.ref a0, .int a1, .int a2, .int a3, .int a4] (.ok (some (.int r.1))) r.2 := by
  refine Cn.of (by decide) (Nat.le_of_ble_eq_true rfl) ?_
  intro p e s m args below meth c O hr hx hin
  have O : OkC p l s m args meth c G cX9_thing 5 RX9 := O
  unfold f_X9_thing at hf
  obtain ⟨hk0, hf⟩ := ifk hf
  refine AW.sub (lv' := [(0, .ref a0), (1, .int a1), (2, .int a2), (3, .int a3), (4, .int a4)]) [0, 1, 2, 3, 4] rfl ?_
  refine r_aload_n O 0 dX9_thing_0 rfl (Or.inl rfl) ?_
  refine r_iconst O (v := 0) dX9_thing_1 (by decide) ?_
  obtain ⟨h1, eh1, hf⟩ := bnd hf
  refine r_pI O cf9 0 (by decide) rfl fl_X9_1 rfl eh1 dX9_thing_2 ?_
  refine r_aload_n O 0 dX9_thing_5 rfl (Or.inl rfl) ?_
  obtain ⟨x2, ex2, hf⟩ := bnd hf
  refine r_gI O cf9 1 (by decide) rfl fl_X9_13 ex2 dX9_thing_6 ?_
  by_cases hc : x2 = 0
  · rw [if_pos hc] at hf
    refine r_if_eq_t (tgt := 21) O dX9_thing_9 (by decide) hc ?_
    refine r_aload_n O 0 dX9_thing_21 rfl (Or.inl rfl) ?_
    refine r_iconst O (v := 1) dX9_thing_22 (by decide) ?_
    obtain ⟨⟨x3, h4⟩, ex3, hf⟩ := bnd hf
    dsimp only at hf
    refine r_callV (av := [.int 1]) (st := []) O (c_X9_fail ex3) mf_X9_fail cf9 (kd_X9_fail ex3) ml_X9_106 mi_X9_fail mv_X9_fail (by decide) (Nat.le_of_ble_eq_true rfl) (by decide) dX9_thing_23 ?_
    obtain rfl := Option.some.inj hf
    exact r_iret O hr rfl rfl (by decide) (by decide) dX9_thing_26
  · rw [if_neg hc] at hf
    refine r_if_eq_f (tgt := 21) O dX9_thing_9 (by decide) hc ?_
    refine r_aload_n O 0 dX9_thing_12 rfl (Or.inl rfl) ?_
    obtain ⟨x5, ex5, hf⟩ := bnd hf
    refine r_gI O cf9 2 (by decide) rfl fl_X9_100 ex5 dX9_thing_13 ?_
    refine r_bipush O (v := 40) dX9_thing_16 (by decide) ?_
    by_cases hc : x5 = 40
    · rw [if_pos hc] at hf
      refine r_icmp_ne_f (tgt := 27) O dX9_thing_18 (by decide) hc ?_
      refine r_aload_n O 0 dX9_thing_21 rfl (Or.inl rfl) ?_
      refine r_iconst O (v := 1) dX9_thing_22 (by decide) ?_
      obtain ⟨⟨x25, h26⟩, ex25, hf⟩ := bnd hf
      dsimp only at hf
      refine r_callV (av := [.int 1]) (st := []) O (c_X9_fail ex25) mf_X9_fail cf9 (kd_X9_fail ex25) ml_X9_106 mi_X9_fail mv_X9_fail (by decide) (Nat.le_of_ble_eq_true rfl) (by decide) dX9_thing_23 ?_
      obtain rfl := Option.some.inj hf
      exact r_iret O hr rfl rfl (by decide) (by decide) dX9_thing_26
    · rw [if_neg hc] at hf
      refine r_icmp_ne_t (tgt := 27) O dX9_thing_18 (by decide) hc ?_
      refine r_aload_n O 0 dX9_thing_27 rfl (Or.inl rfl) ?_
      obtain ⟨x6, ex6, hf⟩ := bnd hf
      refine r_gP O cf9 10 (by decide) rfl fl_X9_33 ex6 dX9_thing_28 ?_
      refine r_iconst O (v := 0) dX9_thing_31 (by decide) ?_
      refine r_iconst O (v := 4) dX9_thing_32 (by decide) ?_
      refine r_aload_n O 0 dX9_thing_33 rfl (Or.inl rfl) ?_
      obtain ⟨x7, ex7, hf⟩ := bnd hf
      refine r_gI O cf9 2 (by decide) rfl fl_X9_100 ex7 dX9_thing_34 ?_
      refine r_imul O dX9_thing_37 ?_
      refine r_iadd O dX9_thing_38 ?_
      refine r_iload_n O 1 dX9_thing_39 rfl ?_
      obtain ⟨h8, eh8, hf⟩ := bnd hf
      refine r_stI O eh8 dX9_thing_40 ?_
      refine r_aload_n O 0 dX9_thing_41 rfl (Or.inl rfl) ?_
      obtain ⟨x9, ex9, hf⟩ := bnd hf
      refine r_gP O cf9 10 (by decide) rfl fl_X9_33 ex9 dX9_thing_42 ?_
      refine r_iconst O (v := 0) dX9_thing_45 (by decide) ?_
      refine r_iconst O (v := 4) dX9_thing_46 (by decide) ?_
      refine r_aload_n O 0 dX9_thing_47 rfl (Or.inl rfl) ?_
      obtain ⟨x10, ex10, hf⟩ := bnd hf
      refine r_gI O cf9 2 (by decide) rfl fl_X9_100 ex10 dX9_thing_48 ?_
      refine r_imul O dX9_thing_51 ?_
      refine r_iadd O dX9_thing_52 ?_
      refine r_iconst O (v := 1) dX9_thing_53 (by decide) ?_
      refine r_iadd O dX9_thing_54 ?_
      refine r_iload_n O 2 dX9_thing_55 rfl ?_
      obtain ⟨h11, eh11, hf⟩ := bnd hf
      refine r_stI O eh11 dX9_thing_56 ?_
      refine r_aload_n O 0 dX9_thing_57 rfl (Or.inl rfl) ?_
      obtain ⟨x12, ex12, hf⟩ := bnd hf
      refine r_gP O cf9 10 (by decide) rfl fl_X9_33 ex12 dX9_thing_58 ?_
      refine r_iconst O (v := 0) dX9_thing_61 (by decide) ?_
      refine r_iconst O (v := 4) dX9_thing_62 (by decide) ?_
      refine r_aload_n O 0 dX9_thing_63 rfl (Or.inl rfl) ?_
      obtain ⟨x13, ex13, hf⟩ := bnd hf
      refine r_gI O cf9 2 (by decide) rfl fl_X9_100 ex13 dX9_thing_64 ?_
      refine r_imul O dX9_thing_67 ?_
      refine r_iadd O dX9_thing_68 ?_
      refine r_iconst O (v := 2) dX9_thing_69 (by decide) ?_
      refine r_iadd O dX9_thing_70 ?_
      refine r_iload_n O 3 dX9_thing_71 rfl ?_
      obtain ⟨h14, eh14, hf⟩ := bnd hf
      refine r_stI O eh14 dX9_thing_72 ?_
      refine r_aload_n O 0 dX9_thing_73 rfl (Or.inl rfl) ?_
      obtain ⟨x15, ex15, hf⟩ := bnd hf
      refine r_gP O cf9 10 (by decide) rfl fl_X9_33 ex15 dX9_thing_74 ?_
      refine r_iconst O (v := 0) dX9_thing_77 (by decide) ?_
      refine r_iconst O (v := 4) dX9_thing_78 (by decide) ?_
      refine r_aload_n O 0 dX9_thing_79 rfl (Or.inl rfl) ?_
      obtain ⟨x16, ex16, hf⟩ := bnd hf
      refine r_gI O cf9 2 (by decide) rfl fl_X9_100 ex16 dX9_thing_80 ?_
      refine r_imul O dX9_thing_83 ?_
      refine r_iadd O dX9_thing_84 ?_
      refine r_iconst O (v := 3) dX9_thing_85 (by decide) ?_
      refine r_iadd O dX9_thing_86 ?_
      refine r_iload O 4 dX9_thing_87 rfl ?_
      obtain ⟨h17, eh17, hf⟩ := bnd hf
      refine r_stI O eh17 dX9_thing_89 ?_
      refine r_aload_n O 0 dX9_thing_90 rfl (Or.inl rfl) ?_
      refine r_dup O dX9_thing_91 rfl ?_
      obtain ⟨x18, ex18, hf⟩ := bnd hf
      refine r_gI O cf9 2 (by decide) rfl fl_X9_100 ex18 dX9_thing_92 ?_
      refine r_iconst O (v := 1) dX9_thing_95 (by decide) ?_
      refine r_iadd O dX9_thing_96 ?_
      obtain ⟨h19, eh19, hf⟩ := bnd hf
      refine r_pI O cf9 2 (by decide) rfl fl_X9_100 rfl eh19 dX9_thing_97 ?_
      refine r_aload_n O 0 dX9_thing_100 rfl (Or.inl rfl) ?_
      obtain ⟨x20, ex20, hf⟩ := bnd hf
      refine r_gP O cf9 10 (by decide) rfl fl_X9_33 ex20 dX9_thing_101 ?_
      refine r_iconst O (v := 0) dX9_thing_104 (by decide) ?_
      refine r_aload_n O 0 dX9_thing_105 rfl (Or.inl rfl) ?_
      obtain ⟨x21, ex21, hf⟩ := bnd hf
      refine r_gP O cf9 11 (by decide) rfl fl_X9_36 ex21 dX9_thing_106 ?_
      refine r_iconst O (v := 0) dX9_thing_109 (by decide) ?_
      refine r_sipush O (v := 504) dX9_thing_110 (by decide) ?_
      obtain ⟨h23, eh23, hf⟩ := bnd hf
      refine r_callS (av := [.ref x20, .int 0, .ref x21, .int 0, .int 504]) (st := []) O (c_X9_copyInts eh23) mf_X9_copyInts ml_X9_96 ms_X9_copyInts (by decide) (Nat.le_of_ble_eq_true rfl) (by decide) dX9_thing_113 ?_
      refine r_aload_n O 0 dX9_thing_116 rfl (Or.inl rfl) ?_
      obtain ⟨x24, ex24, hf⟩ := bnd hf
      refine r_gI O cf9 2 (by decide) rfl fl_X9_100 ex24 dX9_thing_117 ?_
      refine r_iconst O (v := 1) dX9_thing_120 (by decide) ?_
      refine r_isub O dX9_thing_121 ?_
      obtain rfl := Option.some.inj hf
      exact r_iret O hr rfl rfl (by decide) (by decide) dX9_thing_122
def f_X9_list (h : AH) (a0 : Nat) (a1 : Int32) (a2 : Int32) : Option (Int32 × AH) :=
if aK h a0 = 9 then
Option.bind (pI h 9 a0 0 0) fun h1 =>
Option.bind (gI h1 9 a0 1) fun x2 =>
if x2 = 0 then
Option.bind (f_X9_fail h1 a0 1) fun w => match w with
| (x3, h4) =>
some (x3, h4)
else
Option.bind (gI h1 9 a0 3) fun x5 =>
if x5 = 6 then
Option.bind (f_X9_fail h1 a0 1) fun w => match w with
| (x19, h20) =>
some (x19, h20)
else
Option.bind (gP h1 9 a0 10) fun x6 =>
Option.bind (gI h1 9 a0 3) fun x7 =>
Option.bind (stI h1 x6 (160 + (2 * x7)) a1) fun h8 =>
Option.bind (gP h8 9 a0 10) fun x9 =>
Option.bind (gI h8 9 a0 3) fun x10 =>
Option.bind (stI h8 x9 ((160 + (2 * x10)) + 1) a2) fun h11 =>
Option.bind (gI h11 9 a0 3) fun x12 =>
Option.bind (pI h11 9 a0 3 (x12 + 1)) fun h13 =>
Option.bind (gP h13 9 a0 10) fun x14 =>
Option.bind (gP h13 9 a0 11) fun x15 =>
Option.bind (f_X9_copyInts h13 x14 0 x15 0 504) fun h17 =>
Option.bind (gI h17 9 a0 3) fun x18 =>
some (x18 - 1, h17)
else none
theorem kd_X9_list {h : AH} {a0 : Nat} {a1 : Int32} {a2 : Int32} {r : (Int32 × AH)} (hf : f_X9_list h a0 a1 a2 = some r) : aK h a0 = 9 := by
  unfold f_X9_list at hf
  exact (ifk hf).1
set_option maxRecDepth 100000 in
set_option maxHeartbeats 4000000 in
theorem c_X9_list {l : Launch} {G : GT} {h : AH} {a0 : Nat} {a1 : Int32} {a2 : Int32} {r : (Int32 × AH)} (hf : f_X9_list h a0 a1 a2 = some r) : Cn l yX9_list cX9_list 3 (some .int) 1 25 0 0 G h [.ref a0, .int a1, .int a2] (.ok (some (.int r.1))) r.2 := by
  refine Cn.of (by decide) (Nat.le_of_ble_eq_true rfl) ?_
  intro p e s m args below meth c O hr hx hin
  have O : OkC p l s m args meth c G cX9_list 3 RX9 := O
  unfold f_X9_list at hf
  obtain ⟨hk0, hf⟩ := ifk hf
  refine AW.sub (lv' := [(0, .ref a0), (1, .int a1), (2, .int a2)]) [0, 1, 2] rfl ?_
  refine r_aload_n O 0 dX9_list_0 rfl (Or.inl rfl) ?_
  refine r_iconst O (v := 0) dX9_list_1 (by decide) ?_
  obtain ⟨h1, eh1, hf⟩ := bnd hf
  refine r_pI O cf9 0 (by decide) rfl fl_X9_1 rfl eh1 dX9_list_2 ?_
  refine r_aload_n O 0 dX9_list_5 rfl (Or.inl rfl) ?_
  obtain ⟨x2, ex2, hf⟩ := bnd hf
  refine r_gI O cf9 1 (by decide) rfl fl_X9_13 ex2 dX9_list_6 ?_
  by_cases hc : x2 = 0
  · rw [if_pos hc] at hf
    refine r_if_eq_t (tgt := 21) O dX9_list_9 (by decide) hc ?_
    refine r_aload_n O 0 dX9_list_21 rfl (Or.inl rfl) ?_
    refine r_iconst O (v := 1) dX9_list_22 (by decide) ?_
    obtain ⟨⟨x3, h4⟩, ex3, hf⟩ := bnd hf
    dsimp only at hf
    refine r_callV (av := [.int 1]) (st := []) O (c_X9_fail ex3) mf_X9_fail cf9 (kd_X9_fail ex3) ml_X9_106 mi_X9_fail mv_X9_fail (by decide) (Nat.le_of_ble_eq_true rfl) (by decide) dX9_list_23 ?_
    obtain rfl := Option.some.inj hf
    exact r_iret O hr rfl rfl (by decide) (by decide) dX9_list_26
  · rw [if_neg hc] at hf
    refine r_if_eq_f (tgt := 21) O dX9_list_9 (by decide) hc ?_
    refine r_aload_n O 0 dX9_list_12 rfl (Or.inl rfl) ?_
    obtain ⟨x5, ex5, hf⟩ := bnd hf
    refine r_gI O cf9 3 (by decide) rfl fl_X9_103 ex5 dX9_list_13 ?_
    refine r_bipush O (v := 6) dX9_list_16 (by decide) ?_
    by_cases hc : x5 = 6
    · rw [if_pos hc] at hf
      refine r_icmp_ne_f (tgt := 27) O dX9_list_18 (by decide) hc ?_
      refine r_aload_n O 0 dX9_list_21 rfl (Or.inl rfl) ?_
      refine r_iconst O (v := 1) dX9_list_22 (by decide) ?_
      obtain ⟨⟨x19, h20⟩, ex19, hf⟩ := bnd hf
      dsimp only at hf
      refine r_callV (av := [.int 1]) (st := []) O (c_X9_fail ex19) mf_X9_fail cf9 (kd_X9_fail ex19) ml_X9_106 mi_X9_fail mv_X9_fail (by decide) (Nat.le_of_ble_eq_true rfl) (by decide) dX9_list_23 ?_
      obtain rfl := Option.some.inj hf
      exact r_iret O hr rfl rfl (by decide) (by decide) dX9_list_26
    · rw [if_neg hc] at hf
      refine r_icmp_ne_t (tgt := 27) O dX9_list_18 (by decide) hc ?_
      refine r_aload_n O 0 dX9_list_27 rfl (Or.inl rfl) ?_
      obtain ⟨x6, ex6, hf⟩ := bnd hf
      refine r_gP O cf9 10 (by decide) rfl fl_X9_33 ex6 dX9_list_28 ?_
      refine r_sipush O (v := 160) dX9_list_31 (by decide) ?_
      refine r_iconst O (v := 2) dX9_list_34 (by decide) ?_
      refine r_aload_n O 0 dX9_list_35 rfl (Or.inl rfl) ?_
      obtain ⟨x7, ex7, hf⟩ := bnd hf
      refine r_gI O cf9 3 (by decide) rfl fl_X9_103 ex7 dX9_list_36 ?_
      refine r_imul O dX9_list_39 ?_
      refine r_iadd O dX9_list_40 ?_
      refine r_iload_n O 1 dX9_list_41 rfl ?_
      obtain ⟨h8, eh8, hf⟩ := bnd hf
      refine r_stI O eh8 dX9_list_42 ?_
      refine r_aload_n O 0 dX9_list_43 rfl (Or.inl rfl) ?_
      obtain ⟨x9, ex9, hf⟩ := bnd hf
      refine r_gP O cf9 10 (by decide) rfl fl_X9_33 ex9 dX9_list_44 ?_
      refine r_sipush O (v := 160) dX9_list_47 (by decide) ?_
      refine r_iconst O (v := 2) dX9_list_50 (by decide) ?_
      refine r_aload_n O 0 dX9_list_51 rfl (Or.inl rfl) ?_
      obtain ⟨x10, ex10, hf⟩ := bnd hf
      refine r_gI O cf9 3 (by decide) rfl fl_X9_103 ex10 dX9_list_52 ?_
      refine r_imul O dX9_list_55 ?_
      refine r_iadd O dX9_list_56 ?_
      refine r_iconst O (v := 1) dX9_list_57 (by decide) ?_
      refine r_iadd O dX9_list_58 ?_
      refine r_iload_n O 2 dX9_list_59 rfl ?_
      obtain ⟨h11, eh11, hf⟩ := bnd hf
      refine r_stI O eh11 dX9_list_60 ?_
      refine r_aload_n O 0 dX9_list_61 rfl (Or.inl rfl) ?_
      refine r_dup O dX9_list_62 rfl ?_
      obtain ⟨x12, ex12, hf⟩ := bnd hf
      refine r_gI O cf9 3 (by decide) rfl fl_X9_103 ex12 dX9_list_63 ?_
      refine r_iconst O (v := 1) dX9_list_66 (by decide) ?_
      refine r_iadd O dX9_list_67 ?_
      obtain ⟨h13, eh13, hf⟩ := bnd hf
      refine r_pI O cf9 3 (by decide) rfl fl_X9_103 rfl eh13 dX9_list_68 ?_
      refine r_aload_n O 0 dX9_list_71 rfl (Or.inl rfl) ?_
      obtain ⟨x14, ex14, hf⟩ := bnd hf
      refine r_gP O cf9 10 (by decide) rfl fl_X9_33 ex14 dX9_list_72 ?_
      refine r_iconst O (v := 0) dX9_list_75 (by decide) ?_
      refine r_aload_n O 0 dX9_list_76 rfl (Or.inl rfl) ?_
      obtain ⟨x15, ex15, hf⟩ := bnd hf
      refine r_gP O cf9 11 (by decide) rfl fl_X9_36 ex15 dX9_list_77 ?_
      refine r_iconst O (v := 0) dX9_list_80 (by decide) ?_
      refine r_sipush O (v := 504) dX9_list_81 (by decide) ?_
      obtain ⟨h17, eh17, hf⟩ := bnd hf
      refine r_callS (av := [.ref x14, .int 0, .ref x15, .int 0, .int 504]) (st := []) O (c_X9_copyInts eh17) mf_X9_copyInts ml_X9_96 ms_X9_copyInts (by decide) (Nat.le_of_ble_eq_true rfl) (by decide) dX9_list_84 ?_
      refine r_aload_n O 0 dX9_list_87 rfl (Or.inl rfl) ?_
      obtain ⟨x18, ex18, hf⟩ := bnd hf
      refine r_gI O cf9 3 (by decide) rfl fl_X9_103 ex18 dX9_list_88 ?_
      refine r_iconst O (v := 1) dX9_list_91 (by decide) ?_
      refine r_isub O dX9_list_92 ?_
      obtain rfl := Option.some.inj hf
      exact r_iret O hr rfl rfl (by decide) (by decide) dX9_list_93
def f_X9_step (h : AH) (a0 : Nat) (a1 : Int32) (a2 : Int32) : Option (Int32 × AH) :=
if aK h a0 = 9 then
Option.bind (pI h 9 a0 0 0) fun h1 =>
Option.bind (gI h1 9 a0 1) fun x2 =>
if x2 = 0 then
Option.bind (f_X9_fail h1 a0 1) fun w => match w with
| (x3, h4) =>
some (x3, h4)
else
Option.bind (gI h1 9 a0 4) fun x5 =>
if x5 = 24 then
Option.bind (f_X9_fail h1 a0 1) fun w => match w with
| (x15, h16) =>
some (x15, h16)
else
Option.bind (gP h1 9 a0 5) fun x6 =>
Option.bind (gI h1 9 a0 4) fun x7 =>
Option.bind (stI h1 x6 x7 a1) fun h8 =>
Option.bind (gP h8 9 a0 6) fun x9 =>
Option.bind (gI h8 9 a0 4) fun x10 =>
Option.bind (stI h8 x9 x10 a2) fun h11 =>
Option.bind (gI h11 9 a0 4) fun x12 =>
Option.bind (pI h11 9 a0 4 (x12 + 1)) fun h13 =>
Option.bind (gI h13 9 a0 4) fun x14 =>
some (x14, h13)
else none
theorem kd_X9_step {h : AH} {a0 : Nat} {a1 : Int32} {a2 : Int32} {r : (Int32 × AH)} (hf : f_X9_step h a0 a1 a2 = some r) : aK h a0 = 9 := by
  unfold f_X9_step at hf
  exact (ifk hf).1
set_option maxRecDepth 100000 in
set_option maxHeartbeats 4000000 in
theorem c_X9_step {l : Launch} {G : GT} {h : AH} {a0 : Nat} {a1 : Int32} {a2 : Int32} {r : (Int32 × AH)} (hf : f_X9_step h a0 a1 a2 = some r) : Cn l yX9_step cX9_step 3 (some .int) 1 21 0 0 G h [.ref a0, .int a1, .int a2] (.ok (some (.int r.1))) r.2 := by
  refine Cn.of (by decide) (Nat.le_of_ble_eq_true rfl) ?_
  intro p e s m args below meth c O hr hx hin
  have O : OkC p l s m args meth c G cX9_step 3 RX9 := O
  unfold f_X9_step at hf
  obtain ⟨hk0, hf⟩ := ifk hf
  refine AW.sub (lv' := [(0, .ref a0), (1, .int a1), (2, .int a2)]) [0, 1, 2] rfl ?_
  refine r_aload_n O 0 dX9_step_0 rfl (Or.inl rfl) ?_
  refine r_iconst O (v := 0) dX9_step_1 (by decide) ?_
  obtain ⟨h1, eh1, hf⟩ := bnd hf
  refine r_pI O cf9 0 (by decide) rfl fl_X9_1 rfl eh1 dX9_step_2 ?_
  refine r_aload_n O 0 dX9_step_5 rfl (Or.inl rfl) ?_
  obtain ⟨x2, ex2, hf⟩ := bnd hf
  refine r_gI O cf9 1 (by decide) rfl fl_X9_13 ex2 dX9_step_6 ?_
  by_cases hc : x2 = 0
  · rw [if_pos hc] at hf
    refine r_if_eq_t (tgt := 21) O dX9_step_9 (by decide) hc ?_
    refine r_aload_n O 0 dX9_step_21 rfl (Or.inl rfl) ?_
    refine r_iconst O (v := 1) dX9_step_22 (by decide) ?_
    obtain ⟨⟨x3, h4⟩, ex3, hf⟩ := bnd hf
    dsimp only at hf
    refine r_callV (av := [.int 1]) (st := []) O (c_X9_fail ex3) mf_X9_fail cf9 (kd_X9_fail ex3) ml_X9_106 mi_X9_fail mv_X9_fail (by decide) (Nat.le_of_ble_eq_true rfl) (by decide) dX9_step_23 ?_
    obtain rfl := Option.some.inj hf
    exact r_iret O hr rfl rfl (by decide) (by decide) dX9_step_26
  · rw [if_neg hc] at hf
    refine r_if_eq_f (tgt := 21) O dX9_step_9 (by decide) hc ?_
    refine r_aload_n O 0 dX9_step_12 rfl (Or.inl rfl) ?_
    obtain ⟨x5, ex5, hf⟩ := bnd hf
    refine r_gI O cf9 4 (by decide) rfl fl_X9_110 ex5 dX9_step_13 ?_
    refine r_bipush O (v := 24) dX9_step_16 (by decide) ?_
    by_cases hc : x5 = 24
    · rw [if_pos hc] at hf
      refine r_icmp_ne_f (tgt := 27) O dX9_step_18 (by decide) hc ?_
      refine r_aload_n O 0 dX9_step_21 rfl (Or.inl rfl) ?_
      refine r_iconst O (v := 1) dX9_step_22 (by decide) ?_
      obtain ⟨⟨x15, h16⟩, ex15, hf⟩ := bnd hf
      dsimp only at hf
      refine r_callV (av := [.int 1]) (st := []) O (c_X9_fail ex15) mf_X9_fail cf9 (kd_X9_fail ex15) ml_X9_106 mi_X9_fail mv_X9_fail (by decide) (Nat.le_of_ble_eq_true rfl) (by decide) dX9_step_23 ?_
      obtain rfl := Option.some.inj hf
      exact r_iret O hr rfl rfl (by decide) (by decide) dX9_step_26
    · rw [if_neg hc] at hf
      refine r_icmp_ne_t (tgt := 27) O dX9_step_18 (by decide) hc ?_
      refine r_aload_n O 0 dX9_step_27 rfl (Or.inl rfl) ?_
      obtain ⟨x6, ex6, hf⟩ := bnd hf
      refine r_gP O cf9 5 (by decide) rfl fl_X9_17 ex6 dX9_step_28 ?_
      refine r_aload_n O 0 dX9_step_31 rfl (Or.inl rfl) ?_
      obtain ⟨x7, ex7, hf⟩ := bnd hf
      refine r_gI O cf9 4 (by decide) rfl fl_X9_110 ex7 dX9_step_32 ?_
      refine r_iload_n O 1 dX9_step_35 rfl ?_
      obtain ⟨h8, eh8, hf⟩ := bnd hf
      refine r_stI O eh8 dX9_step_36 ?_
      refine r_aload_n O 0 dX9_step_37 rfl (Or.inl rfl) ?_
      obtain ⟨x9, ex9, hf⟩ := bnd hf
      refine r_gP O cf9 6 (by decide) rfl fl_X9_21 ex9 dX9_step_38 ?_
      refine r_aload_n O 0 dX9_step_41 rfl (Or.inl rfl) ?_
      obtain ⟨x10, ex10, hf⟩ := bnd hf
      refine r_gI O cf9 4 (by decide) rfl fl_X9_110 ex10 dX9_step_42 ?_
      refine r_iload_n O 2 dX9_step_45 rfl ?_
      obtain ⟨h11, eh11, hf⟩ := bnd hf
      refine r_stI O eh11 dX9_step_46 ?_
      refine r_aload_n O 0 dX9_step_47 rfl (Or.inl rfl) ?_
      refine r_dup O dX9_step_48 rfl ?_
      obtain ⟨x12, ex12, hf⟩ := bnd hf
      refine r_gI O cf9 4 (by decide) rfl fl_X9_110 ex12 dX9_step_49 ?_
      refine r_iconst O (v := 1) dX9_step_52 (by decide) ?_
      refine r_iadd O dX9_step_53 ?_
      obtain ⟨h13, eh13, hf⟩ := bnd hf
      refine r_pI O cf9 4 (by decide) rfl fl_X9_110 rfl eh13 dX9_step_54 ?_
      refine r_aload_n O 0 dX9_step_57 rfl (Or.inl rfl) ?_
      obtain ⟨x14, ex14, hf⟩ := bnd hf
      refine r_gI O cf9 4 (by decide) rfl fl_X9_110 ex14 dX9_step_58 ?_
      obtain rfl := Option.some.inj hf
      exact r_iret O hr rfl rfl (by decide) (by decide) dX9_step_61
def f_X9_takes (h : AH) (a0 : Int32) : Option Int32 :=
if a0 = 5 then
some 1
else
if a0 = 6 then
some 1
else
if a0 = 7 then
some 1
else
if a0 < 10 then
if a0 = 21 then
some 1
else
if a0 = 22 then
some 1
else
if a0 = 24 then
some 1
else
if a0 < 14 then
if a0 = 23 then
some 2
else
Option.bind (if a0 = 20 then
some (3 : Int32)
else
some (0 : Int32)) fun x1 =>
some x1
else
if a0 ≤ 19 then
some 2
else
if a0 = 23 then
some 2
else
Option.bind (if a0 = 20 then
some (3 : Int32)
else
some (0 : Int32)) fun x2 =>
some x2
else
if a0 ≤ 13 then
some 1
else
if a0 = 21 then
some 1
else
if a0 = 22 then
some 1
else
if a0 = 24 then
some 1
else
if a0 < 14 then
if a0 = 23 then
some 2
else
Option.bind (if a0 = 20 then
some (3 : Int32)
else
some (0 : Int32)) fun x3 =>
some x3
else
if a0 ≤ 19 then
some 2
else
if a0 = 23 then
some 2
else
Option.bind (if a0 = 20 then
some (3 : Int32)
else
some (0 : Int32)) fun x4 =>
some x4
set_option maxRecDepth 100000 in
set_option maxHeartbeats 4000000 in
theorem c_X9_takes {l : Launch} {G : GT} {h : AH} {a0 : Int32} {r : Int32} (hf : f_X9_takes h a0 = some r) : Cn l yX9_takes cX9_takes 1 (some .int) 0 0 0 0 G h [.int a0] (.ok (some (.int r))) h := by
  refine Cn.of (by decide) (Nat.le_of_ble_eq_true rfl) ?_
  intro p e s m args below meth c O hr hx hin
  have O : OkC p l s m args meth c G cX9_takes 1 RX9 := O
  unfold f_X9_takes at hf
  refine AW.sub (lv' := [(0, .int a0)]) [0] rfl ?_
  refine r_iload_n O 0 dX9_takes_0 rfl ?_
  refine r_iconst O (v := 5) dX9_takes_1 (by decide) ?_
  by_cases hc : a0 = 5
  · rw [if_pos hc] at hf
    refine r_icmp_eq_t (tgt := 47) O dX9_takes_2 (by decide) hc ?_
    refine r_iconst O (v := 1) dX9_takes_47 (by decide) ?_
    obtain rfl := Option.some.inj hf
    exact r_iret O hr rfl rfl (by decide) (by decide) dX9_takes_48
  · rw [if_neg hc] at hf
    refine r_icmp_eq_f (tgt := 47) O dX9_takes_2 (by decide) hc ?_
    refine r_iload_n O 0 dX9_takes_5 rfl ?_
    refine r_bipush O (v := 6) dX9_takes_6 (by decide) ?_
    by_cases hc : a0 = 6
    · rw [if_pos hc] at hf
      refine r_icmp_eq_t (tgt := 47) O dX9_takes_8 (by decide) hc ?_
      refine r_iconst O (v := 1) dX9_takes_47 (by decide) ?_
      obtain rfl := Option.some.inj hf
      exact r_iret O hr rfl rfl (by decide) (by decide) dX9_takes_48
    · rw [if_neg hc] at hf
      refine r_icmp_eq_f (tgt := 47) O dX9_takes_8 (by decide) hc ?_
      refine r_iload_n O 0 dX9_takes_11 rfl ?_
      refine r_bipush O (v := 7) dX9_takes_12 (by decide) ?_
      by_cases hc : a0 = 7
      · rw [if_pos hc] at hf
        refine r_icmp_eq_t (tgt := 47) O dX9_takes_14 (by decide) hc ?_
        refine r_iconst O (v := 1) dX9_takes_47 (by decide) ?_
        obtain rfl := Option.some.inj hf
        exact r_iret O hr rfl rfl (by decide) (by decide) dX9_takes_48
      · rw [if_neg hc] at hf
        refine r_icmp_eq_f (tgt := 47) O dX9_takes_14 (by decide) hc ?_
        refine r_iload_n O 0 dX9_takes_17 rfl ?_
        refine r_bipush O (v := 10) dX9_takes_18 (by decide) ?_
        by_cases hc : a0 < 10
        · rw [if_pos hc] at hf
          refine r_icmp_lt_t (tgt := 29) O dX9_takes_20 (by decide) hc ?_
          refine r_iload_n O 0 dX9_takes_29 rfl ?_
          refine r_bipush O (v := 21) dX9_takes_30 (by decide) ?_
          by_cases hc : a0 = 21
          · rw [if_pos hc] at hf
            refine r_icmp_eq_t (tgt := 47) O dX9_takes_32 (by decide) hc ?_
            refine r_iconst O (v := 1) dX9_takes_47 (by decide) ?_
            obtain rfl := Option.some.inj hf
            exact r_iret O hr rfl rfl (by decide) (by decide) dX9_takes_48
          · rw [if_neg hc] at hf
            refine r_icmp_eq_f (tgt := 47) O dX9_takes_32 (by decide) hc ?_
            refine r_iload_n O 0 dX9_takes_35 rfl ?_
            refine r_bipush O (v := 22) dX9_takes_36 (by decide) ?_
            by_cases hc : a0 = 22
            · rw [if_pos hc] at hf
              refine r_icmp_eq_t (tgt := 47) O dX9_takes_38 (by decide) hc ?_
              refine r_iconst O (v := 1) dX9_takes_47 (by decide) ?_
              obtain rfl := Option.some.inj hf
              exact r_iret O hr rfl rfl (by decide) (by decide) dX9_takes_48
            · rw [if_neg hc] at hf
              refine r_icmp_eq_f (tgt := 47) O dX9_takes_38 (by decide) hc ?_
              refine r_iload_n O 0 dX9_takes_41 rfl ?_
              refine r_bipush O (v := 24) dX9_takes_42 (by decide) ?_
              by_cases hc : a0 = 24
              · rw [if_pos hc] at hf
                refine r_icmp_ne_f (tgt := 49) O dX9_takes_44 (by decide) hc ?_
                refine r_iconst O (v := 1) dX9_takes_47 (by decide) ?_
                obtain rfl := Option.some.inj hf
                exact r_iret O hr rfl rfl (by decide) (by decide) dX9_takes_48
              · rw [if_neg hc] at hf
                refine r_icmp_ne_t (tgt := 49) O dX9_takes_44 (by decide) hc ?_
                refine r_iload_n O 0 dX9_takes_49 rfl ?_
                refine r_bipush O (v := 14) dX9_takes_50 (by decide) ?_
                by_cases hc : a0 < 14
                · rw [if_pos hc] at hf
                  refine r_icmp_lt_t (tgt := 61) O dX9_takes_52 (by decide) hc ?_
                  refine r_iload_n O 0 dX9_takes_61 rfl ?_
                  refine r_bipush O (v := 23) dX9_takes_62 (by decide) ?_
                  by_cases hc : a0 = 23
                  · rw [if_pos hc] at hf
                    refine r_icmp_ne_f (tgt := 69) O dX9_takes_64 (by decide) hc ?_
                    refine r_iconst O (v := 2) dX9_takes_67 (by decide) ?_
                    obtain rfl := Option.some.inj hf
                    exact r_iret O hr rfl rfl (by decide) (by decide) dX9_takes_68
                  · rw [if_neg hc] at hf
                    refine r_icmp_ne_t (tgt := 69) O dX9_takes_64 (by decide) hc ?_
                    refine r_iload_n O 0 dX9_takes_69 rfl ?_
                    refine r_bipush O (v := 20) dX9_takes_70 (by decide) ?_
                    obtain ⟨x1, hg, hf⟩ := bnd hf
                    have hJ : AW p l e { frames := 0, cells := 0, slots := 0, locals := 0 } s m args below meth c G 1 (vx_MQ below (QcN G (.ok (some (.int r))) h) (XcN G (.ok (some (.int r))) h) args s 0 0 (gA G)) h 0 0 80 [] [.int x1] := by
                      obtain rfl := Option.some.inj hf
                      exact r_iret O hr rfl rfl (by decide) (by decide) dX9_takes_80
                    clear hf
                    have hf := hg
                    clear hg
                    by_cases hc : a0 = 20
                    · rw [if_pos hc] at hf
                      refine r_icmp_ne_f (tgt := 79) O dX9_takes_72 (by decide) hc ?_
                      refine r_iconst O (v := 3) dX9_takes_75 (by decide) ?_
                      refine r_goto (tgt := 80) O dX9_takes_76 (by decide) ?_
                      obtain rfl := oi1 hf
                      refine AW.sub [] rfl ?_
                      exact hJ
                    · rw [if_neg hc] at hf
                      refine r_icmp_ne_t (tgt := 79) O dX9_takes_72 (by decide) hc ?_
                      refine r_iconst O (v := 0) dX9_takes_79 (by decide) ?_
                      obtain rfl := oi1 hf
                      refine AW.sub [] rfl ?_
                      exact hJ
                · rw [if_neg hc] at hf
                  refine r_icmp_lt_f (tgt := 61) O dX9_takes_52 (by decide) hc ?_
                  refine r_iload_n O 0 dX9_takes_55 rfl ?_
                  refine r_bipush O (v := 19) dX9_takes_56 (by decide) ?_
                  by_cases hc : a0 ≤ 19
                  · rw [if_pos hc] at hf
                    refine r_icmp_le_t (tgt := 67) O dX9_takes_58 (by decide) hc ?_
                    refine r_iconst O (v := 2) dX9_takes_67 (by decide) ?_
                    obtain rfl := Option.some.inj hf
                    exact r_iret O hr rfl rfl (by decide) (by decide) dX9_takes_68
                  · rw [if_neg hc] at hf
                    refine r_icmp_le_f (tgt := 67) O dX9_takes_58 (by decide) hc ?_
                    refine r_iload_n O 0 dX9_takes_61 rfl ?_
                    refine r_bipush O (v := 23) dX9_takes_62 (by decide) ?_
                    by_cases hc : a0 = 23
                    · rw [if_pos hc] at hf
                      refine r_icmp_ne_f (tgt := 69) O dX9_takes_64 (by decide) hc ?_
                      refine r_iconst O (v := 2) dX9_takes_67 (by decide) ?_
                      obtain rfl := Option.some.inj hf
                      exact r_iret O hr rfl rfl (by decide) (by decide) dX9_takes_68
                    · rw [if_neg hc] at hf
                      refine r_icmp_ne_t (tgt := 69) O dX9_takes_64 (by decide) hc ?_
                      refine r_iload_n O 0 dX9_takes_69 rfl ?_
                      refine r_bipush O (v := 20) dX9_takes_70 (by decide) ?_
                      obtain ⟨x2, hg, hf⟩ := bnd hf
                      have hJ : AW p l e { frames := 0, cells := 0, slots := 0, locals := 0 } s m args below meth c G 1 (vx_MQ below (QcN G (.ok (some (.int r))) h) (XcN G (.ok (some (.int r))) h) args s 0 0 (gA G)) h 0 0 80 [] [.int x2] := by
                        obtain rfl := Option.some.inj hf
                        exact r_iret O hr rfl rfl (by decide) (by decide) dX9_takes_80
                      clear hf
                      have hf := hg
                      clear hg
                      by_cases hc : a0 = 20
                      · rw [if_pos hc] at hf
                        refine r_icmp_ne_f (tgt := 79) O dX9_takes_72 (by decide) hc ?_
                        refine r_iconst O (v := 3) dX9_takes_75 (by decide) ?_
                        refine r_goto (tgt := 80) O dX9_takes_76 (by decide) ?_
                        obtain rfl := oi1 hf
                        refine AW.sub [] rfl ?_
                        exact hJ
                      · rw [if_neg hc] at hf
                        refine r_icmp_ne_t (tgt := 79) O dX9_takes_72 (by decide) hc ?_
                        refine r_iconst O (v := 0) dX9_takes_79 (by decide) ?_
                        obtain rfl := oi1 hf
                        refine AW.sub [] rfl ?_
                        exact hJ
        · rw [if_neg hc] at hf
          refine r_icmp_lt_f (tgt := 29) O dX9_takes_20 (by decide) hc ?_
          refine r_iload_n O 0 dX9_takes_23 rfl ?_
          refine r_bipush O (v := 13) dX9_takes_24 (by decide) ?_
          by_cases hc : a0 ≤ 13
          · rw [if_pos hc] at hf
            refine r_icmp_le_t (tgt := 47) O dX9_takes_26 (by decide) hc ?_
            refine r_iconst O (v := 1) dX9_takes_47 (by decide) ?_
            obtain rfl := Option.some.inj hf
            exact r_iret O hr rfl rfl (by decide) (by decide) dX9_takes_48
          · rw [if_neg hc] at hf
            refine r_icmp_le_f (tgt := 47) O dX9_takes_26 (by decide) hc ?_
            refine r_iload_n O 0 dX9_takes_29 rfl ?_
            refine r_bipush O (v := 21) dX9_takes_30 (by decide) ?_
            by_cases hc : a0 = 21
            · rw [if_pos hc] at hf
              refine r_icmp_eq_t (tgt := 47) O dX9_takes_32 (by decide) hc ?_
              refine r_iconst O (v := 1) dX9_takes_47 (by decide) ?_
              obtain rfl := Option.some.inj hf
              exact r_iret O hr rfl rfl (by decide) (by decide) dX9_takes_48
            · rw [if_neg hc] at hf
              refine r_icmp_eq_f (tgt := 47) O dX9_takes_32 (by decide) hc ?_
              refine r_iload_n O 0 dX9_takes_35 rfl ?_
              refine r_bipush O (v := 22) dX9_takes_36 (by decide) ?_
              by_cases hc : a0 = 22
              · rw [if_pos hc] at hf
                refine r_icmp_eq_t (tgt := 47) O dX9_takes_38 (by decide) hc ?_
                refine r_iconst O (v := 1) dX9_takes_47 (by decide) ?_
                obtain rfl := Option.some.inj hf
                exact r_iret O hr rfl rfl (by decide) (by decide) dX9_takes_48
              · rw [if_neg hc] at hf
                refine r_icmp_eq_f (tgt := 47) O dX9_takes_38 (by decide) hc ?_
                refine r_iload_n O 0 dX9_takes_41 rfl ?_
                refine r_bipush O (v := 24) dX9_takes_42 (by decide) ?_
                by_cases hc : a0 = 24
                · rw [if_pos hc] at hf
                  refine r_icmp_ne_f (tgt := 49) O dX9_takes_44 (by decide) hc ?_
                  refine r_iconst O (v := 1) dX9_takes_47 (by decide) ?_
                  obtain rfl := Option.some.inj hf
                  exact r_iret O hr rfl rfl (by decide) (by decide) dX9_takes_48
                · rw [if_neg hc] at hf
                  refine r_icmp_ne_t (tgt := 49) O dX9_takes_44 (by decide) hc ?_
                  refine r_iload_n O 0 dX9_takes_49 rfl ?_
                  refine r_bipush O (v := 14) dX9_takes_50 (by decide) ?_
                  by_cases hc : a0 < 14
                  · rw [if_pos hc] at hf
                    refine r_icmp_lt_t (tgt := 61) O dX9_takes_52 (by decide) hc ?_
                    refine r_iload_n O 0 dX9_takes_61 rfl ?_
                    refine r_bipush O (v := 23) dX9_takes_62 (by decide) ?_
                    by_cases hc : a0 = 23
                    · rw [if_pos hc] at hf
                      refine r_icmp_ne_f (tgt := 69) O dX9_takes_64 (by decide) hc ?_
                      refine r_iconst O (v := 2) dX9_takes_67 (by decide) ?_
                      obtain rfl := Option.some.inj hf
                      exact r_iret O hr rfl rfl (by decide) (by decide) dX9_takes_68
                    · rw [if_neg hc] at hf
                      refine r_icmp_ne_t (tgt := 69) O dX9_takes_64 (by decide) hc ?_
                      refine r_iload_n O 0 dX9_takes_69 rfl ?_
                      refine r_bipush O (v := 20) dX9_takes_70 (by decide) ?_
                      obtain ⟨x3, hg, hf⟩ := bnd hf
                      have hJ : AW p l e { frames := 0, cells := 0, slots := 0, locals := 0 } s m args below meth c G 1 (vx_MQ below (QcN G (.ok (some (.int r))) h) (XcN G (.ok (some (.int r))) h) args s 0 0 (gA G)) h 0 0 80 [] [.int x3] := by
                        obtain rfl := Option.some.inj hf
                        exact r_iret O hr rfl rfl (by decide) (by decide) dX9_takes_80
                      clear hf
                      have hf := hg
                      clear hg
                      by_cases hc : a0 = 20
                      · rw [if_pos hc] at hf
                        refine r_icmp_ne_f (tgt := 79) O dX9_takes_72 (by decide) hc ?_
                        refine r_iconst O (v := 3) dX9_takes_75 (by decide) ?_
                        refine r_goto (tgt := 80) O dX9_takes_76 (by decide) ?_
                        obtain rfl := oi1 hf
                        refine AW.sub [] rfl ?_
                        exact hJ
                      · rw [if_neg hc] at hf
                        refine r_icmp_ne_t (tgt := 79) O dX9_takes_72 (by decide) hc ?_
                        refine r_iconst O (v := 0) dX9_takes_79 (by decide) ?_
                        obtain rfl := oi1 hf
                        refine AW.sub [] rfl ?_
                        exact hJ
                  · rw [if_neg hc] at hf
                    refine r_icmp_lt_f (tgt := 61) O dX9_takes_52 (by decide) hc ?_
                    refine r_iload_n O 0 dX9_takes_55 rfl ?_
                    refine r_bipush O (v := 19) dX9_takes_56 (by decide) ?_
                    by_cases hc : a0 ≤ 19
                    · rw [if_pos hc] at hf
                      refine r_icmp_le_t (tgt := 67) O dX9_takes_58 (by decide) hc ?_
                      refine r_iconst O (v := 2) dX9_takes_67 (by decide) ?_
                      obtain rfl := Option.some.inj hf
                      exact r_iret O hr rfl rfl (by decide) (by decide) dX9_takes_68
                    · rw [if_neg hc] at hf
                      refine r_icmp_le_f (tgt := 67) O dX9_takes_58 (by decide) hc ?_
                      refine r_iload_n O 0 dX9_takes_61 rfl ?_
                      refine r_bipush O (v := 23) dX9_takes_62 (by decide) ?_
                      by_cases hc : a0 = 23
                      · rw [if_pos hc] at hf
                        refine r_icmp_ne_f (tgt := 69) O dX9_takes_64 (by decide) hc ?_
                        refine r_iconst O (v := 2) dX9_takes_67 (by decide) ?_
                        obtain rfl := Option.some.inj hf
                        exact r_iret O hr rfl rfl (by decide) (by decide) dX9_takes_68
                      · rw [if_neg hc] at hf
                        refine r_icmp_ne_t (tgt := 69) O dX9_takes_64 (by decide) hc ?_
                        refine r_iload_n O 0 dX9_takes_69 rfl ?_
                        refine r_bipush O (v := 20) dX9_takes_70 (by decide) ?_
                        obtain ⟨x4, hg, hf⟩ := bnd hf
                        have hJ : AW p l e { frames := 0, cells := 0, slots := 0, locals := 0 } s m args below meth c G 1 (vx_MQ below (QcN G (.ok (some (.int r))) h) (XcN G (.ok (some (.int r))) h) args s 0 0 (gA G)) h 0 0 80 [] [.int x4] := by
                          obtain rfl := Option.some.inj hf
                          exact r_iret O hr rfl rfl (by decide) (by decide) dX9_takes_80
                        clear hf
                        have hf := hg
                        clear hg
                        by_cases hc : a0 = 20
                        · rw [if_pos hc] at hf
                          refine r_icmp_ne_f (tgt := 79) O dX9_takes_72 (by decide) hc ?_
                          refine r_iconst O (v := 3) dX9_takes_75 (by decide) ?_
                          refine r_goto (tgt := 80) O dX9_takes_76 (by decide) ?_
                          obtain rfl := oi1 hf
                          refine AW.sub [] rfl ?_
                          exact hJ
                        · rw [if_neg hc] at hf
                          refine r_icmp_ne_t (tgt := 79) O dX9_takes_72 (by decide) hc ?_
                          refine r_iconst O (v := 0) dX9_takes_79 (by decide) ?_
                          obtain rfl := oi1 hf
                          refine AW.sub [] rfl ?_
                          exact hJ
