def f_X9_placeOf_10 (l0 : Nat) (l1 : Int32) (l2 : Int32) (n : Nat) (h : AH) (l3 : Int32) : Option (Int32 ⊕ Unit) := match n with
| 0 => none
| n + 1 =>
Option.bind (ldI h l0 (492 + l2)) fun x2 =>
if x2 ≤ l3 then
some (.inr ())
else
Option.bind (ldI h l0 ((252 + (l2 * 40)) + l3)) fun x3 =>
if x3 = l1 then
some (.inl l3)
else
f_X9_placeOf_10 l0 l1 l2 n h (l3 + 1)
def f_X9_placeOf (h : AH) (a0 : Nat) (a1 : Int32) : Option Int32 :=
Option.bind (ldI h a0 (212 + a1)) fun x1 =>
Option.bind (f_X9_placeOf_10 a0 a1 x1 FU h 0) fun w => match w with
| .inl r9 => some r9
| .inr () =>
some (-1)
set_option maxRecDepth 100000 in
set_option maxHeartbeats 4000000 in
theorem s_X9_placeOf_10 {p : Program} {l : Launch} {e : Env} {s : State} {m : MethodId} {args : Array Value} {below : List Frame} {meth : Method} {c : Code} {G : GT} {o : Except Nat (Option Value)} {h9 : AH} (O : OkC p l s m args meth c G cX9_placeOf 4 RX9) (hr : meth.sig.returnType = (some .int)) {l0 : Nat} {l1 : Int32} {l2 : Int32} {h : AH} {w : (Int32 ⊕ Unit)} (he : ∀ r, w = .inl r → o = (.ok (some (.int r))) ∧ h9 = h) (kk : w = .inr () → AW p l e { frames := 0, cells := 0, slots := 0, locals := 0 } s m args below meth c G 4 (vx_MQ below (QcN G o h9) (XcN G o h9) args s 0 0 (gA G)) h 0 0 45 [] []) : ∀ (n : Nat), ∀ (l3 : Int32), f_X9_placeOf_10 l0 l1 l2 n h l3 = some w → AW p l e { frames := 0, cells := 0, slots := 0, locals := 0 } s m args below meth c G 4 (vx_MQ below (QcN G o h9) (XcN G o h9) args s 0 0 (gA G)) h 0 0 10 [(0, .ref l0), (1, .int l1), (2, .int l2), (3, .int l3)] [] := by
  intro n
  induction n with
  | zero =>
    intro l3 hf
    simp [f_X9_placeOf_10] at hf
  | succ n ih =>
    intro l3 hf
    unfold f_X9_placeOf_10 at hf
    refine r_iload_n O 3 dX9_placeOf_10 rfl ?_
    refine r_aload_n O 0 dX9_placeOf_11 rfl (Or.inl rfl) ?_
    refine r_sipush O (v := 492) dX9_placeOf_12 (by decide) ?_
    refine r_iload_n O 2 dX9_placeOf_15 rfl ?_
    refine r_iadd O dX9_placeOf_16 ?_
    obtain ⟨x2, ex2, hf⟩ := bnd hf
    refine r_ldI O ex2 dX9_placeOf_17 ?_
    by_cases hc : x2 ≤ l3
    · rw [if_pos hc] at hf
      refine r_icmp_ge_t (tgt := 45) O dX9_placeOf_18 (by decide) hc ?_
      obtain rfl := Option.some.inj hf
      refine AW.sub [] rfl ?_
      exact kk  rfl
    · rw [if_neg hc] at hf
      refine r_icmp_ge_f (tgt := 45) O dX9_placeOf_18 (by decide) hc ?_
      refine r_aload_n O 0 dX9_placeOf_21 rfl (Or.inl rfl) ?_
      refine r_sipush O (v := 252) dX9_placeOf_22 (by decide) ?_
      refine r_iload_n O 2 dX9_placeOf_25 rfl ?_
      refine r_bipush O (v := 40) dX9_placeOf_26 (by decide) ?_
      refine r_imul O dX9_placeOf_28 ?_
      refine r_iadd O dX9_placeOf_29 ?_
      refine r_iload_n O 3 dX9_placeOf_30 rfl ?_
      refine r_iadd O dX9_placeOf_31 ?_
      obtain ⟨x3, ex3, hf⟩ := bnd hf
      refine r_ldI O ex3 dX9_placeOf_32 ?_
      refine r_iload_n O 1 dX9_placeOf_33 rfl ?_
      by_cases hc : x3 = l1
      · rw [if_pos hc] at hf
        refine r_icmp_ne_f (tgt := 39) O dX9_placeOf_34 (by decide) hc ?_
        refine r_iload_n O 3 dX9_placeOf_37 rfl ?_
        obtain rfl := Option.some.inj hf
        obtain ⟨ho, hh⟩ := he _ rfl
        exact r_iret O hr ho hh.symm (by decide) (by decide) dX9_placeOf_38
      · rw [if_neg hc] at hf
        refine r_icmp_ne_t (tgt := 39) O dX9_placeOf_34 (by decide) hc ?_
        refine r_iinc O 3 [(3, .int (l3 + 1)), (0, .ref l0), (1, .int l1), (2, .int l2)] dX9_placeOf_39 rfl rfl (by decide) rfl ?_
        refine r_goto (tgt := 10) O dX9_placeOf_42 (by decide) ?_
        refine AW.sub [1, 2, 3, 0] rfl ?_
        exact ih _ hf
set_option maxRecDepth 100000 in
set_option maxHeartbeats 4000000 in
theorem c_X9_placeOf {l : Launch} {G : GT} {h : AH} {a0 : Nat} {a1 : Int32} {r : Int32} (hf : f_X9_placeOf h a0 a1 = some r) : Cn l yX9_placeOf cX9_placeOf 4 (some .int) 0 0 0 0 G h [.ref a0, .int a1] (.ok (some (.int r))) h := by
  refine Cn.of (by decide) (Nat.le_of_ble_eq_true rfl) ?_
  intro p e s m args below meth c O hr hx hin
  have O : OkC p l s m args meth c G cX9_placeOf 4 RX9 := O
  unfold f_X9_placeOf at hf
  refine AW.sub (lv' := [(0, .ref a0), (1, .int a1)]) [0, 1] rfl ?_
  refine r_aload_n O 0 dX9_placeOf_0 rfl (Or.inl rfl) ?_
  refine r_sipush O (v := 212) dX9_placeOf_1 (by decide) ?_
  refine r_iload_n O 1 dX9_placeOf_4 rfl ?_
  refine r_iadd O dX9_placeOf_5 ?_
  obtain ⟨x1, ex1, hf⟩ := bnd hf
  refine r_ldI O ex1 dX9_placeOf_6 ?_
  refine r_istore_n O [(2, .int x1), (0, .ref a0), (1, .int a1)] dX9_placeOf_7 (by decide) rfl ?_
  refine r_iconst O (v := 0) dX9_placeOf_8 (by decide) ?_
  refine r_istore_n O [(3, .int 0), (2, .int x1), (0, .ref a0), (1, .int a1)] dX9_placeOf_9 (by decide) rfl ?_
  obtain ⟨w9, hw, hf⟩ := bnd hf
  refine AW.sub [2, 3, 1, 0] rfl ?_
  refine s_X9_placeOf_10 O hr (w := w9) ?_ ?_ _ _ hw
  · intro r9 hr9
    subst hr9
    dsimp only at hf
    obtain rfl := Option.some.inj hf
    exact ⟨rfl, rfl⟩
  · intro hw9
    subst hw9
    dsimp only at hf
    refine r_iconst O (v := -1) dX9_placeOf_45 (by decide) ?_
    obtain rfl := Option.some.inj hf
    exact r_iret O hr rfl rfl (by decide) (by decide) dX9_placeOf_46
def f_X9_isFrozenThing (h : AH) (a0 : Nat) (a1 : Int32) : Option Int32 :=
Option.bind (ldI h a0 (212 + a1)) fun x1 =>
Option.bind (if x1 = (-1) then
some (0 : Int32)
else
Option.bind (f_X9_placeOf h a0 a1) fun x3 =>
Option.bind (ldI h a0 (212 + a1)) fun x5 =>
Option.bind (ldI h a0 (498 + x5)) fun x6 =>
if x6 ≤ x3 then
some (0 : Int32)
else
some (1 : Int32)) fun x2 =>
Option.bind (bz x2) fun x7 =>
some x7
set_option maxRecDepth 100000 in
set_option maxHeartbeats 4000000 in
theorem c_X9_isFrozenThing {l : Launch} {G : GT} {h : AH} {a0 : Nat} {a1 : Int32} {r : Int32} (hf : f_X9_isFrozenThing h a0 a1 = some r) : Cn l yX9_isFrozenThing cX9_isFrozenThing 2 (some .boolean) 1 23 0 0 G h [.ref a0, .int a1] (.ok (some (.int r))) h := by
  refine Cn.of (by decide) (Nat.le_of_ble_eq_true rfl) ?_
  intro p e s m args below meth c O hr hx hin
  have O : OkC p l s m args meth c G cX9_isFrozenThing 2 RX9 := O
  unfold f_X9_isFrozenThing at hf
  refine AW.sub (lv' := [(0, .ref a0), (1, .int a1)]) [0, 1] rfl ?_
  refine r_aload_n O 0 dX9_isFrozenThing_0 rfl (Or.inl rfl) ?_
  refine r_sipush O (v := 212) dX9_isFrozenThing_1 (by decide) ?_
  refine r_iload_n O 1 dX9_isFrozenThing_4 rfl ?_
  refine r_iadd O dX9_isFrozenThing_5 ?_
  obtain ⟨x1, ex1, hf⟩ := bnd hf
  refine r_ldI O ex1 dX9_isFrozenThing_6 ?_
  refine r_iconst O (v := -1) dX9_isFrozenThing_7 (by decide) ?_
  obtain ⟨x2, hg, hf⟩ := bnd hf
  have hJ : AW p l e { frames := 1, cells := 0, slots := 0, locals := 23 } s m args below meth c G 2 (vx_MQ below (QcN G (.ok (some (.int r))) h) (XcN G (.ok (some (.int r))) h) args s 0 0 (gA G)) h 0 0 37 [] [.int x2] := by
    obtain ⟨x7, ex7, hf⟩ := bnd hf
    refine r_nmI (bz_eq ex7) ?_
    obtain rfl := Option.some.inj hf
    exact r_zret O hr (bz_or ex7) rfl rfl (by decide) (by decide) dX9_isFrozenThing_37
  clear hf
  have hf := hg
  clear hg
  by_cases hc : x1 = (-1)
  · rw [if_pos hc] at hf
    refine r_icmp_eq_t (tgt := 36) O dX9_isFrozenThing_8 (by decide) hc ?_
    refine r_iconst O (v := 0) dX9_isFrozenThing_36 (by decide) ?_
    obtain rfl := oi1 hf
    refine AW.sub [] rfl ?_
    exact hJ
  · rw [if_neg hc] at hf
    refine r_icmp_eq_f (tgt := 36) O dX9_isFrozenThing_8 (by decide) hc ?_
    refine r_aload_n O 0 dX9_isFrozenThing_11 rfl (Or.inl rfl) ?_
    refine r_iload_n O 1 dX9_isFrozenThing_12 rfl ?_
    obtain ⟨x3, ex3, hf⟩ := bnd hf
    refine r_callS (av := [.ref a0, .int a1]) (st := []) O (c_X9_placeOf ex3) mf_X9_placeOf ml_X9_133 ms_X9_placeOf (by decide) (Nat.le_of_ble_eq_true rfl) (by decide) dX9_isFrozenThing_13 ?_
    refine r_aload_n O 0 dX9_isFrozenThing_16 rfl (Or.inl rfl) ?_
    refine r_sipush O (v := 498) dX9_isFrozenThing_17 (by decide) ?_
    refine r_aload_n O 0 dX9_isFrozenThing_20 rfl (Or.inl rfl) ?_
    refine r_sipush O (v := 212) dX9_isFrozenThing_21 (by decide) ?_
    refine r_iload_n O 1 dX9_isFrozenThing_24 rfl ?_
    refine r_iadd O dX9_isFrozenThing_25 ?_
    obtain ⟨x5, ex5, hf⟩ := bnd hf
    refine r_ldI O ex5 dX9_isFrozenThing_26 ?_
    refine r_iadd O dX9_isFrozenThing_27 ?_
    obtain ⟨x6, ex6, hf⟩ := bnd hf
    refine r_ldI O ex6 dX9_isFrozenThing_28 ?_
    by_cases hc : x6 ≤ x3
    · rw [if_pos hc] at hf
      refine r_icmp_ge_t (tgt := 36) O dX9_isFrozenThing_29 (by decide) hc ?_
      refine r_iconst O (v := 0) dX9_isFrozenThing_36 (by decide) ?_
      obtain rfl := oi1 hf
      refine AW.sub [] rfl ?_
      exact hJ
    · rw [if_neg hc] at hf
      refine r_icmp_ge_f (tgt := 36) O dX9_isFrozenThing_29 (by decide) hc ?_
      refine r_iconst O (v := 1) dX9_isFrozenThing_32 (by decide) ?_
      refine r_goto (tgt := 37) O dX9_isFrozenThing_33 (by decide) ?_
      obtain rfl := oi1 hf
      refine AW.sub [] rfl ?_
      exact hJ
def f_X9_isFrozen (h : AH) (a0 : Nat) (a1 : Int32) : Option Int32 :=
Option.bind (if 240 ≤ a1 then
some (0 : Int32)
else
Option.bind (f_X9_ownerOf h a1) fun x2 =>
Option.bind (f_X9_isFrozenThing h a0 x2) fun x4 =>
if x4 = 0 then
some (0 : Int32)
else
some (1 : Int32)) fun x1 =>
Option.bind (bz x1) fun x6 =>
some x6
set_option maxRecDepth 100000 in
set_option maxHeartbeats 4000000 in
theorem c_X9_isFrozen {l : Launch} {G : GT} {h : AH} {a0 : Nat} {a1 : Int32} {r : Int32} (hf : f_X9_isFrozen h a0 a1 = some r) : Cn l yX9_isFrozen cX9_isFrozen 2 (some .boolean) 2 44 0 0 G h [.ref a0, .int a1] (.ok (some (.int r))) h := by
  refine Cn.of (by decide) (Nat.le_of_ble_eq_true rfl) ?_
  intro p e s m args below meth c O hr hx hin
  have O : OkC p l s m args meth c G cX9_isFrozen 2 RX9 := O
  unfold f_X9_isFrozen at hf
  refine AW.sub (lv' := [(0, .ref a0), (1, .int a1)]) [0, 1] rfl ?_
  refine r_iload_n O 1 dX9_isFrozen_0 rfl ?_
  refine r_sipush O (v := 240) dX9_isFrozen_1 (by decide) ?_
  obtain ⟨x1, hg, hf⟩ := bnd hf
  have hJ : AW p l e { frames := 2, cells := 0, slots := 0, locals := 44 } s m args below meth c G 2 (vx_MQ below (QcN G (.ok (some (.int r))) h) (XcN G (.ok (some (.int r))) h) args s 0 0 (gA G)) h 0 0 23 [] [.int x1] := by
    obtain ⟨x6, ex6, hf⟩ := bnd hf
    refine r_nmI (bz_eq ex6) ?_
    obtain rfl := Option.some.inj hf
    exact r_zret O hr (bz_or ex6) rfl rfl (by decide) (by decide) dX9_isFrozen_23
  clear hf
  have hf := hg
  clear hg
  by_cases hc : 240 ≤ a1
  · rw [if_pos hc] at hf
    refine r_icmp_ge_t (tgt := 22) O dX9_isFrozen_4 (by decide) hc ?_
    refine r_iconst O (v := 0) dX9_isFrozen_22 (by decide) ?_
    obtain rfl := oi1 hf
    refine AW.sub [] rfl ?_
    exact hJ
  · rw [if_neg hc] at hf
    refine r_icmp_ge_f (tgt := 22) O dX9_isFrozen_4 (by decide) hc ?_
    refine r_aload_n O 0 dX9_isFrozen_7 rfl (Or.inl rfl) ?_
    refine r_iload_n O 1 dX9_isFrozen_8 rfl ?_
    obtain ⟨x2, ex2, hf⟩ := bnd hf
    refine r_callS (av := [.int a1]) (st := [.ref a0]) O (c_X9_ownerOf ex2) mf_X9_ownerOf ml_X9_130 ms_X9_ownerOf (by decide) (Nat.le_of_ble_eq_true rfl) (by decide) dX9_isFrozen_9 ?_
    obtain ⟨x4, ex4, hf⟩ := bnd hf
    refine r_callS (av := [.ref a0, .int x2]) (st := []) O (c_X9_isFrozenThing ex4) mf_X9_isFrozenThing ml_X9_137 ms_X9_isFrozenThing (by decide) (Nat.le_of_ble_eq_true rfl) (by decide) dX9_isFrozen_12 ?_
    by_cases hc : x4 = 0
    · rw [if_pos hc] at hf
      refine r_if_eq_t (tgt := 22) O dX9_isFrozen_15 (by decide) hc ?_
      refine r_iconst O (v := 0) dX9_isFrozen_22 (by decide) ?_
      obtain rfl := oi1 hf
      refine AW.sub [] rfl ?_
      exact hJ
    · rw [if_neg hc] at hf
      refine r_if_eq_f (tgt := 22) O dX9_isFrozen_15 (by decide) hc ?_
      refine r_iconst O (v := 1) dX9_isFrozen_18 (by decide) ?_
      refine r_goto (tgt := 23) O dX9_isFrozen_19 (by decide) ?_
      obtain rfl := oi1 hf
      refine AW.sub [] rfl ?_
      exact hJ
def f_X9_look (h : AH) (a0 : Nat) (a1 : Int32) : Option AH :=
if aK h a0 = 9 then
Option.bind (gP h 9 a0 33) fun x1 =>
Option.bind (gI h 9 a0 32) fun x2 =>
Option.bind (stI h x1 x2 a1) fun h3 =>
Option.bind (gI h3 9 a0 32) fun x4 =>
Option.bind (pI h3 9 a0 32 (x4 + 1)) fun h5 =>
some h5
else none
theorem kd_X9_look {h : AH} {a0 : Nat} {a1 : Int32} {r : AH} (hf : f_X9_look h a0 a1 = some r) : aK h a0 = 9 := by
  unfold f_X9_look at hf
  exact (ifk hf).1
set_option maxRecDepth 100000 in
set_option maxHeartbeats 4000000 in
theorem c_X9_look {l : Launch} {G : GT} {h : AH} {a0 : Nat} {a1 : Int32} {r : AH} (hf : f_X9_look h a0 a1 = some r) : Cn l yX9_look cX9_look 2 none 0 0 0 0 G h [.ref a0, .int a1] (.ok none) r := by
  refine Cn.of (by decide) (Nat.le_of_ble_eq_true rfl) ?_
  intro p e s m args below meth c O hr hx hin
  have O : OkC p l s m args meth c G cX9_look 2 RX9 := O
  unfold f_X9_look at hf
  obtain ⟨hk0, hf⟩ := ifk hf
  refine AW.sub (lv' := [(0, .ref a0), (1, .int a1)]) [0, 1] rfl ?_
  refine r_aload_n O 0 dX9_look_0 rfl (Or.inl rfl) ?_
  obtain ⟨x1, ex1, hf⟩ := bnd hf
  refine r_gP O cf9 33 (by decide) rfl fl_X9_73 ex1 dX9_look_1 ?_
  refine r_aload_n O 0 dX9_look_4 rfl (Or.inl rfl) ?_
  obtain ⟨x2, ex2, hf⟩ := bnd hf
  refine r_gI O cf9 32 (by decide) rfl fl_X9_141 ex2 dX9_look_5 ?_
  refine r_iload_n O 1 dX9_look_8 rfl ?_
  obtain ⟨h3, eh3, hf⟩ := bnd hf
  refine r_stI O eh3 dX9_look_9 ?_
  refine r_aload_n O 0 dX9_look_10 rfl (Or.inl rfl) ?_
  refine r_dup O dX9_look_11 rfl ?_
  obtain ⟨x4, ex4, hf⟩ := bnd hf
  refine r_gI O cf9 32 (by decide) rfl fl_X9_141 ex4 dX9_look_12 ?_
  refine r_iconst O (v := 1) dX9_look_15 (by decide) ?_
  refine r_iadd O dX9_look_16 ?_
  obtain ⟨h5, eh5, hf⟩ := bnd hf
  refine r_pI O cf9 32 (by decide) rfl fl_X9_141 rfl eh5 dX9_look_17 ?_
  obtain rfl := Option.some.inj hf
  exact r_vret O hr rfl rfl (by decide) (by decide) dX9_look_20
def f_X9_neighbour (h : AH) (a0 : Nat) (a1 : Int32) (a2 : Int32) : Option Int32 :=
Option.bind (ldI h a0 (212 + a1)) fun x1 =>
Option.bind (f_X9_placeOf h a0 a1) fun x2 =>
Option.bind (if (x2 + a2) < 0 then
some ((-1) : Int32)
else
Option.bind (ldI h a0 (492 + x1)) fun x5 =>
if x5 ≤ (x2 + a2) then
some ((-1) : Int32)
else
Option.bind (ldI h a0 ((252 + (x1 * 40)) + (x2 + a2))) fun x6 =>
some x6) fun x4 =>
some x4
set_option maxRecDepth 100000 in
set_option maxHeartbeats 4000000 in
theorem c_X9_neighbour {l : Launch} {G : GT} {h : AH} {a0 : Nat} {a1 : Int32} {a2 : Int32} {r : Int32} (hf : f_X9_neighbour h a0 a1 a2 = some r) : Cn l yX9_neighbour cX9_neighbour 5 (some .int) 1 23 0 0 G h [.ref a0, .int a1, .int a2] (.ok (some (.int r))) h := by
  refine Cn.of (by decide) (Nat.le_of_ble_eq_true rfl) ?_
  intro p e s m args below meth c O hr hx hin
  have O : OkC p l s m args meth c G cX9_neighbour 5 RX9 := O
  unfold f_X9_neighbour at hf
  refine AW.sub (lv' := [(0, .ref a0), (1, .int a1), (2, .int a2)]) [0, 1, 2] rfl ?_
  refine r_aload_n O 0 dX9_neighbour_0 rfl (Or.inl rfl) ?_
  refine r_sipush O (v := 212) dX9_neighbour_1 (by decide) ?_
  refine r_iload_n O 1 dX9_neighbour_4 rfl ?_
  refine r_iadd O dX9_neighbour_5 ?_
  obtain ⟨x1, ex1, hf⟩ := bnd hf
  refine r_ldI O ex1 dX9_neighbour_6 ?_
  refine r_istore_n O [(3, .int x1), (0, .ref a0), (1, .int a1), (2, .int a2)] dX9_neighbour_7 (by decide) rfl ?_
  refine r_aload_n O 1 dX9_neighbour_8 rfl (Or.inl rfl) ?_
  refine r_iload_n O 2 dX9_neighbour_9 rfl ?_
  obtain ⟨x2, ex2, hf⟩ := bnd hf
  refine r_callS (av := [.ref a0, .int a1]) (st := []) O (c_X9_placeOf ex2) mf_X9_placeOf ml_X9_133 ms_X9_placeOf (by decide) (Nat.le_of_ble_eq_true rfl) (by decide) dX9_neighbour_10 ?_
  refine r_iload_n O 3 dX9_neighbour_13 rfl ?_
  refine r_iadd O dX9_neighbour_14 ?_
  refine r_istore O [(4, .int (x2 + a2)), (3, .int x1), (0, .ref a0), (1, .int a1), (2, .int a2)] dX9_neighbour_15 (by decide) rfl ?_
  refine r_iload O 0 dX9_neighbour_17 rfl ?_
  obtain ⟨x4, hg, hf⟩ := bnd hf
  have hJ : AW p l e { frames := 1, cells := 0, slots := 0, locals := 23 } s m args below meth c G 5 (vx_MQ below (QcN G (.ok (some (.int r))) h) (XcN G (.ok (some (.int r))) h) args s 0 0 (gA G)) h 0 0 51 [] [.int x4] := by
    obtain rfl := Option.some.inj hf
    exact r_iret O hr rfl rfl (by decide) (by decide) dX9_neighbour_51
  clear hf
  have hf := hg
  clear hg
  by_cases hc : (x2 + a2) < 0
  · rw [if_pos hc] at hf
    refine r_if_lt_t (tgt := 50) O dX9_neighbour_19 (by decide) hc ?_
    refine r_iconst O (v := -1) dX9_neighbour_50 (by decide) ?_
    obtain rfl := oi1 hf
    refine AW.sub [] rfl ?_
    exact hJ
  · rw [if_neg hc] at hf
    refine r_if_lt_f (tgt := 50) O dX9_neighbour_19 (by decide) hc ?_
    refine r_iload O 0 dX9_neighbour_22 rfl ?_
    refine r_aload_n O 2 dX9_neighbour_24 rfl (Or.inl rfl) ?_
    refine r_sipush O (v := 492) dX9_neighbour_25 (by decide) ?_
    refine r_iload_n O 1 dX9_neighbour_28 rfl ?_
    refine r_iadd O dX9_neighbour_29 ?_
    obtain ⟨x5, ex5, hf⟩ := bnd hf
    refine r_ldI O ex5 dX9_neighbour_30 ?_
    by_cases hc : x5 ≤ (x2 + a2)
    · rw [if_pos hc] at hf
      refine r_icmp_ge_t (tgt := 50) O dX9_neighbour_31 (by decide) hc ?_
      refine r_iconst O (v := -1) dX9_neighbour_50 (by decide) ?_
      obtain rfl := oi1 hf
      refine AW.sub [] rfl ?_
      exact hJ
    · rw [if_neg hc] at hf
      refine r_icmp_ge_f (tgt := 50) O dX9_neighbour_31 (by decide) hc ?_
      refine r_aload_n O 2 dX9_neighbour_34 rfl (Or.inl rfl) ?_
      refine r_sipush O (v := 252) dX9_neighbour_35 (by decide) ?_
      refine r_iload_n O 1 dX9_neighbour_38 rfl ?_
      refine r_bipush O (v := 40) dX9_neighbour_39 (by decide) ?_
      refine r_imul O dX9_neighbour_41 ?_
      refine r_iadd O dX9_neighbour_42 ?_
      refine r_iload O 0 dX9_neighbour_43 rfl ?_
      refine r_iadd O dX9_neighbour_45 ?_
      obtain ⟨x6, ex6, hf⟩ := bnd hf
      refine r_ldI O ex6 dX9_neighbour_46 ?_
      refine r_goto (tgt := 51) O dX9_neighbour_47 (by decide) ?_
      obtain rfl := oi1 hf
      refine AW.sub [] rfl ?_
      exact hJ
def f_X9_lookThing (h : AH) (a0 : Nat) (a1 : Int32) (a2 : Int32) : Option AH :=
if aK h a0 = 9 then
Option.bind (if a1 = (-1) then
some (0 : Int32)
else
some ((5000 + (6 * a1)) + a2)) fun x1 =>
Option.bind (f_X9_look h a0 x1) fun h3 =>
some h3
else none
theorem kd_X9_lookThing {h : AH} {a0 : Nat} {a1 : Int32} {a2 : Int32} {r : AH} (hf : f_X9_lookThing h a0 a1 a2 = some r) : aK h a0 = 9 := by
  unfold f_X9_lookThing at hf
  exact (ifk hf).1
set_option maxRecDepth 100000 in
set_option maxHeartbeats 4000000 in
theorem c_X9_lookThing {l : Launch} {G : GT} {h : AH} {a0 : Nat} {a1 : Int32} {a2 : Int32} {r : AH} (hf : f_X9_lookThing h a0 a1 a2 = some r) : Cn l yX9_lookThing cX9_lookThing 3 none 1 21 0 0 G h [.ref a0, .int a1, .int a2] (.ok none) r := by
  refine Cn.of (by decide) (Nat.le_of_ble_eq_true rfl) ?_
  intro p e s m args below meth c O hr hx hin
  have O : OkC p l s m args meth c G cX9_lookThing 3 RX9 := O
  unfold f_X9_lookThing at hf
  obtain ⟨hk0, hf⟩ := ifk hf
  refine AW.sub (lv' := [(0, .ref a0), (1, .int a1), (2, .int a2)]) [0, 1, 2] rfl ?_
  refine r_aload_n O 0 dX9_lookThing_0 rfl (Or.inl rfl) ?_
  refine r_iload_n O 1 dX9_lookThing_1 rfl ?_
  refine r_iconst O (v := -1) dX9_lookThing_2 (by decide) ?_
  obtain ⟨x1, hg, hf⟩ := bnd hf
  have hJ : AW p l e { frames := 1, cells := 0, slots := 0, locals := 21 } s m args below meth c G 3 (vx_MQ below (QcN G (.ok none) r) (XcN G (.ok none) r) args s 0 0 (gA G)) h 0 0 20 [] [.int x1, .ref a0] := by
    obtain ⟨h3, eh3, hf⟩ := bnd hf
    refine r_callV (av := [.int x1]) (st := []) O (c_X9_look eh3) mf_X9_look cf9 (kd_X9_look eh3) ml_X9_144 mi_X9_look mv_X9_look (by decide) (Nat.le_of_ble_eq_true rfl) (by decide) dX9_lookThing_20 ?_
    obtain rfl := Option.some.inj hf
    exact r_vret O hr rfl rfl (by decide) (by decide) dX9_lookThing_23
  clear hf
  have hf := hg
  clear hg
  by_cases hc : a1 = (-1)
  · rw [if_pos hc] at hf
    refine r_icmp_ne_f (tgt := 10) O dX9_lookThing_3 (by decide) hc ?_
    refine r_iconst O (v := 0) dX9_lookThing_6 (by decide) ?_
    refine r_goto (tgt := 20) O dX9_lookThing_7 (by decide) ?_
    obtain rfl := oi1 hf
    refine AW.sub [] rfl ?_
    exact hJ
  · rw [if_neg hc] at hf
    refine r_icmp_ne_t (tgt := 10) O dX9_lookThing_3 (by decide) hc ?_
    refine r_sipush O (v := 5000) dX9_lookThing_10 (by decide) ?_
    refine r_bipush O (v := 6) dX9_lookThing_13 (by decide) ?_
    refine r_iload_n O 1 dX9_lookThing_15 rfl ?_
    refine r_imul O dX9_lookThing_16 ?_
    refine r_iadd O dX9_lookThing_17 ?_
    refine r_iload_n O 2 dX9_lookThing_18 rfl ?_
    refine r_iadd O dX9_lookThing_19 ?_
    obtain rfl := oi1 hf
    refine AW.sub [] rfl ?_
    exact hJ
def f_X9_linkOf (h : AH) (a0 : Nat) (a1 : Int32) : Option Int32 :=
Option.bind (ldI h a0 (172 + a1)) fun x1 =>
Option.bind (if x1 = (-1) then
some ((-1) : Int32)
else
Option.bind (ldI h a0 (212 + x1)) fun x3 =>
if x3 = (-1) then
some ((-1) : Int32)
else
some x1) fun x2 =>
some x2
set_option maxRecDepth 100000 in
set_option maxHeartbeats 4000000 in
theorem c_X9_linkOf {l : Launch} {G : GT} {h : AH} {a0 : Nat} {a1 : Int32} {r : Int32} (hf : f_X9_linkOf h a0 a1 = some r) : Cn l yX9_linkOf cX9_linkOf 3 (some .int) 0 0 0 0 G h [.ref a0, .int a1] (.ok (some (.int r))) h := by
  refine Cn.of (by decide) (Nat.le_of_ble_eq_true rfl) ?_
  intro p e s m args below meth c O hr hx hin
  have O : OkC p l s m args meth c G cX9_linkOf 3 RX9 := O
  unfold f_X9_linkOf at hf
  refine AW.sub (lv' := [(0, .ref a0), (1, .int a1)]) [0, 1] rfl ?_
  refine r_aload_n O 0 dX9_linkOf_0 rfl (Or.inl rfl) ?_
  refine r_sipush O (v := 172) dX9_linkOf_1 (by decide) ?_
  refine r_iload_n O 1 dX9_linkOf_4 rfl ?_
  refine r_iadd O dX9_linkOf_5 ?_
  obtain ⟨x1, ex1, hf⟩ := bnd hf
  refine r_ldI O ex1 dX9_linkOf_6 ?_
  refine r_istore_n O [(2, .int x1), (0, .ref a0), (1, .int a1)] dX9_linkOf_7 (by decide) rfl ?_
  refine r_iload_n O 0 dX9_linkOf_8 rfl ?_
  refine r_iconst O (v := -1) dX9_linkOf_9 (by decide) ?_
  obtain ⟨x2, hg, hf⟩ := bnd hf
  have hJ : AW p l e { frames := 0, cells := 0, slots := 0, locals := 0 } s m args below meth c G 3 (vx_MQ below (QcN G (.ok (some (.int r))) h) (XcN G (.ok (some (.int r))) h) args s 0 0 (gA G)) h 0 0 29 [] [.int x2] := by
    obtain rfl := Option.some.inj hf
    exact r_iret O hr rfl rfl (by decide) (by decide) dX9_linkOf_29
  clear hf
  have hf := hg
  clear hg
  by_cases hc : x1 = (-1)
  · rw [if_pos hc] at hf
    refine r_icmp_eq_t (tgt := 28) O dX9_linkOf_10 (by decide) hc ?_
    refine r_iconst O (v := -1) dX9_linkOf_28 (by decide) ?_
    obtain rfl := oi1 hf
    refine AW.sub [] rfl ?_
    exact hJ
  · rw [if_neg hc] at hf
    refine r_icmp_eq_f (tgt := 28) O dX9_linkOf_10 (by decide) hc ?_
    refine r_aload_n O 1 dX9_linkOf_13 rfl (Or.inl rfl) ?_
    refine r_sipush O (v := 212) dX9_linkOf_14 (by decide) ?_
    refine r_iload_n O 0 dX9_linkOf_17 rfl ?_
    refine r_iadd O dX9_linkOf_18 ?_
    obtain ⟨x3, ex3, hf⟩ := bnd hf
    refine r_ldI O ex3 dX9_linkOf_19 ?_
    refine r_iconst O (v := -1) dX9_linkOf_20 (by decide) ?_
    by_cases hc : x3 = (-1)
    · rw [if_pos hc] at hf
      refine r_icmp_eq_t (tgt := 28) O dX9_linkOf_21 (by decide) hc ?_
      refine r_iconst O (v := -1) dX9_linkOf_28 (by decide) ?_
      obtain rfl := oi1 hf
      refine AW.sub [] rfl ?_
      exact hJ
    · rw [if_neg hc] at hf
      refine r_icmp_eq_f (tgt := 28) O dX9_linkOf_21 (by decide) hc ?_
      refine r_iload_n O 0 dX9_linkOf_24 rfl ?_
      refine r_goto (tgt := 29) O dX9_linkOf_25 (by decide) ?_
      obtain rfl := oi1 hf
      refine AW.sub [] rfl ?_
      exact hJ
def f_X9_lookAt_350 (l0 : Nat) (l1 : Nat) (l2 : Int32) (l3 : Int32) (l4 : Int32) (l5 : Int32) (l6 : Int32) (l7 : Int32) (n : Nat) (h : AH) (l8 : Int32) : Option AH := match n with
| 0 => none
| n + 1 =>
Option.bind (ldI h l1 (492 + l5)) fun x42 =>
if x42 ≤ l8 then
some h
else
Option.bind (ldI h l1 ((252 + (l5 * 40)) + l8)) fun x43 =>
Option.bind (f_X9_lookThing h l0 x43 l7) fun h45 =>
f_X9_lookAt_350 l0 l1 l2 l3 l4 l5 l6 l7 n h45 (l8 + 1)
def f_X9_lookAt_50 (l0 : Nat) (l1 : Nat) (l2 : Int32) (l3 : Int32) (l4 : Int32) (l5 : Int32) (n : Nat) (h : AH) (l6 : Int32) : Option AH := match n with
| 0 => none
| n + 1 =>
Option.bind (gP h 9 l0 7) fun x10 =>
Option.bind (ldI h x10 l3) fun x11 =>
if x11 ≤ l6 then
some h
else
Option.bind (gP h 9 l0 9) fun x12 =>
Option.bind (ldI h x12 ((l3 * 24) + l6)) fun x13 =>
Option.bind (gP h 9 l0 8) fun x14 =>
Option.bind (ldI h x14 ((l3 * 24) + l6)) fun x15 =>
Option.bind (if x15 = 1 then
Option.bind (if 240 ≤ l2 then
some ((2000 + (2 * l4)) + x13)
else
some ((1000 + (4 * l4)) + x13)) fun x17 =>
Option.bind (f_X9_look h l0 x17) fun h19 =>
some h19
else
if x15 = 2 then
Option.bind (f_X9_look h l0 ((2000 + (2 * l5)) + x13)) fun h21 =>
some h21
else
if x15 = 3 then
Option.bind (if x13 = 0 then
some (3000 + l5)
else
some (4000 + l5)) fun x22 =>
Option.bind (f_X9_look h l0 x22) fun h24 =>
some h24
else
if x15 = 4 then
Option.bind (if 240 ≤ l2 then
some (((240 + (3 * l4)) + x13) - 6)
else
some ((6 * l4) + x13)) fun x25 =>
Option.bind (f_X9_look h l0 (5000 + x25)) fun h27 =>
some h27
else
if x15 = 5 then
Option.bind (f_X9_neighbour h l1 l4 (-1)) fun x28 =>
Option.bind (f_X9_lookThing h l0 x28 x13) fun h31 =>
some h31
else
if x15 = 6 then
Option.bind (f_X9_neighbour h l1 l4 1) fun x32 =>
Option.bind (f_X9_lookThing h l0 x32 x13) fun h35 =>
some h35
else
if x15 = 7 then
Option.bind (f_X9_linkOf h l1 l4) fun x36 =>
Option.bind (f_X9_lookThing h l0 x36 x13) fun h39 =>
some h39
else
if x15 = 8 then
Option.bind (f_X9_look h l0 (((5240 + (3 * l5)) + x13) - 6)) fun h41 =>
some h41
else
if x15 = 9 ∨ x15 = 10 ∨ x15 = 11 then
Option.bind (f_X9_lookAt_350 l0 l1 l2 l3 l4 l5 l6 x13 FU h 0) fun h46 =>
some h46
else
if x15 = 12 then
Option.bind (ldI h l1 (492 + l5)) fun x47 =>
Option.bind (if x47 = 0 then
some ((-1) : Int32)
else
Option.bind (ldI h l1 (252 + (l5 * 40))) fun x49 =>
some x49) fun x48 =>
Option.bind (f_X9_lookThing h l0 x48 x13) fun h51 =>
some h51
else
if x15 = 13 then
Option.bind (ldI h l1 (492 + l5)) fun x52 =>
Option.bind (if x52 = 0 then
some ((-1) : Int32)
else
Option.bind (ldI h l1 (492 + l5)) fun x54 =>
Option.bind (ldI h l1 (((252 + (l5 * 40)) + x54) - 1)) fun x55 =>
some x55) fun x53 =>
Option.bind (f_X9_lookThing h l0 x53 x13) fun h57 =>
some h57
else
some h) fun h16 =>
f_X9_lookAt_50 l0 l1 l2 l3 l4 l5 n h16 (l6 + 1)
def f_X9_lookAt (h : AH) (a0 : Nat) (a1 : Nat) (a2 : Int32) : Option AH :=
if aK h a0 = 9 then
Option.bind (pI h 9 a0 32 0) fun h1 =>
Option.bind (f_X9_isFrozen h1 a1 a2) fun x2 =>
if x2 = 0 then
Option.bind (f_X9_kindOf h1 a2) fun x4 =>
Option.bind (f_X9_ownerOf h1 a2) fun x6 =>
Option.bind (if 240 ≤ a2 then
some x6
else
Option.bind (ldI h1 a1 (212 + x6)) fun x9 =>
some x9) fun x8 =>
Option.bind (f_X9_lookAt_50 a0 a1 a2 x4 x6 x8 FU h1 0) fun h58 =>
some h58
else
some h1
else none
set_option maxRecDepth 100000 in
set_option maxHeartbeats 4000000 in
theorem s_X9_lookAt_350 {p : Program} {l : Launch} {e : Env} {s : State} {m : MethodId} {args : Array Value} {below : List Frame} {meth : Method} {c : Code} {G : GT} {Q : State → Prop} (O : OkC p l s m args meth c G cX9_lookAt 9 RX9) {l0 : Nat} {l1 : Nat} {l2 : Int32} {l3 : Int32} {l4 : Int32} {l5 : Int32} {l6 : Int32} {l7 : Int32} {wh : AH} (kk : AW p l e { frames := 3, cells := 0, slots := 0, locals := 65 } s m args below meth c G 9 Q wh 0 0 389 [(0, .ref l0), (1, .ref l1), (2, .int l2), (3, .int l3), (4, .int l4), (5, .int l5), (6, .int l6)] []) : ∀ (n : Nat), ∀ (h : AH) (l8 : Int32), f_X9_lookAt_350 l0 l1 l2 l3 l4 l5 l6 l7 n h l8 = some wh → AW p l e { frames := 3, cells := 0, slots := 0, locals := 65 } s m args below meth c G 9 Q h 0 0 350 [(0, .ref l0), (1, .ref l1), (2, .int l2), (3, .int l3), (4, .int l4), (5, .int l5), (6, .int l6), (7, .int l7), (8, .int l8)] [] := by
  intro n
  induction n with
  | zero =>
    intro h l8 hf
    simp [f_X9_lookAt_350] at hf
  | succ n ih =>
    intro h l8 hf
    unfold f_X9_lookAt_350 at hf
    refine r_iload O 8 dX9_lookAt_350 rfl ?_
    refine r_aload_n O 1 dX9_lookAt_352 rfl (Or.inl rfl) ?_
    refine r_sipush O (v := 492) dX9_lookAt_353 (by decide) ?_
    refine r_iload O 5 dX9_lookAt_356 rfl ?_
    refine r_iadd O dX9_lookAt_358 ?_
    obtain ⟨x42, ex42, hf⟩ := bnd hf
    refine r_ldI O ex42 dX9_lookAt_359 ?_
    by_cases hc : x42 ≤ l8
    · rw [if_pos hc] at hf
      refine r_icmp_ge_t (tgt := 389) O dX9_lookAt_360 (by decide) hc ?_
      obtain rfl := oi1 hf
      refine AW.sub [0, 1, 2, 3, 4, 5, 6] rfl ?_
      exact kk
    · rw [if_neg hc] at hf
      refine r_icmp_ge_f (tgt := 389) O dX9_lookAt_360 (by decide) hc ?_
      refine r_aload_n O 0 dX9_lookAt_363 rfl (Or.inl rfl) ?_
      refine r_aload_n O 1 dX9_lookAt_364 rfl (Or.inl rfl) ?_
      refine r_sipush O (v := 252) dX9_lookAt_365 (by decide) ?_
      refine r_iload O 5 dX9_lookAt_368 rfl ?_
      refine r_bipush O (v := 40) dX9_lookAt_370 (by decide) ?_
      refine r_imul O dX9_lookAt_372 ?_
      refine r_iadd O dX9_lookAt_373 ?_
      refine r_iload O 8 dX9_lookAt_374 rfl ?_
      refine r_iadd O dX9_lookAt_376 ?_
      obtain ⟨x43, ex43, hf⟩ := bnd hf
      refine r_ldI O ex43 dX9_lookAt_377 ?_
      refine r_iload O 7 dX9_lookAt_378 rfl ?_
      obtain ⟨h45, eh45, hf⟩ := bnd hf
      refine r_callV (av := [.int x43, .int l7]) (st := []) O (c_X9_lookThing eh45) mf_X9_lookThing cf9 (kd_X9_lookThing eh45) ml_X9_155 mi_X9_lookThing mv_X9_lookThing (by decide) (Nat.le_of_ble_eq_true rfl) (by decide) dX9_lookAt_380 ?_
      refine r_iinc O 8 [(8, .int (l8 + 1)), (0, .ref l0), (1, .ref l1), (2, .int l2), (3, .int l3), (4, .int l4), (5, .int l5), (6, .int l6), (7, .int l7)] dX9_lookAt_383 rfl rfl (by decide) rfl ?_
      refine r_goto (tgt := 350) O dX9_lookAt_386 (by decide) ?_
      refine AW.sub [1, 2, 3, 4, 5, 6, 7, 8, 0] rfl ?_
      exact ih _ _ hf
set_option maxRecDepth 100000 in
set_option maxHeartbeats 4000000 in
theorem s_X9_lookAt_50 {p : Program} {l : Launch} {e : Env} {s : State} {m : MethodId} {args : Array Value} {below : List Frame} {meth : Method} {c : Code} {G : GT} {Q : State → Prop} (O : OkC p l s m args meth c G cX9_lookAt 9 RX9) {l0 : Nat} {l1 : Nat} {l2 : Int32} {l3 : Int32} {l4 : Int32} {l5 : Int32} {wh : AH} (kk : AW p l e { frames := 3, cells := 0, slots := 0, locals := 65 } s m args below meth c G 9 Q wh 0 0 479 [] []) : ∀ (n : Nat), ∀ (h : AH) (l6 : Int32), f_X9_lookAt_50 l0 l1 l2 l3 l4 l5 n h l6 = some wh → AW p l e { frames := 3, cells := 0, slots := 0, locals := 65 } s m args below meth c G 9 Q h 0 0 50 [(0, .ref l0), (1, .ref l1), (2, .int l2), (3, .int l3), (4, .int l4), (5, .int l5), (6, .int l6)] [] := by
  intro n
  induction n with
  | zero =>
    intro h l6 hf
    simp [f_X9_lookAt_50] at hf
  | succ n ih =>
    intro h l6 hf
    unfold f_X9_lookAt_50 at hf
    refine r_iload O 6 dX9_lookAt_50 rfl ?_
    refine r_aload_n O 0 dX9_lookAt_52 rfl (Or.inl rfl) ?_
    obtain ⟨x10, ex10, hf⟩ := bnd hf
    refine r_gP O cf9 7 (by decide) rfl fl_X9_24 ex10 dX9_lookAt_53 ?_
    refine r_iload_n O 3 dX9_lookAt_56 rfl ?_
    obtain ⟨x11, ex11, hf⟩ := bnd hf
    refine r_ldI O ex11 dX9_lookAt_57 ?_
    by_cases hc : x11 ≤ l6
    · rw [if_pos hc] at hf
      refine r_icmp_ge_t (tgt := 479) O dX9_lookAt_58 (by decide) hc ?_
      obtain rfl := oi1 hf
      refine AW.sub [] rfl ?_
      exact kk
    · rw [if_neg hc] at hf
      refine r_icmp_ge_f (tgt := 479) O dX9_lookAt_58 (by decide) hc ?_
      refine r_aload_n O 0 dX9_lookAt_61 rfl (Or.inl rfl) ?_
      obtain ⟨x12, ex12, hf⟩ := bnd hf
      refine r_gP O cf9 9 (by decide) rfl fl_X9_30 ex12 dX9_lookAt_62 ?_
      refine r_iload_n O 3 dX9_lookAt_65 rfl ?_
      refine r_bipush O (v := 24) dX9_lookAt_66 (by decide) ?_
      refine r_imul O dX9_lookAt_68 ?_
      refine r_iload O 6 dX9_lookAt_69 rfl ?_
      refine r_iadd O dX9_lookAt_71 ?_
      obtain ⟨x13, ex13, hf⟩ := bnd hf
      refine r_ldI O ex13 dX9_lookAt_72 ?_
      refine r_istore O [(7, .int x13), (0, .ref l0), (1, .ref l1), (2, .int l2), (3, .int l3), (4, .int l4), (5, .int l5), (6, .int l6)] dX9_lookAt_73 (by decide) rfl ?_
      refine r_aload_n O 1 dX9_lookAt_75 rfl (Or.inl rfl) ?_
      obtain ⟨x14, ex14, hf⟩ := bnd hf
      refine r_gP O cf9 8 (by decide) rfl fl_X9_27 ex14 dX9_lookAt_76 ?_
      refine r_iload_n O 4 dX9_lookAt_79 rfl ?_
      refine r_bipush O (v := 24) dX9_lookAt_80 (by decide) ?_
      refine r_imul O dX9_lookAt_82 ?_
      refine r_iload O 7 dX9_lookAt_83 rfl ?_
      refine r_iadd O dX9_lookAt_85 ?_
      obtain ⟨x15, ex15, hf⟩ := bnd hf
      refine r_ldI O ex15 dX9_lookAt_86 ?_
      obtain ⟨h16, hg, hf⟩ := bnd hf
      have hJ : AW p l e { frames := 3, cells := 0, slots := 0, locals := 65 } s m args below meth c G 9 Q h16 0 0 473 [(0, .ref l0), (1, .ref l1), (2, .int l2), (3, .int l3), (4, .int l4), (5, .int l5), (6, .int l6)] [] := by
        refine r_iinc O 6 [(6, .int (l6 + 1)), (0, .ref l0), (1, .ref l1), (2, .int l2), (3, .int l3), (4, .int l4), (5, .int l5)] dX9_lookAt_473 rfl rfl (by decide) rfl ?_
        refine r_goto (tgt := 50) O dX9_lookAt_476 (by decide) ?_
        refine AW.sub [1, 2, 3, 4, 5, 6, 0] rfl ?_
        exact ih _ _ hf
      clear hf
      have hf := hg
      clear hg
      by_cases hc : x15 = 1
      · rw [if_pos hc] at hf
        refine r_table_in (off := 65) (tgt := 152) O dX9_lookAt_87 (by (rw [hc]; decide)) (by (rw [hc]; decide)) (by (rw [hc]; rfl)) (by decide) ?_
        refine r_aload_n O 1 dX9_lookAt_152 rfl (Or.inl rfl) ?_
        refine r_iload_n O 3 dX9_lookAt_153 rfl ?_
        refine r_sipush O (v := 240) dX9_lookAt_154 (by decide) ?_
        obtain ⟨x17, hg, hf⟩ := bnd hf
        have hJ : AW p l e { frames := 3, cells := 0, slots := 0, locals := 65 } s m args below meth c G 9 Q h 0 0 185 [(0, .ref l0), (1, .ref l1), (2, .int l2), (3, .int l3), (4, .int l4), (5, .int l5), (6, .int l6)] [.int x17, .ref l0] := by
          obtain ⟨h19, eh19, hf⟩ := bnd hf
          refine r_callV (av := [.int x17]) (st := []) O (c_X9_look eh19) mf_X9_look cf9 (kd_X9_look eh19) ml_X9_144 mi_X9_look mv_X9_look (by decide) (Nat.le_of_ble_eq_true rfl) (by decide) dX9_lookAt_185 ?_
          refine r_goto (tgt := 473) O dX9_lookAt_188 (by decide) ?_
          obtain rfl := oi1 hf
          refine AW.sub [0, 1, 2, 3, 4, 5, 6] rfl ?_
          exact hJ
        clear hf
        have hf := hg
        clear hg
        by_cases hc : 240 ≤ l2
        · rw [if_pos hc] at hf
          refine r_icmp_ge_t (tgt := 174) O dX9_lookAt_157 (by decide) hc ?_
          refine r_sipush O (v := 2000) dX9_lookAt_174 (by decide) ?_
          refine r_iconst O (v := 2) dX9_lookAt_177 (by decide) ?_
          refine r_iload O 5 dX9_lookAt_178 rfl ?_
          refine r_imul O dX9_lookAt_180 ?_
          refine r_iadd O dX9_lookAt_181 ?_
          refine r_iload O 0 dX9_lookAt_182 rfl ?_
          refine r_iadd O dX9_lookAt_184 ?_
          obtain rfl := oi1 hf
          refine AW.sub [1, 2, 3, 4, 5, 6, 7] rfl ?_
          exact hJ
        · rw [if_neg hc] at hf
          refine r_icmp_ge_f (tgt := 174) O dX9_lookAt_157 (by decide) hc ?_
          refine r_sipush O (v := 1000) dX9_lookAt_160 (by decide) ?_
          refine r_iconst O (v := 4) dX9_lookAt_163 (by decide) ?_
          refine r_iload O 5 dX9_lookAt_164 rfl ?_
          refine r_imul O dX9_lookAt_166 ?_
          refine r_iadd O dX9_lookAt_167 ?_
          refine r_iload O 0 dX9_lookAt_168 rfl ?_
          refine r_iadd O dX9_lookAt_170 ?_
          refine r_goto (tgt := 185) O dX9_lookAt_171 (by decide) ?_
          obtain rfl := oi1 hf
          refine AW.sub [1, 2, 3, 4, 5, 6, 7] rfl ?_
          exact hJ
      · rw [if_neg hc] at hf
        have hn152 := hc
        by_cases hc : x15 = 2
        · rw [if_pos hc] at hf
          refine r_table_in (off := 104) (tgt := 191) O dX9_lookAt_87 (by (rw [hc]; decide)) (by (rw [hc]; decide)) (by (rw [hc]; rfl)) (by decide) ?_
          refine r_aload_n O 1 dX9_lookAt_191 rfl (Or.inl rfl) ?_
          refine r_sipush O (v := 2000) dX9_lookAt_192 (by decide) ?_
          refine r_iconst O (v := 2) dX9_lookAt_195 (by decide) ?_
          refine r_iload O 6 dX9_lookAt_196 rfl ?_
          refine r_imul O dX9_lookAt_198 ?_
          refine r_iadd O dX9_lookAt_199 ?_
          refine r_iload O 0 dX9_lookAt_200 rfl ?_
          refine r_iadd O dX9_lookAt_202 ?_
          obtain ⟨h21, eh21, hf⟩ := bnd hf
          refine r_callV (av := [.int ((2000 + (2 * l5)) + x13)]) (st := []) O (c_X9_look eh21) mf_X9_look cf9 (kd_X9_look eh21) ml_X9_144 mi_X9_look mv_X9_look (by decide) (Nat.le_of_ble_eq_true rfl) (by decide) dX9_lookAt_203 ?_
          refine r_goto (tgt := 473) O dX9_lookAt_206 (by decide) ?_
          obtain rfl := oi1 hf
          refine AW.sub [1, 2, 3, 4, 5, 6, 7] rfl ?_
          exact hJ
        · rw [if_neg hc] at hf
          have hn191 := hc
          by_cases hc : x15 = 3
          · rw [if_pos hc] at hf
            refine r_table_in (off := 122) (tgt := 209) O dX9_lookAt_87 (by (rw [hc]; decide)) (by (rw [hc]; decide)) (by (rw [hc]; rfl)) (by decide) ?_
            refine r_aload_n O 1 dX9_lookAt_209 rfl (Or.inl rfl) ?_
            refine r_iload O 0 dX9_lookAt_210 rfl ?_
            obtain ⟨x22, hg, hf⟩ := bnd hf
            have hJ : AW p l e { frames := 3, cells := 0, slots := 0, locals := 65 } s m args below meth c G 9 Q h 0 0 230 [(0, .ref l0), (1, .ref l1), (2, .int l2), (3, .int l3), (4, .int l4), (5, .int l5), (6, .int l6)] [.int x22, .ref l0] := by
              obtain ⟨h24, eh24, hf⟩ := bnd hf
              refine r_callV (av := [.int x22]) (st := []) O (c_X9_look eh24) mf_X9_look cf9 (kd_X9_look eh24) ml_X9_144 mi_X9_look mv_X9_look (by decide) (Nat.le_of_ble_eq_true rfl) (by decide) dX9_lookAt_230 ?_
              refine r_goto (tgt := 473) O dX9_lookAt_233 (by decide) ?_
              obtain rfl := oi1 hf
              refine AW.sub [0, 1, 2, 3, 4, 5, 6] rfl ?_
              exact hJ
            clear hf
            have hf := hg
            clear hg
            by_cases hc : x13 = 0
            · rw [if_pos hc] at hf
              refine r_if_ne_f (tgt := 224) O dX9_lookAt_212 (by decide) hc ?_
              refine r_sipush O (v := 3000) dX9_lookAt_215 (by decide) ?_
              refine r_iload O 6 dX9_lookAt_218 rfl ?_
              refine r_iadd O dX9_lookAt_220 ?_
              refine r_goto (tgt := 230) O dX9_lookAt_221 (by decide) ?_
              obtain rfl := oi1 hf
              refine AW.sub [1, 2, 3, 4, 5, 6, 7] rfl ?_
              exact hJ
            · rw [if_neg hc] at hf
              refine r_if_ne_t (tgt := 224) O dX9_lookAt_212 (by decide) hc ?_
              refine r_sipush O (v := 4000) dX9_lookAt_224 (by decide) ?_
              refine r_iload O 6 dX9_lookAt_227 rfl ?_
              refine r_iadd O dX9_lookAt_229 ?_
              obtain rfl := oi1 hf
              refine AW.sub [1, 2, 3, 4, 5, 6, 7] rfl ?_
              exact hJ
          · rw [if_neg hc] at hf
            have hn209 := hc
            by_cases hc : x15 = 4
            · rw [if_pos hc] at hf
              refine r_table_in (off := 149) (tgt := 236) O dX9_lookAt_87 (by (rw [hc]; decide)) (by (rw [hc]; decide)) (by (rw [hc]; rfl)) (by decide) ?_
              refine r_aload_n O 1 dX9_lookAt_236 rfl (Or.inl rfl) ?_
              refine r_sipush O (v := 5000) dX9_lookAt_237 (by decide) ?_
              refine r_iload_n O 3 dX9_lookAt_240 rfl ?_
              refine r_sipush O (v := 240) dX9_lookAt_241 (by decide) ?_
              obtain ⟨x25, hg, hf⟩ := bnd hf
              have hJ : AW p l e { frames := 3, cells := 0, slots := 0, locals := 65 } s m args below meth c G 9 Q h 0 0 272 [(0, .ref l0), (1, .ref l1), (2, .int l2), (3, .int l3), (4, .int l4), (5, .int l5), (6, .int l6)] [.int x25, .int 5000, .ref l0] := by
                refine r_iadd O dX9_lookAt_272 ?_
                obtain ⟨h27, eh27, hf⟩ := bnd hf
                refine r_callV (av := [.int (5000 + x25)]) (st := []) O (c_X9_look eh27) mf_X9_look cf9 (kd_X9_look eh27) ml_X9_144 mi_X9_look mv_X9_look (by decide) (Nat.le_of_ble_eq_true rfl) (by decide) dX9_lookAt_273 ?_
                refine r_goto (tgt := 473) O dX9_lookAt_276 (by decide) ?_
                obtain rfl := oi1 hf
                refine AW.sub [0, 1, 2, 3, 4, 5, 6] rfl ?_
                exact hJ
              clear hf
              have hf := hg
              clear hg
              by_cases hc : 240 ≤ l2
              · rw [if_pos hc] at hf
                refine r_icmp_ge_t (tgt := 258) O dX9_lookAt_244 (by decide) hc ?_
                refine r_sipush O (v := 240) dX9_lookAt_258 (by decide) ?_
                refine r_iconst O (v := 3) dX9_lookAt_261 (by decide) ?_
                refine r_iload O 5 dX9_lookAt_262 rfl ?_
                refine r_imul O dX9_lookAt_264 ?_
                refine r_iadd O dX9_lookAt_265 ?_
                refine r_iload O 0 dX9_lookAt_266 rfl ?_
                refine r_iadd O dX9_lookAt_268 ?_
                refine r_bipush O (v := 6) dX9_lookAt_269 (by decide) ?_
                refine r_isub O dX9_lookAt_271 ?_
                obtain rfl := oi1 hf
                refine AW.sub [1, 2, 3, 4, 5, 6, 7] rfl ?_
                exact hJ
              · rw [if_neg hc] at hf
                refine r_icmp_ge_f (tgt := 258) O dX9_lookAt_244 (by decide) hc ?_
                refine r_bipush O (v := 6) dX9_lookAt_247 (by decide) ?_
                refine r_iload O 5 dX9_lookAt_249 rfl ?_
                refine r_imul O dX9_lookAt_251 ?_
                refine r_iload O 0 dX9_lookAt_252 rfl ?_
                refine r_iadd O dX9_lookAt_254 ?_
                refine r_goto (tgt := 272) O dX9_lookAt_255 (by decide) ?_
                obtain rfl := oi1 hf
                refine AW.sub [1, 2, 3, 4, 5, 6, 7] rfl ?_
                exact hJ
            · rw [if_neg hc] at hf
              have hn236 := hc
              by_cases hc : x15 = 5
              · rw [if_pos hc] at hf
                refine r_table_in (off := 192) (tgt := 279) O dX9_lookAt_87 (by (rw [hc]; decide)) (by (rw [hc]; decide)) (by (rw [hc]; rfl)) (by decide) ?_
                refine r_aload_n O 1 dX9_lookAt_279 rfl (Or.inl rfl) ?_
                refine r_aload_n O 2 dX9_lookAt_280 rfl (Or.inl rfl) ?_
                refine r_iload O 5 dX9_lookAt_281 rfl ?_
                refine r_iconst O (v := -1) dX9_lookAt_283 (by decide) ?_
                obtain ⟨x28, ex28, hf⟩ := bnd hf
                refine r_callS (av := [.ref l1, .int l4, .int (-1)]) (st := [.ref l0]) O (c_X9_neighbour ex28) mf_X9_neighbour ml_X9_151 ms_X9_neighbour (by decide) (Nat.le_of_ble_eq_true rfl) (by decide) dX9_lookAt_284 ?_
                refine r_iload O 0 dX9_lookAt_287 rfl ?_
                obtain ⟨h31, eh31, hf⟩ := bnd hf
                refine r_callV (av := [.int x28, .int x13]) (st := []) O (c_X9_lookThing eh31) mf_X9_lookThing cf9 (kd_X9_lookThing eh31) ml_X9_155 mi_X9_lookThing mv_X9_lookThing (by decide) (Nat.le_of_ble_eq_true rfl) (by decide) dX9_lookAt_289 ?_
                refine r_goto (tgt := 473) O dX9_lookAt_292 (by decide) ?_
                obtain rfl := oi1 hf
                refine AW.sub [1, 2, 3, 4, 5, 6, 7] rfl ?_
                exact hJ
              · rw [if_neg hc] at hf
                have hn279 := hc
                by_cases hc : x15 = 6
                · rw [if_pos hc] at hf
                  refine r_table_in (off := 208) (tgt := 295) O dX9_lookAt_87 (by (rw [hc]; decide)) (by (rw [hc]; decide)) (by (rw [hc]; rfl)) (by decide) ?_
                  refine r_aload_n O 1 dX9_lookAt_295 rfl (Or.inl rfl) ?_
                  refine r_aload_n O 2 dX9_lookAt_296 rfl (Or.inl rfl) ?_
                  refine r_iload O 5 dX9_lookAt_297 rfl ?_
                  refine r_iconst O (v := 1) dX9_lookAt_299 (by decide) ?_
                  obtain ⟨x32, ex32, hf⟩ := bnd hf
                  refine r_callS (av := [.ref l1, .int l4, .int 1]) (st := [.ref l0]) O (c_X9_neighbour ex32) mf_X9_neighbour ml_X9_151 ms_X9_neighbour (by decide) (Nat.le_of_ble_eq_true rfl) (by decide) dX9_lookAt_300 ?_
                  refine r_iload O 0 dX9_lookAt_303 rfl ?_
                  obtain ⟨h35, eh35, hf⟩ := bnd hf
                  refine r_callV (av := [.int x32, .int x13]) (st := []) O (c_X9_lookThing eh35) mf_X9_lookThing cf9 (kd_X9_lookThing eh35) ml_X9_155 mi_X9_lookThing mv_X9_lookThing (by decide) (Nat.le_of_ble_eq_true rfl) (by decide) dX9_lookAt_305 ?_
                  refine r_goto (tgt := 473) O dX9_lookAt_308 (by decide) ?_
                  obtain rfl := oi1 hf
                  refine AW.sub [1, 2, 3, 4, 5, 6, 7] rfl ?_
                  exact hJ
                · rw [if_neg hc] at hf
                  have hn295 := hc
                  by_cases hc : x15 = 7
                  · rw [if_pos hc] at hf
                    refine r_table_in (off := 224) (tgt := 311) O dX9_lookAt_87 (by (rw [hc]; decide)) (by (rw [hc]; decide)) (by (rw [hc]; rfl)) (by decide) ?_
                    refine r_aload_n O 1 dX9_lookAt_311 rfl (Or.inl rfl) ?_
                    refine r_aload_n O 2 dX9_lookAt_312 rfl (Or.inl rfl) ?_
                    refine r_iload O 5 dX9_lookAt_313 rfl ?_
                    obtain ⟨x36, ex36, hf⟩ := bnd hf
                    refine r_callS (av := [.ref l1, .int l4]) (st := [.ref l0]) O (c_X9_linkOf ex36) mf_X9_linkOf ml_X9_159 ms_X9_linkOf (by decide) (Nat.le_of_ble_eq_true rfl) (by decide) dX9_lookAt_315 ?_
                    refine r_iload O 0 dX9_lookAt_318 rfl ?_
                    obtain ⟨h39, eh39, hf⟩ := bnd hf
                    refine r_callV (av := [.int x36, .int x13]) (st := []) O (c_X9_lookThing eh39) mf_X9_lookThing cf9 (kd_X9_lookThing eh39) ml_X9_155 mi_X9_lookThing mv_X9_lookThing (by decide) (Nat.le_of_ble_eq_true rfl) (by decide) dX9_lookAt_320 ?_
                    refine r_goto (tgt := 473) O dX9_lookAt_323 (by decide) ?_
                    obtain rfl := oi1 hf
                    refine AW.sub [1, 2, 3, 4, 5, 6, 7] rfl ?_
                    exact hJ
                  · rw [if_neg hc] at hf
                    have hn311 := hc
                    by_cases hc : x15 = 8
                    · rw [if_pos hc] at hf
                      refine r_table_in (off := 239) (tgt := 326) O dX9_lookAt_87 (by (rw [hc]; decide)) (by (rw [hc]; decide)) (by (rw [hc]; rfl)) (by decide) ?_
                      refine r_aload_n O 1 dX9_lookAt_326 rfl (Or.inl rfl) ?_
                      refine r_sipush O (v := 5240) dX9_lookAt_327 (by decide) ?_
                      refine r_iconst O (v := 3) dX9_lookAt_330 (by decide) ?_
                      refine r_iload O 6 dX9_lookAt_331 rfl ?_
                      refine r_imul O dX9_lookAt_333 ?_
                      refine r_iadd O dX9_lookAt_334 ?_
                      refine r_iload O 0 dX9_lookAt_335 rfl ?_
                      refine r_iadd O dX9_lookAt_337 ?_
                      refine r_bipush O (v := 6) dX9_lookAt_338 (by decide) ?_
                      refine r_isub O dX9_lookAt_340 ?_
                      obtain ⟨h41, eh41, hf⟩ := bnd hf
                      refine r_callV (av := [.int (((5240 + (3 * l5)) + x13) - 6)]) (st := []) O (c_X9_look eh41) mf_X9_look cf9 (kd_X9_look eh41) ml_X9_144 mi_X9_look mv_X9_look (by decide) (Nat.le_of_ble_eq_true rfl) (by decide) dX9_lookAt_341 ?_
                      refine r_goto (tgt := 473) O dX9_lookAt_344 (by decide) ?_
                      obtain rfl := oi1 hf
                      refine AW.sub [1, 2, 3, 4, 5, 6, 7] rfl ?_
                      exact hJ
                    · rw [if_neg hc] at hf
                      have hn326 := hc
                      by_cases hc : x15 = 9 ∨ x15 = 10 ∨ x15 = 11
                      · rw [if_pos hc] at hf
                        refine r_table_in (off := 260) (tgt := 347) O dX9_lookAt_87 (by rcases hc with hc | hc | hc <;> (rw [hc]; decide)) (by rcases hc with hc | hc | hc <;> (rw [hc]; decide)) (by rcases hc with hc | hc | hc <;> (rw [hc]; rfl)) (by decide) ?_
                        refine r_iconst O (v := 0) dX9_lookAt_347 (by decide) ?_
                        refine r_istore O [(8, .int 0), (7, .int x13), (0, .ref l0), (1, .ref l1), (2, .int l2), (3, .int l3), (4, .int l4), (5, .int l5), (6, .int l6)] dX9_lookAt_348 (by decide) rfl ?_
                        obtain ⟨h46, hw, hf⟩ := bnd hf
                        refine AW.sub [2, 3, 4, 5, 6, 7, 8, 1, 0] rfl ?_
                        refine s_X9_lookAt_350 O ?_ _ _ _ hw
                        refine r_goto (tgt := 473) O dX9_lookAt_389 (by decide) ?_
                        obtain rfl := oi1 hf
                        refine AW.sub [0, 1, 2, 3, 4, 5, 6] rfl ?_
                        exact hJ
                      · rw [if_neg hc] at hf
                        have hn347 := hc
                        by_cases hc : x15 = 12
                        · rw [if_pos hc] at hf
                          refine r_table_in (off := 305) (tgt := 392) O dX9_lookAt_87 (by (rw [hc]; decide)) (by (rw [hc]; decide)) (by (rw [hc]; rfl)) (by decide) ?_
                          refine r_aload_n O 1 dX9_lookAt_392 rfl (Or.inl rfl) ?_
                          refine r_aload_n O 2 dX9_lookAt_393 rfl (Or.inl rfl) ?_
                          refine r_sipush O (v := 492) dX9_lookAt_394 (by decide) ?_
                          refine r_iload O 6 dX9_lookAt_397 rfl ?_
                          refine r_iadd O dX9_lookAt_399 ?_
                          obtain ⟨x47, ex47, hf⟩ := bnd hf
                          refine r_ldI O ex47 dX9_lookAt_400 ?_
                          obtain ⟨x48, hg, hf⟩ := bnd hf
                          have hJ : AW p l e { frames := 3, cells := 0, slots := 0, locals := 65 } s m args below meth c G 9 Q h 0 0 419 [(0, .ref l0), (1, .ref l1), (2, .int l2), (3, .int l3), (4, .int l4), (5, .int l5), (6, .int l6), (7, .int x13)] [.int x48, .ref l0] := by
                            refine r_iload O 7 dX9_lookAt_419 rfl ?_
                            obtain ⟨h51, eh51, hf⟩ := bnd hf
                            refine r_callV (av := [.int x48, .int x13]) (st := []) O (c_X9_lookThing eh51) mf_X9_lookThing cf9 (kd_X9_lookThing eh51) ml_X9_155 mi_X9_lookThing mv_X9_lookThing (by decide) (Nat.le_of_ble_eq_true rfl) (by decide) dX9_lookAt_421 ?_
                            refine r_goto (tgt := 473) O dX9_lookAt_424 (by decide) ?_
                            obtain rfl := oi1 hf
                            refine AW.sub [0, 1, 2, 3, 4, 5, 6] rfl ?_
                            exact hJ
                          clear hf
                          have hf := hg
                          clear hg
                          by_cases hc : x47 = 0
                          · rw [if_pos hc] at hf
                            refine r_if_ne_f (tgt := 408) O dX9_lookAt_401 (by decide) hc ?_
                            refine r_iconst O (v := -1) dX9_lookAt_404 (by decide) ?_
                            refine r_goto (tgt := 419) O dX9_lookAt_405 (by decide) ?_
                            obtain rfl := oi1 hf
                            refine AW.sub [1, 2, 3, 4, 5, 6, 7, 0] rfl ?_
                            exact hJ
                          · rw [if_neg hc] at hf
                            refine r_if_ne_t (tgt := 408) O dX9_lookAt_401 (by decide) hc ?_
                            refine r_aload_n O 2 dX9_lookAt_408 rfl (Or.inl rfl) ?_
                            refine r_sipush O (v := 252) dX9_lookAt_409 (by decide) ?_
                            refine r_iload O 6 dX9_lookAt_412 rfl ?_
                            refine r_bipush O (v := 40) dX9_lookAt_414 (by decide) ?_
                            refine r_imul O dX9_lookAt_416 ?_
                            refine r_iadd O dX9_lookAt_417 ?_
                            obtain ⟨x49, ex49, hf⟩ := bnd hf
                            refine r_ldI O ex49 dX9_lookAt_418 ?_
                            obtain rfl := oi1 hf
                            refine AW.sub [1, 2, 3, 4, 5, 6, 7, 0] rfl ?_
                            exact hJ
                        · rw [if_neg hc] at hf
                          have hn392 := hc
                          by_cases hc : x15 = 13
                          · rw [if_pos hc] at hf
                            refine r_table_in (off := 340) (tgt := 427) O dX9_lookAt_87 (by (rw [hc]; decide)) (by (rw [hc]; decide)) (by (rw [hc]; rfl)) (by decide) ?_
                            refine r_aload_n O 1 dX9_lookAt_427 rfl (Or.inl rfl) ?_
                            refine r_aload_n O 2 dX9_lookAt_428 rfl (Or.inl rfl) ?_
                            refine r_sipush O (v := 492) dX9_lookAt_429 (by decide) ?_
                            refine r_iload O 6 dX9_lookAt_432 rfl ?_
                            refine r_iadd O dX9_lookAt_434 ?_
                            obtain ⟨x52, ex52, hf⟩ := bnd hf
                            refine r_ldI O ex52 dX9_lookAt_435 ?_
                            obtain ⟨x53, hg, hf⟩ := bnd hf
                            have hJ : AW p l e { frames := 3, cells := 0, slots := 0, locals := 65 } s m args below meth c G 9 Q h 0 0 465 [(0, .ref l0), (1, .ref l1), (2, .int l2), (3, .int l3), (4, .int l4), (5, .int l5), (6, .int l6), (7, .int x13)] [.int x53, .ref l0] := by
                              refine r_iload O 7 dX9_lookAt_465 rfl ?_
                              obtain ⟨h57, eh57, hf⟩ := bnd hf
                              refine r_callV (av := [.int x53, .int x13]) (st := []) O (c_X9_lookThing eh57) mf_X9_lookThing cf9 (kd_X9_lookThing eh57) ml_X9_155 mi_X9_lookThing mv_X9_lookThing (by decide) (Nat.le_of_ble_eq_true rfl) (by decide) dX9_lookAt_467 ?_
                              refine r_goto (tgt := 473) O dX9_lookAt_470 (by decide) ?_
                              obtain rfl := oi1 hf
                              refine AW.sub [0, 1, 2, 3, 4, 5, 6] rfl ?_
                              exact hJ
                            clear hf
                            have hf := hg
                            clear hg
                            by_cases hc : x52 = 0
                            · rw [if_pos hc] at hf
                              refine r_if_ne_f (tgt := 443) O dX9_lookAt_436 (by decide) hc ?_
                              refine r_iconst O (v := -1) dX9_lookAt_439 (by decide) ?_
                              refine r_goto (tgt := 465) O dX9_lookAt_440 (by decide) ?_
                              obtain rfl := oi1 hf
                              refine AW.sub [1, 2, 3, 4, 5, 6, 7, 0] rfl ?_
                              exact hJ
                            · rw [if_neg hc] at hf
                              refine r_if_ne_t (tgt := 443) O dX9_lookAt_436 (by decide) hc ?_
                              refine r_aload_n O 2 dX9_lookAt_443 rfl (Or.inl rfl) ?_
                              refine r_sipush O (v := 252) dX9_lookAt_444 (by decide) ?_
                              refine r_iload O 6 dX9_lookAt_447 rfl ?_
                              refine r_bipush O (v := 40) dX9_lookAt_449 (by decide) ?_
                              refine r_imul O dX9_lookAt_451 ?_
                              refine r_iadd O dX9_lookAt_452 ?_
                              refine r_aload_n O 2 dX9_lookAt_453 rfl (Or.inl rfl) ?_
                              refine r_sipush O (v := 492) dX9_lookAt_454 (by decide) ?_
                              refine r_iload O 6 dX9_lookAt_457 rfl ?_
                              refine r_iadd O dX9_lookAt_459 ?_
                              obtain ⟨x54, ex54, hf⟩ := bnd hf
                              refine r_ldI O ex54 dX9_lookAt_460 ?_
                              refine r_iadd O dX9_lookAt_461 ?_
                              refine r_iconst O (v := 1) dX9_lookAt_462 (by decide) ?_
                              refine r_isub O dX9_lookAt_463 ?_
                              obtain ⟨x55, ex55, hf⟩ := bnd hf
                              refine r_ldI O ex55 dX9_lookAt_464 ?_
                              obtain rfl := oi1 hf
                              refine AW.sub [1, 2, 3, 4, 5, 6, 7, 0] rfl ?_
                              exact hJ
                          · rw [if_neg hc] at hf
                            have hn427 := hc
                            have hout := tb_out (x := x15) 1 13 (fun j hj => by
                              rcases (show j = 0 ∨ j = 1 ∨ j = 2 ∨ j = 3 ∨ j = 4 ∨ j = 5 ∨ j = 6 ∨ j = 7 ∨ j = 8 ∨ j = 9 ∨ j = 10 ∨ j = 11 ∨ j = 12 by omega) with rfl | rfl | rfl | rfl | rfl | rfl | rfl | rfl | rfl | rfl | rfl | rfl | rfl
                              · exact fun q => hn152 (q.trans (by decide))
                              · exact fun q => hn191 (q.trans (by decide))
                              · exact fun q => hn209 (q.trans (by decide))
                              · exact fun q => hn236 (q.trans (by decide))
                              · exact fun q => hn279 (q.trans (by decide))
                              · exact fun q => hn295 (q.trans (by decide))
                              · exact fun q => hn311 (q.trans (by decide))
                              · exact fun q => hn326 (q.trans (by decide))
                              · exact fun q => hn347 (Or.inl (q.trans (by decide)))
                              · exact fun q => hn347 (Or.inr (Or.inl (q.trans (by decide))))
                              · exact fun q => hn347 (Or.inr (Or.inr (q.trans (by decide))))
                              · exact fun q => hn392 (q.trans (by decide))
                              · exact fun q => hn427 (q.trans (by decide)))
                            refine r_table_out (tgt := 473) O dX9_lookAt_87 hout (by decide) ?_
                            obtain rfl := oi1 hf
                            refine AW.sub [1, 2, 3, 4, 5, 6, 7] rfl ?_
                            exact hJ
theorem kd_X9_lookAt {h : AH} {a0 : Nat} {a1 : Nat} {a2 : Int32} {r : AH} (hf : f_X9_lookAt h a0 a1 a2 = some r) : aK h a0 = 9 := by
  unfold f_X9_lookAt at hf
  exact (ifk hf).1
set_option maxRecDepth 100000 in
set_option maxHeartbeats 4000000 in
theorem c_X9_lookAt {l : Launch} {G : GT} {h : AH} {a0 : Nat} {a1 : Nat} {a2 : Int32} {r : AH} (hf : f_X9_lookAt h a0 a1 a2 = some r) : Cn l yX9_lookAt cX9_lookAt 9 none 3 65 0 0 G h [.ref a0, .ref a1, .int a2] (.ok none) r := by
  refine Cn.of (by decide) (Nat.le_of_ble_eq_true rfl) ?_
  intro p e s m args below meth c O hr hx hin
  have O : OkC p l s m args meth c G cX9_lookAt 9 RX9 := O
  unfold f_X9_lookAt at hf
  obtain ⟨hk0, hf⟩ := ifk hf
  refine AW.sub (lv' := [(0, .ref a0), (1, .ref a1), (2, .int a2)]) [0, 1, 2] rfl ?_
  refine r_aload_n O 0 dX9_lookAt_0 rfl (Or.inl rfl) ?_
  refine r_iconst O (v := 0) dX9_lookAt_1 (by decide) ?_
  obtain ⟨h1, eh1, hf⟩ := bnd hf
  refine r_pI O cf9 32 (by decide) rfl fl_X9_141 rfl eh1 dX9_lookAt_2 ?_
  refine r_aload_n O 1 dX9_lookAt_5 rfl (Or.inl rfl) ?_
  refine r_iload_n O 2 dX9_lookAt_6 rfl ?_
  obtain ⟨x2, ex2, hf⟩ := bnd hf
  refine r_callS (av := [.ref a1, .int a2]) (st := []) O (c_X9_isFrozen ex2) mf_X9_isFrozen ml_X9_148 ms_X9_isFrozen (by decide) (Nat.le_of_ble_eq_true rfl) (by decide) dX9_lookAt_7 ?_
  by_cases hc : x2 = 0
  · rw [if_pos hc] at hf
    refine r_if_eq_t (tgt := 14) O dX9_lookAt_10 (by decide) hc ?_
    refine r_iload_n O 2 dX9_lookAt_14 rfl ?_
    obtain ⟨x4, ex4, hf⟩ := bnd hf
    refine r_callS (av := [.int a2]) (st := []) O (c_X9_kindOf ex4) mf_X9_kindOf ml_X9_127 ms_X9_kindOf (by decide) (Nat.le_of_ble_eq_true rfl) (by decide) dX9_lookAt_15 ?_
    refine r_istore_n O [(3, .int x4), (0, .ref a0), (1, .ref a1), (2, .int a2)] dX9_lookAt_18 (by decide) rfl ?_
    refine r_iload_n O 3 dX9_lookAt_19 rfl ?_
    obtain ⟨x6, ex6, hf⟩ := bnd hf
    refine r_callS (av := [.int a2]) (st := []) O (c_X9_ownerOf ex6) mf_X9_ownerOf ml_X9_130 ms_X9_ownerOf (by decide) (Nat.le_of_ble_eq_true rfl) (by decide) dX9_lookAt_20 ?_
    refine r_istore O [(4, .int x6), (3, .int x4), (0, .ref a0), (1, .ref a1), (2, .int a2)] dX9_lookAt_23 (by decide) rfl ?_
    refine r_iload_n O 4 dX9_lookAt_25 rfl ?_
    refine r_sipush O (v := 240) dX9_lookAt_26 (by decide) ?_
    obtain ⟨x8, hg, hf⟩ := bnd hf
    have hJ : AW p l e { frames := 3, cells := 0, slots := 0, locals := 65 } s m args below meth c G 9 (vx_MQ below (QcN G (.ok none) r) (XcN G (.ok none) r) args s 0 0 (gA G)) h1 0 0 45 [(0, .ref a0), (1, .ref a1), (2, .int a2), (3, .int x4), (4, .int x6)] [.int x8] := by
      refine r_istore O [(5, .int x8), (0, .ref a0), (1, .ref a1), (2, .int a2), (3, .int x4), (4, .int x6)] dX9_lookAt_45 (by decide) rfl ?_
      refine r_iconst O (v := 0) dX9_lookAt_47 (by decide) ?_
      refine r_istore O [(6, .int 0), (5, .int x8), (0, .ref a0), (1, .ref a1), (2, .int a2), (3, .int x4), (4, .int x6)] dX9_lookAt_48 (by decide) rfl ?_
      obtain ⟨h58, hw, hf⟩ := bnd hf
      refine AW.sub [2, 3, 4, 5, 6, 1, 0] rfl ?_
      refine s_X9_lookAt_50 O ?_ _ _ _ hw
      obtain rfl := Option.some.inj hf
      exact r_vret O hr rfl rfl (by decide) (by decide) dX9_lookAt_479
    clear hf
    have hf := hg
    clear hg
    by_cases hc : 240 ≤ a2
    · rw [if_pos hc] at hf
      refine r_icmp_ge_t (tgt := 43) O dX9_lookAt_29 (by decide) hc ?_
      refine r_iload O 0 dX9_lookAt_43 rfl ?_
      obtain rfl := oi1 hf
      refine AW.sub [2, 3, 4, 1, 0] rfl ?_
      exact hJ
    · rw [if_neg hc] at hf
      refine r_icmp_ge_f (tgt := 43) O dX9_lookAt_29 (by decide) hc ?_
      refine r_aload_n O 3 dX9_lookAt_32 rfl (Or.inl rfl) ?_
      refine r_sipush O (v := 212) dX9_lookAt_33 (by decide) ?_
      refine r_iload O 0 dX9_lookAt_36 rfl ?_
      refine r_iadd O dX9_lookAt_38 ?_
      obtain ⟨x9, ex9, hf⟩ := bnd hf
      refine r_ldI O ex9 dX9_lookAt_39 ?_
      refine r_goto (tgt := 45) O dX9_lookAt_40 (by decide) ?_
      obtain rfl := oi1 hf
      refine AW.sub [2, 3, 4, 1, 0] rfl ?_
      exact hJ
  · rw [if_neg hc] at hf
    refine r_if_eq_f (tgt := 14) O dX9_lookAt_10 (by decide) hc ?_
    obtain rfl := Option.some.inj hf
    exact r_vret O hr rfl rfl (by decide) (by decide) dX9_lookAt_13
