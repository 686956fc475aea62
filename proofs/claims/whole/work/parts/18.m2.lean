def f_X8_ownerOf (h : AH) (a0 : Int32) : Option Int32 :=
Option.bind (if 240 ≤ a0 then
some ((a0 - 240) / 3)
else
some (a0 / 6)) fun x1 =>
some x1
set_option maxRecDepth 100000 in
set_option maxHeartbeats 4000000 in
theorem c_X8_ownerOf {l : Launch} {G : GT} {h : AH} {a0 : Int32} {r : Int32} (hf : f_X8_ownerOf h a0 = some r) : Cn l yX8_ownerOf cX8_ownerOf 1 (some .int) 0 0 0 0 G h [.int a0] (.ok (some (.int r))) h := by
  refine Cn.of (by decide) (Nat.le_of_ble_eq_true rfl) ?_
  intro p e s m args below meth c O hr hx hin
  have O : OkC p l s m args meth c G cX8_ownerOf 1 RX8 := O
  unfold f_X8_ownerOf at hf
  refine AW.sub (lv' := [(0, .int a0)]) [0] rfl ?_
  refine r_iload_n O 0 dX8_ownerOf_0 rfl ?_
  refine r_sipush O (v := 240) dX8_ownerOf_1 (by decide) ?_
  obtain ⟨x1, hg, hf⟩ := bnd hf
  have hJ : AW p l e { frames := 0, cells := 0, slots := 0, locals := 0 } s m args below meth c G 1 (vx_MQ below (QcN G (.ok (some (.int r))) h) (XcN G (.ok (some (.int r))) h) args s 0 0 (gA G)) h 0 0 21 [] [.int x1] := by
    obtain rfl := Option.some.inj hf
    exact r_iret O hr rfl rfl (by decide) (by decide) dX8_ownerOf_21
  clear hf
  have hf := hg
  clear hg
  by_cases hc : 240 ≤ a0
  · rw [if_pos hc] at hf
    refine r_icmp_ge_t (tgt := 14) O dX8_ownerOf_4 (by decide) hc ?_
    refine r_iload_n O 0 dX8_ownerOf_14 rfl ?_
    refine r_sipush O (v := 240) dX8_ownerOf_15 (by decide) ?_
    refine r_isub O dX8_ownerOf_18 ?_
    refine r_iconst O (v := 3) dX8_ownerOf_19 (by decide) ?_
    refine r_idiv O dX8_ownerOf_20 (by decide) ?_
    obtain rfl := oi1 hf
    refine AW.sub [] rfl ?_
    exact hJ
  · rw [if_neg hc] at hf
    refine r_icmp_ge_f (tgt := 14) O dX8_ownerOf_4 (by decide) hc ?_
    refine r_iload_n O 0 dX8_ownerOf_7 rfl ?_
    refine r_bipush O (v := 6) dX8_ownerOf_8 (by decide) ?_
    refine r_idiv O dX8_ownerOf_10 (by decide) ?_
    refine r_goto (tgt := 21) O dX8_ownerOf_11 (by decide) ?_
    obtain rfl := oi1 hf
    refine AW.sub [] rfl ?_
    exact hJ
def f_X0_isCell (h : AH) (a0 : Nat) (a1 : Nat) (a2 : Int32) : Option Int32 :=
if aK h a0 = 0 then
Option.bind (gP h 0 a0 2) fun x1 =>
Option.bind (f_X8_kindOf h a2) fun x2 =>
Option.bind (ldI h x1 x2) fun x4 =>
if x4 = 0 then
some 0
else
Option.bind (f_X8_isOfThing h a2) fun x5 =>
Option.bind (if x5 = 0 then
Option.bind (f_X8_ownerOf h a2) fun x8 =>
Option.bind (gI h 0 a0 7) fun x10 =>
if x10 ≤ x8 then
some (0 : Int32)
else
some (1 : Int32)
else
Option.bind (gP h 4 a1 3) fun x11 =>
Option.bind (f_X8_ownerOf h a2) fun x12 =>
Option.bind (ldI h x11 x12) fun x14 =>
if x14 = (-1) then
some (0 : Int32)
else
some (1 : Int32)) fun x7 =>
Option.bind (bz x7) fun x15 =>
some x15
else none
theorem kd_X0_isCell {h : AH} {a0 : Nat} {a1 : Nat} {a2 : Int32} {r : Int32} (hf : f_X0_isCell h a0 a1 a2 = some r) : aK h a0 = 0 := by
  unfold f_X0_isCell at hf
  exact (ifk hf).1
set_option maxRecDepth 100000 in
set_option maxHeartbeats 4000000 in
theorem c_X0_isCell {l : Launch} {G : GT} {h : AH} {a0 : Nat} {a1 : Nat} {a2 : Int32} {r : Int32} (hf : f_X0_isCell h a0 a1 a2 = some r) : Cn l yX0_isCell cX0_isCell 3 (some .boolean) 1 20 0 0 G h [.ref a0, .ref a1, .int a2] (.ok (some (.int r))) h := by
  refine Cn.of (by decide) (Nat.le_of_ble_eq_true rfl) ?_
  intro p e s m args below meth c O hr hx hin
  have O : OkC p l s m args meth c G cX0_isCell 3 RX0 := O
  unfold f_X0_isCell at hf
  obtain ⟨hk0, hf⟩ := ifk hf
  refine AW.sub (lv' := [(0, .ref a0), (1, .ref a1), (2, .int a2)]) [0, 1, 2] rfl ?_
  refine r_aload_n O 0 dX0_isCell_0 rfl (Or.inl rfl) ?_
  obtain ⟨x1, ex1, hf⟩ := bnd hf
  refine r_gP O cf0 2 (by decide) rfl fl_X0_18 ex1 dX0_isCell_1 ?_
  refine r_iload_n O 2 dX0_isCell_4 rfl ?_
  obtain ⟨x2, ex2, hf⟩ := bnd hf
  refine r_callSN (av := [.int a2]) (st := [.ref x1]) O (c_X8_kindOf ex2) mf_X8_kindOf mn_X0_58 ms_X8_kindOf (by decide) (Nat.le_of_ble_eq_true rfl) (by decide) dX0_isCell_5 ?_
  obtain ⟨x4, ex4, hf⟩ := bnd hf
  refine r_ldI O ex4 dX0_isCell_8 ?_
  by_cases hc : x4 = 0
  · rw [if_pos hc] at hf
    refine r_if_ne_f (tgt := 14) O dX0_isCell_9 (by decide) hc ?_
    refine r_iconst O (v := 0) dX0_isCell_12 (by decide) ?_
    obtain rfl := Option.some.inj hf
    exact r_zret O hr (by decide) rfl rfl (by decide) (by decide) dX0_isCell_13
  · rw [if_neg hc] at hf
    refine r_if_ne_t (tgt := 14) O dX0_isCell_9 (by decide) hc ?_
    refine r_iload_n O 2 dX0_isCell_14 rfl ?_
    obtain ⟨x5, ex5, hf⟩ := bnd hf
    refine r_callSN (av := [.int a2]) (st := []) O (c_X8_isOfThing ex5) mf_X8_isOfThing mn_X0_61 ms_X8_isOfThing (by decide) (Nat.le_of_ble_eq_true rfl) (by decide) dX0_isCell_15 ?_
    obtain ⟨x7, hg, hf⟩ := bnd hf
    have hJ : AW p l e { frames := 1, cells := 0, slots := 0, locals := 20 } s m args below meth c G 3 (vx_MQ below (QcN G (.ok (some (.int r))) h) (XcN G (.ok (some (.int r))) h) args s 0 0 (gA G)) h 0 0 58 [] [.int x7] := by
      obtain ⟨x15, ex15, hf⟩ := bnd hf
      refine r_nmI (bz_eq ex15) ?_
      obtain rfl := Option.some.inj hf
      exact r_zret O hr (bz_or ex15) rfl rfl (by decide) (by decide) dX0_isCell_58
    clear hf
    have hf := hg
    clear hg
    by_cases hc : x5 = 0
    · rw [if_pos hc] at hf
      refine r_if_eq_t (tgt := 42) O dX0_isCell_18 (by decide) hc ?_
      refine r_iload_n O 2 dX0_isCell_42 rfl ?_
      obtain ⟨x8, ex8, hf⟩ := bnd hf
      refine r_callSN (av := [.int a2]) (st := []) O (c_X8_ownerOf ex8) mf_X8_ownerOf mn_X0_69 ms_X8_ownerOf (by decide) (Nat.le_of_ble_eq_true rfl) (by decide) dX0_isCell_43 ?_
      refine r_aload_n O 0 dX0_isCell_46 rfl (Or.inl rfl) ?_
      obtain ⟨x10, ex10, hf⟩ := bnd hf
      refine r_gI O cf0 7 (by decide) rfl fl_X0_72 ex10 dX0_isCell_47 ?_
      by_cases hc : x10 ≤ x8
      · rw [if_pos hc] at hf
        refine r_icmp_ge_t (tgt := 57) O dX0_isCell_50 (by decide) hc ?_
        refine r_iconst O (v := 0) dX0_isCell_57 (by decide) ?_
        obtain rfl := oi1 hf
        refine AW.sub [] rfl ?_
        exact hJ
      · rw [if_neg hc] at hf
        refine r_icmp_ge_f (tgt := 57) O dX0_isCell_50 (by decide) hc ?_
        refine r_iconst O (v := 1) dX0_isCell_53 (by decide) ?_
        refine r_goto (tgt := 58) O dX0_isCell_54 (by decide) ?_
        obtain rfl := oi1 hf
        refine AW.sub [] rfl ?_
        exact hJ
    · rw [if_neg hc] at hf
      refine r_if_eq_f (tgt := 42) O dX0_isCell_18 (by decide) hc ?_
      refine r_aload_n O 1 dX0_isCell_21 rfl (Or.inl rfl) ?_
      obtain ⟨x11, ex11, hf⟩ := bnd hf
      refine r_gP O cf4 3 (by decide) rfl fl_X0_64 ex11 dX0_isCell_22 ?_
      refine r_iload_n O 2 dX0_isCell_25 rfl ?_
      obtain ⟨x12, ex12, hf⟩ := bnd hf
      refine r_callSN (av := [.int a2]) (st := [.ref x11]) O (c_X8_ownerOf ex12) mf_X8_ownerOf mn_X0_69 ms_X8_ownerOf (by decide) (Nat.le_of_ble_eq_true rfl) (by decide) dX0_isCell_26 ?_
      obtain ⟨x14, ex14, hf⟩ := bnd hf
      refine r_ldI O ex14 dX0_isCell_29 ?_
      refine r_iconst O (v := -1) dX0_isCell_30 (by decide) ?_
      by_cases hc : x14 = (-1)
      · rw [if_pos hc] at hf
        refine r_icmp_eq_t (tgt := 38) O dX0_isCell_31 (by decide) hc ?_
        refine r_iconst O (v := 0) dX0_isCell_38 (by decide) ?_
        refine r_goto (tgt := 58) O dX0_isCell_39 (by decide) ?_
        obtain rfl := oi1 hf
        refine AW.sub [] rfl ?_
        exact hJ
      · rw [if_neg hc] at hf
        refine r_icmp_eq_f (tgt := 38) O dX0_isCell_31 (by decide) hc ?_
        refine r_iconst O (v := 1) dX0_isCell_34 (by decide) ?_
        refine r_goto (tgt := 58) O dX0_isCell_35 (by decide) ?_
        obtain rfl := oi1 hf
        refine AW.sub [] rfl ?_
        exact hJ
def f_X4_isFrozen (h : AH) (a0 : Nat) (a1 : Int32) : Option Int32 :=
if aK h a0 = 4 then
Option.bind (gP h 4 a0 3) fun x1 =>
Option.bind (ldI h x1 a1) fun x2 =>
Option.bind (if x2 = (-1) then
some (0 : Int32)
else
Option.bind (gP h 4 a0 4) fun x4 =>
Option.bind (ldI h x4 a1) fun x5 =>
Option.bind (gP h 4 a0 7) fun x6 =>
Option.bind (ldI h x6 x2) fun x7 =>
if x7 ≤ x5 then
some (0 : Int32)
else
some (1 : Int32)) fun x3 =>
Option.bind (bz x3) fun x8 =>
some x8
else none
theorem kd_X4_isFrozen {h : AH} {a0 : Nat} {a1 : Int32} {r : Int32} (hf : f_X4_isFrozen h a0 a1 = some r) : aK h a0 = 4 := by
  unfold f_X4_isFrozen at hf
  exact (ifk hf).1
set_option maxRecDepth 100000 in
set_option maxHeartbeats 4000000 in
theorem c_X4_isFrozen {l : Launch} {G : GT} {h : AH} {a0 : Nat} {a1 : Int32} {r : Int32} (hf : f_X4_isFrozen h a0 a1 = some r) : Cn l yX4_isFrozen cX4_isFrozen 3 (some .boolean) 0 0 0 0 G h [.ref a0, .int a1] (.ok (some (.int r))) h := by
  refine Cn.of (by decide) (Nat.le_of_ble_eq_true rfl) ?_
  intro p e s m args below meth c O hr hx hin
  have O : OkC p l s m args meth c G cX4_isFrozen 3 RX4 := O
  unfold f_X4_isFrozen at hf
  obtain ⟨hk0, hf⟩ := ifk hf
  refine AW.sub (lv' := [(0, .ref a0), (1, .int a1)]) [0, 1] rfl ?_
  refine r_aload_n O 0 dX4_isFrozen_0 rfl (Or.inl rfl) ?_
  obtain ⟨x1, ex1, hf⟩ := bnd hf
  refine r_gP O cf4 3 (by decide) rfl fl_X4_21 ex1 dX4_isFrozen_1 ?_
  refine r_iload_n O 1 dX4_isFrozen_4 rfl ?_
  obtain ⟨x2, ex2, hf⟩ := bnd hf
  refine r_ldI O ex2 dX4_isFrozen_5 ?_
  refine r_istore_n O [(2, .int x2), (0, .ref a0), (1, .int a1)] dX4_isFrozen_6 (by decide) rfl ?_
  refine r_iload_n O 0 dX4_isFrozen_7 rfl ?_
  refine r_iconst O (v := -1) dX4_isFrozen_8 (by decide) ?_
  obtain ⟨x3, hg, hf⟩ := bnd hf
  have hJ : AW p l e { frames := 0, cells := 0, slots := 0, locals := 0 } s m args below meth c G 3 (vx_MQ below (QcN G (.ok (some (.int r))) h) (XcN G (.ok (some (.int r))) h) args s 0 0 (gA G)) h 0 0 32 [] [.int x3] := by
    obtain ⟨x8, ex8, hf⟩ := bnd hf
    refine r_nmI (bz_eq ex8) ?_
    obtain rfl := Option.some.inj hf
    exact r_zret O hr (bz_or ex8) rfl rfl (by decide) (by decide) dX4_isFrozen_32
  clear hf
  have hf := hg
  clear hg
  by_cases hc : x2 = (-1)
  · rw [if_pos hc] at hf
    refine r_icmp_eq_t (tgt := 31) O dX4_isFrozen_9 (by decide) hc ?_
    refine r_iconst O (v := 0) dX4_isFrozen_31 (by decide) ?_
    obtain rfl := oi1 hf
    refine AW.sub [] rfl ?_
    exact hJ
  · rw [if_neg hc] at hf
    refine r_icmp_eq_f (tgt := 31) O dX4_isFrozen_9 (by decide) hc ?_
    refine r_aload_n O 1 dX4_isFrozen_12 rfl (Or.inl rfl) ?_
    obtain ⟨x4, ex4, hf⟩ := bnd hf
    refine r_gP O cf4 4 (by decide) rfl fl_X4_24 ex4 dX4_isFrozen_13 ?_
    refine r_iload_n O 2 dX4_isFrozen_16 rfl ?_
    obtain ⟨x5, ex5, hf⟩ := bnd hf
    refine r_ldI O ex5 dX4_isFrozen_17 ?_
    refine r_aload_n O 1 dX4_isFrozen_18 rfl (Or.inl rfl) ?_
    obtain ⟨x6, ex6, hf⟩ := bnd hf
    refine r_gP O cf4 7 (by decide) rfl fl_X4_33 ex6 dX4_isFrozen_19 ?_
    refine r_iload_n O 0 dX4_isFrozen_22 rfl ?_
    obtain ⟨x7, ex7, hf⟩ := bnd hf
    refine r_ldI O ex7 dX4_isFrozen_23 ?_
    by_cases hc : x7 ≤ x5
    · rw [if_pos hc] at hf
      refine r_icmp_ge_t (tgt := 31) O dX4_isFrozen_24 (by decide) hc ?_
      refine r_iconst O (v := 0) dX4_isFrozen_31 (by decide) ?_
      obtain rfl := oi1 hf
      refine AW.sub [] rfl ?_
      exact hJ
    · rw [if_neg hc] at hf
      refine r_icmp_ge_f (tgt := 31) O dX4_isFrozen_24 (by decide) hc ?_
      refine r_iconst O (v := 1) dX4_isFrozen_27 (by decide) ?_
      refine r_goto (tgt := 32) O dX4_isFrozen_28 (by decide) ?_
      obtain rfl := oi1 hf
      refine AW.sub [] rfl ?_
      exact hJ
def f_X4_isFrozenCell (h : AH) (a0 : Nat) (a1 : Int32) : Option Int32 :=
if aK h a0 = 4 then
Option.bind (f_X8_isOfThing h a1) fun x1 =>
Option.bind (if x1 = 0 then
some (0 : Int32)
else
Option.bind (f_X8_ownerOf h a1) fun x4 =>
Option.bind (f_X4_isFrozen h a0 x4) fun x6 =>
if x6 = 0 then
some (0 : Int32)
else
some (1 : Int32)) fun x3 =>
Option.bind (bz x3) fun x8 =>
some x8
else none
theorem kd_X4_isFrozenCell {h : AH} {a0 : Nat} {a1 : Int32} {r : Int32} (hf : f_X4_isFrozenCell h a0 a1 = some r) : aK h a0 = 4 := by
  unfold f_X4_isFrozenCell at hf
  exact (ifk hf).1
set_option maxRecDepth 100000 in
set_option maxHeartbeats 4000000 in
theorem c_X4_isFrozenCell {l : Launch} {G : GT} {h : AH} {a0 : Nat} {a1 : Int32} {r : Int32} (hf : f_X4_isFrozenCell h a0 a1 = some r) : Cn l yX4_isFrozenCell cX4_isFrozenCell 2 (some .boolean) 1 22 0 0 G h [.ref a0, .int a1] (.ok (some (.int r))) h := by
  refine Cn.of (by decide) (Nat.le_of_ble_eq_true rfl) ?_
  intro p e s m args below meth c O hr hx hin
  have O : OkC p l s m args meth c G cX4_isFrozenCell 2 RX4 := O
  unfold f_X4_isFrozenCell at hf
  obtain ⟨hk0, hf⟩ := ifk hf
  refine AW.sub (lv' := [(0, .ref a0), (1, .int a1)]) [0, 1] rfl ?_
  refine r_iload_n O 1 dX4_isFrozenCell_0 rfl ?_
  obtain ⟨x1, ex1, hf⟩ := bnd hf
  refine r_callSN (av := [.int a1]) (st := []) O (c_X8_isOfThing ex1) mf_X8_isOfThing mn_X4_48 ms_X8_isOfThing (by decide) (Nat.le_of_ble_eq_true rfl) (by decide) dX4_isFrozenCell_1 ?_
  obtain ⟨x3, hg, hf⟩ := bnd hf
  have hJ : AW p l e { frames := 1, cells := 0, slots := 0, locals := 22 } s m args below meth c G 2 (vx_MQ below (QcN G (.ok (some (.int r))) h) (XcN G (.ok (some (.int r))) h) args s 0 0 (gA G)) h 0 0 23 [] [.int x3] := by
    obtain ⟨x8, ex8, hf⟩ := bnd hf
    refine r_nmI (bz_eq ex8) ?_
    obtain rfl := Option.some.inj hf
    exact r_zret O hr (bz_or ex8) rfl rfl (by decide) (by decide) dX4_isFrozenCell_23
  clear hf
  have hf := hg
  clear hg
  by_cases hc : x1 = 0
  · rw [if_pos hc] at hf
    refine r_if_eq_t (tgt := 22) O dX4_isFrozenCell_4 (by decide) hc ?_
    refine r_iconst O (v := 0) dX4_isFrozenCell_22 (by decide) ?_
    obtain rfl := oi1 hf
    refine AW.sub [] rfl ?_
    exact hJ
  · rw [if_neg hc] at hf
    refine r_if_eq_f (tgt := 22) O dX4_isFrozenCell_4 (by decide) hc ?_
    refine r_aload_n O 0 dX4_isFrozenCell_7 rfl (Or.inl rfl) ?_
    refine r_iload_n O 1 dX4_isFrozenCell_8 rfl ?_
    obtain ⟨x4, ex4, hf⟩ := bnd hf
    refine r_callSN (av := [.int a1]) (st := [.ref a0]) O (c_X8_ownerOf ex4) mf_X8_ownerOf mn_X4_52 ms_X8_ownerOf (by decide) (Nat.le_of_ble_eq_true rfl) (by decide) dX4_isFrozenCell_9 ?_
    obtain ⟨x6, ex6, hf⟩ := bnd hf
    refine r_callV (av := [.int x4]) (st := []) O (c_X4_isFrozen ex6) mf_X4_isFrozen cf4 (kd_X4_isFrozen ex6) ml_X4_56 mi_X4_isFrozen mv_X4_isFrozen (by decide) (Nat.le_of_ble_eq_true rfl) (by decide) dX4_isFrozenCell_12 ?_
    by_cases hc : x6 = 0
    · rw [if_pos hc] at hf
      refine r_if_eq_t (tgt := 22) O dX4_isFrozenCell_15 (by decide) hc ?_
      refine r_iconst O (v := 0) dX4_isFrozenCell_22 (by decide) ?_
      obtain rfl := oi1 hf
      refine AW.sub [] rfl ?_
      exact hJ
    · rw [if_neg hc] at hf
      refine r_if_eq_f (tgt := 22) O dX4_isFrozenCell_15 (by decide) hc ?_
      refine r_iconst O (v := 1) dX4_isFrozenCell_18 (by decide) ?_
      refine r_goto (tgt := 23) O dX4_isFrozenCell_19 (by decide) ?_
      obtain rfl := oi1 hf
      refine AW.sub [] rfl ?_
      exact hJ
def f_X0_stepsOf (h : AH) (a0 : Nat) (a1 : Int32) : Option Int32 :=
if aK h a0 = 0 then
Option.bind (gP h 0 a0 2) fun x1 =>
Option.bind (f_X8_kindOf h a1) fun x2 =>
Option.bind (ldI h x1 x2) fun x4 =>
some x4
else none
theorem kd_X0_stepsOf {h : AH} {a0 : Nat} {a1 : Int32} {r : Int32} (hf : f_X0_stepsOf h a0 a1 = some r) : aK h a0 = 0 := by
  unfold f_X0_stepsOf at hf
  exact (ifk hf).1
set_option maxRecDepth 100000 in
set_option maxHeartbeats 4000000 in
theorem c_X0_stepsOf {l : Launch} {G : GT} {h : AH} {a0 : Nat} {a1 : Int32} {r : Int32} (hf : f_X0_stepsOf h a0 a1 = some r) : Cn l yX0_stepsOf cX0_stepsOf 2 (some .int) 1 20 0 0 G h [.ref a0, .int a1] (.ok (some (.int r))) h := by
  refine Cn.of (by decide) (Nat.le_of_ble_eq_true rfl) ?_
  intro p e s m args below meth c O hr hx hin
  have O : OkC p l s m args meth c G cX0_stepsOf 2 RX0 := O
  unfold f_X0_stepsOf at hf
  obtain ⟨hk0, hf⟩ := ifk hf
  refine AW.sub (lv' := [(0, .ref a0), (1, .int a1)]) [0, 1] rfl ?_
  refine r_aload_n O 0 dX0_stepsOf_0 rfl (Or.inl rfl) ?_
  obtain ⟨x1, ex1, hf⟩ := bnd hf
  refine r_gP O cf0 2 (by decide) rfl fl_X0_18 ex1 dX0_stepsOf_1 ?_
  refine r_iload_n O 1 dX0_stepsOf_4 rfl ?_
  obtain ⟨x2, ex2, hf⟩ := bnd hf
  refine r_callSN (av := [.int a1]) (st := [.ref x1]) O (c_X8_kindOf ex2) mf_X8_kindOf mn_X0_58 ms_X8_kindOf (by decide) (Nat.le_of_ble_eq_true rfl) (by decide) dX0_stepsOf_5 ?_
  obtain ⟨x4, ex4, hf⟩ := bnd hf
  refine r_ldI O ex4 dX0_stepsOf_8 ?_
  obtain rfl := Option.some.inj hf
  exact r_iret O hr rfl rfl (by decide) (by decide) dX0_stepsOf_9
def f_X0_codeOf (h : AH) (a0 : Nat) (a1 : Int32) (a2 : Int32) : Option Int32 :=
if aK h a0 = 0 then
Option.bind (gP h 0 a0 0) fun x1 =>
Option.bind (f_X8_kindOf h a1) fun x2 =>
Option.bind (ldI h x1 ((24 * x2) + a2)) fun x4 =>
some x4
else none
theorem kd_X0_codeOf {h : AH} {a0 : Nat} {a1 : Int32} {a2 : Int32} {r : Int32} (hf : f_X0_codeOf h a0 a1 a2 = some r) : aK h a0 = 0 := by
  unfold f_X0_codeOf at hf
  exact (ifk hf).1
set_option maxRecDepth 100000 in
set_option maxHeartbeats 4000000 in
theorem c_X0_codeOf {l : Launch} {G : GT} {h : AH} {a0 : Nat} {a1 : Int32} {a2 : Int32} {r : Int32} (hf : f_X0_codeOf h a0 a1 a2 = some r) : Cn l yX0_codeOf cX0_codeOf 3 (some .int) 1 20 0 0 G h [.ref a0, .int a1, .int a2] (.ok (some (.int r))) h := by
  refine Cn.of (by decide) (Nat.le_of_ble_eq_true rfl) ?_
  intro p e s m args below meth c O hr hx hin
  have O : OkC p l s m args meth c G cX0_codeOf 3 RX0 := O
  unfold f_X0_codeOf at hf
  obtain ⟨hk0, hf⟩ := ifk hf
  refine AW.sub (lv' := [(0, .ref a0), (1, .int a1), (2, .int a2)]) [0, 1, 2] rfl ?_
  refine r_aload_n O 0 dX0_codeOf_0 rfl (Or.inl rfl) ?_
  obtain ⟨x1, ex1, hf⟩ := bnd hf
  refine r_gP O cf0 0 (by decide) rfl fl_X0_9 ex1 dX0_codeOf_1 ?_
  refine r_bipush O (v := 24) dX0_codeOf_4 (by decide) ?_
  refine r_iload_n O 1 dX0_codeOf_6 rfl ?_
  obtain ⟨x2, ex2, hf⟩ := bnd hf
  refine r_callSN (av := [.int a1]) (st := [.int 24, .ref x1]) O (c_X8_kindOf ex2) mf_X8_kindOf mn_X0_58 ms_X8_kindOf (by decide) (Nat.le_of_ble_eq_true rfl) (by decide) dX0_codeOf_7 ?_
  refine r_imul O dX0_codeOf_10 ?_
  refine r_iload_n O 2 dX0_codeOf_11 rfl ?_
  refine r_iadd O dX0_codeOf_12 ?_
  obtain ⟨x4, ex4, hf⟩ := bnd hf
  refine r_ldI O ex4 dX0_codeOf_13 ?_
  obtain rfl := Option.some.inj hf
  exact r_iret O hr rfl rfl (by decide) (by decide) dX0_codeOf_14
def f_X0_valueOf (h : AH) (a0 : Nat) (a1 : Int32) (a2 : Int32) : Option Int32 :=
if aK h a0 = 0 then
Option.bind (gP h 0 a0 1) fun x1 =>
Option.bind (f_X8_kindOf h a1) fun x2 =>
Option.bind (ldI h x1 ((24 * x2) + a2)) fun x4 =>
some x4
else none
theorem kd_X0_valueOf {h : AH} {a0 : Nat} {a1 : Int32} {a2 : Int32} {r : Int32} (hf : f_X0_valueOf h a0 a1 a2 = some r) : aK h a0 = 0 := by
  unfold f_X0_valueOf at hf
  exact (ifk hf).1
set_option maxRecDepth 100000 in
set_option maxHeartbeats 4000000 in
theorem c_X0_valueOf {l : Launch} {G : GT} {h : AH} {a0 : Nat} {a1 : Int32} {a2 : Int32} {r : Int32} (hf : f_X0_valueOf h a0 a1 a2 = some r) : Cn l yX0_valueOf cX0_valueOf 3 (some .int) 1 20 0 0 G h [.ref a0, .int a1, .int a2] (.ok (some (.int r))) h := by
  refine Cn.of (by decide) (Nat.le_of_ble_eq_true rfl) ?_
  intro p e s m args below meth c O hr hx hin
  have O : OkC p l s m args meth c G cX0_valueOf 3 RX0 := O
  unfold f_X0_valueOf at hf
  obtain ⟨hk0, hf⟩ := ifk hf
  refine AW.sub (lv' := [(0, .ref a0), (1, .int a1), (2, .int a2)]) [0, 1, 2] rfl ?_
  refine r_aload_n O 0 dX0_valueOf_0 rfl (Or.inl rfl) ?_
  obtain ⟨x1, ex1, hf⟩ := bnd hf
  refine r_gP O cf0 1 (by decide) rfl fl_X0_15 ex1 dX0_valueOf_1 ?_
  refine r_bipush O (v := 24) dX0_valueOf_4 (by decide) ?_
  refine r_iload_n O 1 dX0_valueOf_6 rfl ?_
  obtain ⟨x2, ex2, hf⟩ := bnd hf
  refine r_callSN (av := [.int a1]) (st := [.int 24, .ref x1]) O (c_X8_kindOf ex2) mf_X8_kindOf mn_X0_58 ms_X8_kindOf (by decide) (Nat.le_of_ble_eq_true rfl) (by decide) dX0_valueOf_7 ?_
  refine r_imul O dX0_valueOf_10 ?_
  refine r_iload_n O 2 dX0_valueOf_11 rfl ?_
  refine r_iadd O dX0_valueOf_12 ?_
  obtain ⟨x4, ex4, hf⟩ := bnd hf
  refine r_ldI O ex4 dX0_valueOf_13 ?_
  obtain rfl := Option.some.inj hf
  exact r_iret O hr rfl rfl (by decide) (by decide) dX0_valueOf_14
def f_X8_isOverAll (h : AH) (a0 : Int32) : Option Int32 :=
Option.bind (if a0 = 9 then
some (1 : Int32)
else
if a0 = 10 then
some (1 : Int32)
else
if a0 = 11 then
some (1 : Int32)
else
some (0 : Int32)) fun x1 =>
Option.bind (bz x1) fun x2 =>
some x2
set_option maxRecDepth 100000 in
set_option maxHeartbeats 4000000 in
theorem c_X8_isOverAll {l : Launch} {G : GT} {h : AH} {a0 : Int32} {r : Int32} (hf : f_X8_isOverAll h a0 = some r) : Cn l yX8_isOverAll cX8_isOverAll 1 (some .boolean) 0 0 0 0 G h [.int a0] (.ok (some (.int r))) h := by
  refine Cn.of (by decide) (Nat.le_of_ble_eq_true rfl) ?_
  intro p e s m args below meth c O hr hx hin
  have O : OkC p l s m args meth c G cX8_isOverAll 1 RX8 := O
  unfold f_X8_isOverAll at hf
  refine AW.sub (lv' := [(0, .int a0)]) [0] rfl ?_
  refine r_iload_n O 0 dX8_isOverAll_0 rfl ?_
  refine r_bipush O (v := 9) dX8_isOverAll_1 (by decide) ?_
  obtain ⟨x1, hg, hf⟩ := bnd hf
  have hJ : AW p l e { frames := 0, cells := 0, slots := 0, locals := 0 } s m args below meth c G 1 (vx_MQ below (QcN G (.ok (some (.int r))) h) (XcN G (.ok (some (.int r))) h) args s 0 0 (gA G)) h 0 0 23 [] [.int x1] := by
    obtain ⟨x2, ex2, hf⟩ := bnd hf
    refine r_nmI (bz_eq ex2) ?_
    obtain rfl := Option.some.inj hf
    exact r_zret O hr (bz_or ex2) rfl rfl (by decide) (by decide) dX8_isOverAll_23
  clear hf
  have hf := hg
  clear hg
  by_cases hc : a0 = 9
  · rw [if_pos hc] at hf
    refine r_icmp_eq_t (tgt := 18) O dX8_isOverAll_3 (by decide) hc ?_
    refine r_iconst O (v := 1) dX8_isOverAll_18 (by decide) ?_
    refine r_goto (tgt := 23) O dX8_isOverAll_19 (by decide) ?_
    obtain rfl := oi1 hf
    refine AW.sub [] rfl ?_
    exact hJ
  · rw [if_neg hc] at hf
    refine r_icmp_eq_f (tgt := 18) O dX8_isOverAll_3 (by decide) hc ?_
    refine r_iload_n O 0 dX8_isOverAll_6 rfl ?_
    refine r_bipush O (v := 10) dX8_isOverAll_7 (by decide) ?_
    by_cases hc : a0 = 10
    · rw [if_pos hc] at hf
      refine r_icmp_eq_t (tgt := 18) O dX8_isOverAll_9 (by decide) hc ?_
      refine r_iconst O (v := 1) dX8_isOverAll_18 (by decide) ?_
      refine r_goto (tgt := 23) O dX8_isOverAll_19 (by decide) ?_
      obtain rfl := oi1 hf
      refine AW.sub [] rfl ?_
      exact hJ
    · rw [if_neg hc] at hf
      refine r_icmp_eq_f (tgt := 18) O dX8_isOverAll_9 (by decide) hc ?_
      refine r_iload_n O 0 dX8_isOverAll_12 rfl ?_
      refine r_bipush O (v := 11) dX8_isOverAll_13 (by decide) ?_
      by_cases hc : a0 = 11
      · rw [if_pos hc] at hf
        refine r_icmp_ne_f (tgt := 22) O dX8_isOverAll_15 (by decide) hc ?_
        refine r_iconst O (v := 1) dX8_isOverAll_18 (by decide) ?_
        refine r_goto (tgt := 23) O dX8_isOverAll_19 (by decide) ?_
        obtain rfl := oi1 hf
        refine AW.sub [] rfl ?_
        exact hJ
      · rw [if_neg hc] at hf
        refine r_icmp_ne_t (tgt := 22) O dX8_isOverAll_15 (by decide) hc ?_
        refine r_iconst O (v := 0) dX8_isOverAll_22 (by decide) ?_
        obtain rfl := oi1 hf
        refine AW.sub [] rfl ?_
        exact hJ
def f_X4_listOf (h : AH) (a0 : Nat) (a1 : Int32) : Option Int32 :=
if aK h a0 = 4 then
Option.bind (f_X8_isOfThing h a1) fun x1 =>
Option.bind (if x1 = 0 then
Option.bind (f_X8_ownerOf h a1) fun x4 =>
some x4
else
Option.bind (gP h 4 a0 3) fun x6 =>
Option.bind (f_X8_ownerOf h a1) fun x7 =>
Option.bind (ldI h x6 x7) fun x9 =>
some x9) fun x3 =>
some x3
else none
theorem kd_X4_listOf {h : AH} {a0 : Nat} {a1 : Int32} {r : Int32} (hf : f_X4_listOf h a0 a1 = some r) : aK h a0 = 4 := by
  unfold f_X4_listOf at hf
  exact (ifk hf).1
set_option maxRecDepth 100000 in
set_option maxHeartbeats 4000000 in
theorem c_X4_listOf {l : Launch} {G : GT} {h : AH} {a0 : Nat} {a1 : Int32} {r : Int32} (hf : f_X4_listOf h a0 a1 = some r) : Cn l yX4_listOf cX4_listOf 2 (some .int) 1 20 0 0 G h [.ref a0, .int a1] (.ok (some (.int r))) h := by
  refine Cn.of (by decide) (Nat.le_of_ble_eq_true rfl) ?_
  intro p e s m args below meth c O hr hx hin
  have O : OkC p l s m args meth c G cX4_listOf 2 RX4 := O
  unfold f_X4_listOf at hf
  obtain ⟨hk0, hf⟩ := ifk hf
  refine AW.sub (lv' := [(0, .ref a0), (1, .int a1)]) [0, 1] rfl ?_
  refine r_iload_n O 1 dX4_listOf_0 rfl ?_
  obtain ⟨x1, ex1, hf⟩ := bnd hf
  refine r_callSN (av := [.int a1]) (st := []) O (c_X8_isOfThing ex1) mf_X8_isOfThing mn_X4_48 ms_X8_isOfThing (by decide) (Nat.le_of_ble_eq_true rfl) (by decide) dX4_listOf_1 ?_
  obtain ⟨x3, hg, hf⟩ := bnd hf
  have hJ : AW p l e { frames := 1, cells := 0, slots := 0, locals := 20 } s m args below meth c G 2 (vx_MQ below (QcN G (.ok (some (.int r))) h) (XcN G (.ok (some (.int r))) h) args s 0 0 (gA G)) h 0 0 23 [] [.int x3] := by
    obtain rfl := Option.some.inj hf
    exact r_iret O hr rfl rfl (by decide) (by decide) dX4_listOf_23
  clear hf
  have hf := hg
  clear hg
  by_cases hc : x1 = 0
  · rw [if_pos hc] at hf
    refine r_if_eq_t (tgt := 19) O dX4_listOf_4 (by decide) hc ?_
    refine r_iload_n O 1 dX4_listOf_19 rfl ?_
    obtain ⟨x4, ex4, hf⟩ := bnd hf
    refine r_callSN (av := [.int a1]) (st := []) O (c_X8_ownerOf ex4) mf_X8_ownerOf mn_X4_52 ms_X8_ownerOf (by decide) (Nat.le_of_ble_eq_true rfl) (by decide) dX4_listOf_20 ?_
    obtain rfl := oi1 hf
    refine AW.sub [] rfl ?_
    exact hJ
  · rw [if_neg hc] at hf
    refine r_if_eq_f (tgt := 19) O dX4_listOf_4 (by decide) hc ?_
    refine r_aload_n O 0 dX4_listOf_7 rfl (Or.inl rfl) ?_
    obtain ⟨x6, ex6, hf⟩ := bnd hf
    refine r_gP O cf4 3 (by decide) rfl fl_X4_21 ex6 dX4_listOf_8 ?_
    refine r_iload_n O 1 dX4_listOf_11 rfl ?_
    obtain ⟨x7, ex7, hf⟩ := bnd hf
    refine r_callSN (av := [.int a1]) (st := [.ref x6]) O (c_X8_ownerOf ex7) mf_X8_ownerOf mn_X4_52 ms_X8_ownerOf (by decide) (Nat.le_of_ble_eq_true rfl) (by decide) dX4_listOf_12 ?_
    obtain ⟨x9, ex9, hf⟩ := bnd hf
    refine r_ldI O ex9 dX4_listOf_15 ?_
    refine r_goto (tgt := 23) O dX4_listOf_16 (by decide) ?_
    obtain rfl := oi1 hf
    refine AW.sub [] rfl ?_
    exact hJ
def f_X4_standsAt (h : AH) (a0 : Nat) (a1 : Int32) (a2 : Int32) : Option Int32 :=
if aK h a0 = 4 then
Option.bind (if a2 < 0 then
some ((-1) : Int32)
else
Option.bind (gP h 4 a0 6) fun x2 =>
Option.bind (ldI h x2 a1) fun x3 =>
if a2 < x3 then
Option.bind (gP h 4 a0 5) fun x4 =>
Option.bind (ldI h x4 ((40 * a1) + a2)) fun x5 =>
some x5
else
some ((-1) : Int32)) fun x1 =>
some x1
else none
theorem kd_X4_standsAt {h : AH} {a0 : Nat} {a1 : Int32} {a2 : Int32} {r : Int32} (hf : f_X4_standsAt h a0 a1 a2 = some r) : aK h a0 = 4 := by
  unfold f_X4_standsAt at hf
  exact (ifk hf).1
set_option maxRecDepth 100000 in
set_option maxHeartbeats 4000000 in
theorem c_X4_standsAt {l : Launch} {G : GT} {h : AH} {a0 : Nat} {a1 : Int32} {a2 : Int32} {r : Int32} (hf : f_X4_standsAt h a0 a1 a2 = some r) : Cn l yX4_standsAt cX4_standsAt 3 (some .int) 0 0 0 0 G h [.ref a0, .int a1, .int a2] (.ok (some (.int r))) h := by
  refine Cn.of (by decide) (Nat.le_of_ble_eq_true rfl) ?_
  intro p e s m args below meth c O hr hx hin
  have O : OkC p l s m args meth c G cX4_standsAt 3 RX4 := O
  unfold f_X4_standsAt at hf
  obtain ⟨hk0, hf⟩ := ifk hf
  refine AW.sub (lv' := [(0, .ref a0), (1, .int a1), (2, .int a2)]) [0, 1, 2] rfl ?_
  refine r_iload_n O 2 dX4_standsAt_0 rfl ?_
  obtain ⟨x1, hg, hf⟩ := bnd hf
  have hJ : AW p l e { frames := 0, cells := 0, slots := 0, locals := 0 } s m args below meth c G 3 (vx_MQ below (QcN G (.ok (some (.int r))) h) (XcN G (.ok (some (.int r))) h) args s 0 0 (gA G)) h 0 0 29 [] [.int x1] := by
    obtain rfl := Option.some.inj hf
    exact r_iret O hr rfl rfl (by decide) (by decide) dX4_standsAt_29
  clear hf
  have hf := hg
  clear hg
  by_cases hc : a2 < 0
  · rw [if_pos hc] at hf
    refine r_if_lt_t (tgt := 14) O dX4_standsAt_1 (by decide) hc ?_
    refine r_iconst O (v := -1) dX4_standsAt_14 (by decide) ?_
    refine r_goto (tgt := 29) O dX4_standsAt_15 (by decide) ?_
    obtain rfl := oi1 hf
    refine AW.sub [] rfl ?_
    exact hJ
  · rw [if_neg hc] at hf
    refine r_if_lt_f (tgt := 14) O dX4_standsAt_1 (by decide) hc ?_
    refine r_iload_n O 2 dX4_standsAt_4 rfl ?_
    refine r_aload_n O 0 dX4_standsAt_5 rfl (Or.inl rfl) ?_
    obtain ⟨x2, ex2, hf⟩ := bnd hf
    refine r_gP O cf4 6 (by decide) rfl fl_X4_30 ex2 dX4_standsAt_6 ?_
    refine r_iload_n O 1 dX4_standsAt_9 rfl ?_
    obtain ⟨x3, ex3, hf⟩ := bnd hf
    refine r_ldI O ex3 dX4_standsAt_10 ?_
    by_cases hc : a2 < x3
    · rw [if_pos hc] at hf
      refine r_icmp_lt_t (tgt := 18) O dX4_standsAt_11 (by decide) hc ?_
      refine r_aload_n O 0 dX4_standsAt_18 rfl (Or.inl rfl) ?_
      obtain ⟨x4, ex4, hf⟩ := bnd hf
      refine r_gP O cf4 5 (by decide) rfl fl_X4_27 ex4 dX4_standsAt_19 ?_
      refine r_bipush O (v := 40) dX4_standsAt_22 (by decide) ?_
      refine r_iload_n O 1 dX4_standsAt_24 rfl ?_
      refine r_imul O dX4_standsAt_25 ?_
      refine r_iload_n O 2 dX4_standsAt_26 rfl ?_
      refine r_iadd O dX4_standsAt_27 ?_
      obtain ⟨x5, ex5, hf⟩ := bnd hf
      refine r_ldI O ex5 dX4_standsAt_28 ?_
      obtain rfl := oi1 hf
      refine AW.sub [] rfl ?_
      exact hJ
    · rw [if_neg hc] at hf
      refine r_icmp_lt_f (tgt := 18) O dX4_standsAt_11 (by decide) hc ?_
      refine r_iconst O (v := -1) dX4_standsAt_14 (by decide) ?_
      refine r_goto (tgt := 29) O dX4_standsAt_15 (by decide) ?_
      obtain rfl := oi1 hf
      refine AW.sub [] rfl ?_
      exact hJ
def f_X8_shadowOf (h : AH) (a0 : Int32) (a1 : Int32) : Option Int32 :=
some ((6 * a0) + a1)
set_option maxRecDepth 100000 in
set_option maxHeartbeats 4000000 in
theorem c_X8_shadowOf {l : Launch} {G : GT} {h : AH} {a0 : Int32} {a1 : Int32} {r : Int32} (hf : f_X8_shadowOf h a0 a1 = some r) : Cn l yX8_shadowOf cX8_shadowOf 2 (some .int) 0 0 0 0 G h [.int a0, .int a1] (.ok (some (.int r))) h := by
  refine Cn.of (by decide) (Nat.le_of_ble_eq_true rfl) ?_
  intro p e s m args below meth c O hr hx hin
  have O : OkC p l s m args meth c G cX8_shadowOf 2 RX8 := O
  unfold f_X8_shadowOf at hf
  refine AW.sub (lv' := [(0, .int a0), (1, .int a1)]) [0, 1] rfl ?_
  refine r_bipush O (v := 6) dX8_shadowOf_0 (by decide) ?_
  refine r_iload_n O 0 dX8_shadowOf_2 rfl ?_
  refine r_imul O dX8_shadowOf_3 ?_
  refine r_iload_n O 1 dX8_shadowOf_4 rfl ?_
  refine r_iadd O dX8_shadowOf_5 ?_
  obtain rfl := Option.some.inj hf
  exact r_iret O hr rfl rfl (by decide) (by decide) dX8_shadowOf_6
def f_X5_bitOf (h : AH) (a0 : Int32) : Option Int64 :=
some (1 <<< ((a0 - a0 / 64 * 64).toInt64 &&& 63))
set_option maxRecDepth 100000 in
set_option maxHeartbeats 4000000 in
theorem c_X5_bitOf {l : Launch} {G : GT} {h : AH} {a0 : Int32} {r : Int64} (hf : f_X5_bitOf h a0 = some r) : Cn l yX5_bitOf cX5_bitOf 1 (some .long) 0 0 0 0 G h [.int a0] (.ok (some (.long r))) h := by
  refine Cn.of (by decide) (Nat.le_of_ble_eq_true rfl) ?_
  intro p e s m args below meth c O hr hx hin
  have O : OkC p l s m args meth c G cX5_bitOf 1 RX5 := O
  unfold f_X5_bitOf at hf
  refine AW.sub (lv' := [(0, .int a0)]) [0] rfl ?_
  refine r_lconst O (v := 1) dX5_bitOf_0 (by decide) ?_
  refine r_iload_n O 0 dX5_bitOf_1 rfl ?_
  refine r_bipush O (v := 64) dX5_bitOf_2 (by decide) ?_
  refine r_irem O dX5_bitOf_4 (by decide) ?_
  refine r_lshl O dX5_bitOf_5 ?_
  obtain rfl := Option.some.inj hf
  exact r_lret O hr rfl rfl (by decide) (by decide) dX5_bitOf_6
def f_X5_addRead (h : AH) (a0 : Nat) (a1 : Int32) (a2 : Int32) : Option AH :=
if aK h a0 = 5 then
Option.bind (if a2 = (-1) then
some h
else
Option.bind (gP h 5 a0 0) fun x2 =>
Option.bind (gP h 5 a0 12) fun x3 =>
Option.bind (f_X0_isCell h x2 x3 a2) fun x4 =>
if x4 = 0 then
some h
else
Option.bind (gP h 5 a0 1) fun x6 =>
Option.bind (ldJ h x6 ((5 * a1) + (a2 / 64))) fun x7 =>
Option.bind (f_X5_bitOf h a2) fun x8 =>
Option.bind (stJ h x6 ((5 * a1) + (a2 / 64)) (x7 ||| x8)) fun h10 =>
some h10) fun h1 =>
some h1
else none
theorem kd_X5_addRead {h : AH} {a0 : Nat} {a1 : Int32} {a2 : Int32} {r : AH} (hf : f_X5_addRead h a0 a1 a2 = some r) : aK h a0 = 5 := by
  unfold f_X5_addRead at hf
  exact (ifk hf).1
set_option maxRecDepth 100000 in
set_option maxHeartbeats 4000000 in
theorem c_X5_addRead {l : Launch} {G : GT} {h : AH} {a0 : Nat} {a1 : Int32} {a2 : Int32} {r : AH} (hf : f_X5_addRead h a0 a1 a2 = some r) : Cn l yX5_addRead cX5_addRead 3 none 2 42 0 0 G h [.ref a0, .int a1, .int a2] (.ok none) r := by
  refine Cn.of (by decide) (Nat.le_of_ble_eq_true rfl) ?_
  intro p e s m args below meth c O hr hx hin
  have O : OkC p l s m args meth c G cX5_addRead 3 RX5 := O
  unfold f_X5_addRead at hf
  obtain ⟨hk0, hf⟩ := ifk hf
  refine AW.sub (lv' := [(0, .ref a0), (1, .int a1), (2, .int a2)]) [0, 1, 2] rfl ?_
  refine r_iload_n O 2 dX5_addRead_0 rfl ?_
  refine r_iconst O (v := -1) dX5_addRead_1 (by decide) ?_
  obtain ⟨h1, hg, hf⟩ := bnd hf
  have hJ : AW p l e { frames := 2, cells := 0, slots := 0, locals := 42 } s m args below meth c G 3 (vx_MQ below (QcN G (.ok none) r) (XcN G (.ok none) r) args s 0 0 (gA G)) h1 0 0 40 [] [] := by
    obtain rfl := Option.some.inj hf
    exact r_vret O hr rfl rfl (by decide) (by decide) dX5_addRead_40
  clear hf
  have hf := hg
  clear hg
  by_cases hc : a2 = (-1)
  · rw [if_pos hc] at hf
    refine r_icmp_eq_t (tgt := 40) O dX5_addRead_2 (by decide) hc ?_
    obtain rfl := oi1 hf
    refine AW.sub [] rfl ?_
    exact hJ
  · rw [if_neg hc] at hf
    refine r_icmp_eq_f (tgt := 40) O dX5_addRead_2 (by decide) hc ?_
    refine r_aload_n O 0 dX5_addRead_5 rfl (Or.inl rfl) ?_
    obtain ⟨x2, ex2, hf⟩ := bnd hf
    refine r_gP O cf5 0 (by decide) rfl fl_X5_50 ex2 dX5_addRead_6 ?_
    refine r_aload_n O 0 dX5_addRead_9 rfl (Or.inl rfl) ?_
    obtain ⟨x3, ex3, hf⟩ := bnd hf
    refine r_gP O cf5 12 (by decide) rfl fl_X5_54 ex3 dX5_addRead_10 ?_
    refine r_iload_n O 2 dX5_addRead_13 rfl ?_
    obtain ⟨x4, ex4, hf⟩ := bnd hf
    refine r_callV (av := [.ref x3, .int a2]) (st := []) O (c_X0_isCell ex4) mf_X0_isCell cf0 (kd_X0_isCell ex4) ml_X5_74 mi_X0_isCell mv_X0_isCell (by decide) (Nat.le_of_ble_eq_true rfl) (by decide) dX5_addRead_14 ?_
    by_cases hc : x4 = 0
    · rw [if_pos hc] at hf
      refine r_if_eq_t (tgt := 40) O dX5_addRead_17 (by decide) hc ?_
      obtain rfl := oi1 hf
      refine AW.sub [] rfl ?_
      exact hJ
    · rw [if_neg hc] at hf
      refine r_if_eq_f (tgt := 40) O dX5_addRead_17 (by decide) hc ?_
      refine r_aload_n O 0 dX5_addRead_20 rfl (Or.inl rfl) ?_
      obtain ⟨x6, ex6, hf⟩ := bnd hf
      refine r_gP O cf5 1 (by decide) rfl fl_X5_9 ex6 dX5_addRead_21 ?_
      refine r_iconst O (v := 5) dX5_addRead_24 (by decide) ?_
      refine r_iload_n O 1 dX5_addRead_25 rfl ?_
      refine r_imul O dX5_addRead_26 ?_
      refine r_iload_n O 2 dX5_addRead_27 rfl ?_
      refine r_bipush O (v := 64) dX5_addRead_28 (by decide) ?_
      refine r_idiv O dX5_addRead_30 (by decide) ?_
      refine r_iadd O dX5_addRead_31 ?_
      refine r_dup2 O dX5_addRead_32 rfl rfl ?_
      obtain ⟨x7, ex7, hf⟩ := bnd hf
      refine r_ldJ O ex7 dX5_addRead_33 ?_
      refine r_iload_n O 2 dX5_addRead_34 rfl ?_
      obtain ⟨x8, ex8, hf⟩ := bnd hf
      refine r_callS (av := [.int a2]) (st := [.long x7, .int ((5 * a1) + (a2 / 64)), .ref x6]) O (c_X5_bitOf ex8) mf_X5_bitOf ml_X5_137 ms_X5_bitOf (by decide) (Nat.le_of_ble_eq_true rfl) (by decide) dX5_addRead_35 ?_
      refine r_lor O dX5_addRead_38 ?_
      obtain ⟨h10, eh10, hf⟩ := bnd hf
      refine r_stJ O eh10 dX5_addRead_39 ?_
      obtain rfl := oi1 hf
      refine AW.sub [] rfl ?_
      exact hJ
def f_X8_isOverOne (h : AH) (a0 : Int32) : Option Int32 :=
Option.bind (if a0 < 4 then
some (0 : Int32)
else
if 13 < a0 then
some (0 : Int32)
else
Option.bind (f_X8_isOverAll h a0) fun x2 =>
if x2 = 0 then
some (1 : Int32)
else
some (0 : Int32)) fun x1 =>
Option.bind (bz x1) fun x4 =>
some x4
set_option maxRecDepth 100000 in
set_option maxHeartbeats 4000000 in
theorem c_X8_isOverOne {l : Launch} {G : GT} {h : AH} {a0 : Int32} {r : Int32} (hf : f_X8_isOverOne h a0 = some r) : Cn l yX8_isOverOne cX8_isOverOne 1 (some .boolean) 1 20 0 0 G h [.int a0] (.ok (some (.int r))) h := by
  refine Cn.of (by decide) (Nat.le_of_ble_eq_true rfl) ?_
  intro p e s m args below meth c O hr hx hin
  have O : OkC p l s m args meth c G cX8_isOverOne 1 RX8 := O
  unfold f_X8_isOverOne at hf
  refine AW.sub (lv' := [(0, .int a0)]) [0] rfl ?_
  refine r_iload_n O 0 dX8_isOverOne_0 rfl ?_
  refine r_iconst O (v := 4) dX8_isOverOne_1 (by decide) ?_
  obtain ⟨x1, hg, hf⟩ := bnd hf
  have hJ : AW p l e { frames := 1, cells := 0, slots := 0, locals := 20 } s m args below meth c G 1 (vx_MQ below (QcN G (.ok (some (.int r))) h) (XcN G (.ok (some (.int r))) h) args s 0 0 (gA G)) h 0 0 23 [] [.int x1] := by
    obtain ⟨x4, ex4, hf⟩ := bnd hf
    refine r_nmI (bz_eq ex4) ?_
    obtain rfl := Option.some.inj hf
    exact r_zret O hr (bz_or ex4) rfl rfl (by decide) (by decide) dX8_isOverOne_23
  clear hf
  have hf := hg
  clear hg
  by_cases hc : a0 < 4
  · rw [if_pos hc] at hf
    refine r_icmp_lt_t (tgt := 22) O dX8_isOverOne_2 (by decide) hc ?_
    refine r_iconst O (v := 0) dX8_isOverOne_22 (by decide) ?_
    obtain rfl := oi1 hf
    refine AW.sub [] rfl ?_
    exact hJ
  · rw [if_neg hc] at hf
    refine r_icmp_lt_f (tgt := 22) O dX8_isOverOne_2 (by decide) hc ?_
    refine r_iload_n O 0 dX8_isOverOne_5 rfl ?_
    refine r_bipush O (v := 13) dX8_isOverOne_6 (by decide) ?_
    by_cases hc : 13 < a0
    · rw [if_pos hc] at hf
      refine r_icmp_gt_t (tgt := 22) O dX8_isOverOne_8 (by decide) hc ?_
      refine r_iconst O (v := 0) dX8_isOverOne_22 (by decide) ?_
      obtain rfl := oi1 hf
      refine AW.sub [] rfl ?_
      exact hJ
    · rw [if_neg hc] at hf
      refine r_icmp_gt_f (tgt := 22) O dX8_isOverOne_8 (by decide) hc ?_
      refine r_iload_n O 0 dX8_isOverOne_11 rfl ?_
      obtain ⟨x2, ex2, hf⟩ := bnd hf
      refine r_callS (av := [.int a0]) (st := []) O (c_X8_isOverAll ex2) mf_X8_isOverAll ml_X8_298 ms_X8_isOverAll (by decide) (Nat.le_of_ble_eq_true rfl) (by decide) dX8_isOverOne_12 ?_
      by_cases hc : x2 = 0
      · rw [if_pos hc] at hf
        refine r_if_ne_f (tgt := 22) O dX8_isOverOne_15 (by decide) hc ?_
        refine r_iconst O (v := 1) dX8_isOverOne_18 (by decide) ?_
        refine r_goto (tgt := 23) O dX8_isOverOne_19 (by decide) ?_
        obtain rfl := oi1 hf
        refine AW.sub [] rfl ?_
        exact hJ
      · rw [if_neg hc] at hf
        refine r_if_ne_t (tgt := 22) O dX8_isOverOne_15 (by decide) hc ?_
        refine r_iconst O (v := 0) dX8_isOverOne_22 (by decide) ?_
        obtain rfl := oi1 hf
        refine AW.sub [] rfl ?_
        exact hJ
def f_X8_shadowOfList (h : AH) (a0 : Int32) (a1 : Int32) : Option Int32 :=
some (((240 + (3 * a0)) + a1) - 6)
set_option maxRecDepth 100000 in
set_option maxHeartbeats 4000000 in
theorem c_X8_shadowOfList {l : Launch} {G : GT} {h : AH} {a0 : Int32} {a1 : Int32} {r : Int32} (hf : f_X8_shadowOfList h a0 a1 = some r) : Cn l yX8_shadowOfList cX8_shadowOfList 2 (some .int) 0 0 0 0 G h [.int a0, .int a1] (.ok (some (.int r))) h := by
  refine Cn.of (by decide) (Nat.le_of_ble_eq_true rfl) ?_
  intro p e s m args below meth c O hr hx hin
  have O : OkC p l s m args meth c G cX8_shadowOfList 2 RX8 := O
  unfold f_X8_shadowOfList at hf
  refine AW.sub (lv' := [(0, .int a0), (1, .int a1)]) [0, 1] rfl ?_
  refine r_sipush O (v := 240) dX8_shadowOfList_0 (by decide) ?_
  refine r_iconst O (v := 3) dX8_shadowOfList_3 (by decide) ?_
  refine r_iload_n O 0 dX8_shadowOfList_4 rfl ?_
  refine r_imul O dX8_shadowOfList_5 ?_
  refine r_iadd O dX8_shadowOfList_6 ?_
  refine r_iload_n O 1 dX8_shadowOfList_7 rfl ?_
  refine r_iadd O dX8_shadowOfList_8 ?_
  refine r_bipush O (v := 6) dX8_shadowOfList_9 (by decide) ?_
  refine r_isub O dX8_shadowOfList_11 ?_
  obtain rfl := Option.some.inj hf
  exact r_iret O hr rfl rfl (by decide) (by decide) dX8_shadowOfList_12
def f_X4_shadowSeen (h : AH) (a0 : Nat) (a1 : Int32) (a2 : Int32) (a3 : Int32) : Option Int32 :=
if aK h a0 = 4 then
Option.bind (f_X8_ownerOf h a1) fun x1 =>
Option.bind (f_X4_listOf h a0 a1) fun x3 =>
if a2 = 4 then
Option.bind (f_X8_isOfThing h a1) fun x51 =>
Option.bind (if x51 = 0 then
Option.bind (f_X8_shadowOfList h x1 a3) fun x54 =>
some x54
else
Option.bind (f_X8_shadowOf h x1 a3) fun x56 =>
some x56) fun x53 =>
some x53
else
if x3 = (-1) then
some (-1)
else
if a2 = 5 then
Option.bind (gP h 4 a0 4) fun x5 =>
Option.bind (ldI h x5 x1) fun x6 =>
Option.bind (f_X4_standsAt h a0 x3 (x6 - 1)) fun x7 =>
Option.bind (if x7 = (-1) then
some ((-1) : Int32)
else
Option.bind (f_X8_shadowOf h x7 a3) fun x10 =>
some x10) fun x9 =>
some x9
else
if a2 = 6 then
Option.bind (gP h 4 a0 4) fun x12 =>
Option.bind (ldI h x12 x1) fun x13 =>
Option.bind (f_X4_standsAt h a0 x3 (x13 + 1)) fun x14 =>
Option.bind (if x14 = (-1) then
some ((-1) : Int32)
else
Option.bind (f_X8_shadowOf h x14 a3) fun x17 =>
some x17) fun x16 =>
some x16
else
if a2 = 7 then
Option.bind (gP h 4 a0 2) fun x19 =>
Option.bind (ldI h x19 x1) fun x20 =>
Option.bind (if x20 = (-1) then
some ((-1) : Int32)
else
Option.bind (gP h 4 a0 3) fun x22 =>
Option.bind (gP h 4 a0 2) fun x23 =>
Option.bind (ldI h x23 x1) fun x24 =>
Option.bind (ldI h x22 x24) fun x25 =>
if x25 = (-1) then
some ((-1) : Int32)
else
Option.bind (gP h 4 a0 2) fun x26 =>
Option.bind (ldI h x26 x1) fun x27 =>
some x27) fun x21 =>
Option.bind (if x21 = (-1) then
some ((-1) : Int32)
else
Option.bind (f_X8_shadowOf h x21 a3) fun x29 =>
some x29) fun x28 =>
some x28
else
if a2 = 8 then
Option.bind (f_X8_shadowOfList h x3 a3) fun x31 =>
some x31
else
if a2 = 9 ∨ a2 = 10 ∨ a2 = 11 then
Option.bind (if ((-1) : Int32) = (-1) then
some ((-1) : Int32)
else
Option.bind (f_X8_shadowOf h (-1) a3) fun x34 =>
some x34) fun x33 =>
some x33
else
if a2 = 12 then
Option.bind (f_X4_standsAt h a0 x3 0) fun x36 =>
Option.bind (if x36 = (-1) then
some ((-1) : Int32)
else
Option.bind (f_X8_shadowOf h x36 a3) fun x39 =>
some x39) fun x38 =>
some x38
else
if a2 = 13 then
Option.bind (gP h 4 a0 6) fun x41 =>
Option.bind (ldI h x41 x3) fun x42 =>
Option.bind (f_X4_standsAt h a0 x3 (x42 - 1)) fun x43 =>
Option.bind (if x43 = (-1) then
some ((-1) : Int32)
else
Option.bind (f_X8_shadowOf h x43 a3) fun x46 =>
some x46) fun x45 =>
some x45
else
Option.bind (if ((-1) : Int32) = (-1) then
some ((-1) : Int32)
else
Option.bind (f_X8_shadowOf h (-1) a3) fun x49 =>
some x49) fun x48 =>
some x48
else none
theorem kd_X4_shadowSeen {h : AH} {a0 : Nat} {a1 : Int32} {a2 : Int32} {a3 : Int32} {r : Int32} (hf : f_X4_shadowSeen h a0 a1 a2 a3 = some r) : aK h a0 = 4 := by
  unfold f_X4_shadowSeen at hf
  exact (ifk hf).1
set_option maxRecDepth 100000 in
set_option maxHeartbeats 4000000 in
theorem c_X4_shadowSeen {l : Launch} {G : GT} {h : AH} {a0 : Nat} {a1 : Int32} {a2 : Int32} {a3 : Int32} {r : Int32} (hf : f_X4_shadowSeen h a0 a1 a2 a3 = some r) : Cn l yX4_shadowSeen cX4_shadowSeen 7 (some .int) 2 41 0 0 G h [.ref a0, .int a1, .int a2, .int a3] (.ok (some (.int r))) h := by
  refine Cn.of (by decide) (Nat.le_of_ble_eq_true rfl) ?_
  intro p e s m args below meth c O hr hx hin
  have O : OkC p l s m args meth c G cX4_shadowSeen 7 RX4 := O
  unfold f_X4_shadowSeen at hf
  obtain ⟨hk0, hf⟩ := ifk hf
  refine AW.sub (lv' := [(0, .ref a0), (1, .int a1), (2, .int a2), (3, .int a3)]) [0, 1, 2, 3] rfl ?_
  refine r_iload_n O 1 dX4_shadowSeen_0 rfl ?_
  obtain ⟨x1, ex1, hf⟩ := bnd hf
  refine r_callSN (av := [.int a1]) (st := []) O (c_X8_ownerOf ex1) mf_X8_ownerOf mn_X4_52 ms_X8_ownerOf (by decide) (Nat.le_of_ble_eq_true rfl) (by decide) dX4_shadowSeen_1 ?_
  refine r_istore O [(4, .int x1), (0, .ref a0), (1, .int a1), (2, .int a2), (3, .int a3)] dX4_shadowSeen_4 (by decide) rfl ?_
  refine r_aload_n O 1 dX4_shadowSeen_6 rfl (Or.inl rfl) ?_
  refine r_iload_n O 2 dX4_shadowSeen_7 rfl ?_
  obtain ⟨x3, ex3, hf⟩ := bnd hf
  refine r_callV (av := [.int a1]) (st := []) O (c_X4_listOf ex3) mf_X4_listOf cf4 (kd_X4_listOf ex3) ml_X4_63 mi_X4_listOf mv_X4_listOf (by decide) (Nat.le_of_ble_eq_true rfl) (by decide) dX4_shadowSeen_8 ?_
  refine r_istore O [(5, .int x3), (4, .int x1), (0, .ref a0), (1, .int a1), (2, .int a2), (3, .int a3)] dX4_shadowSeen_11 (by decide) rfl ?_
  refine r_iload_n O 4 dX4_shadowSeen_13 rfl ?_
  refine r_iconst O (v := 4) dX4_shadowSeen_14 (by decide) ?_
  by_cases hc : a2 = 4
  · rw [if_pos hc] at hf
    refine r_icmp_ne_f (tgt := 41) O dX4_shadowSeen_15 (by decide) hc ?_
    refine r_iload_n O 3 dX4_shadowSeen_18 rfl ?_
    obtain ⟨x51, ex51, hf⟩ := bnd hf
    refine r_callSN (av := [.int a1]) (st := []) O (c_X8_isOfThing ex51) mf_X8_isOfThing mn_X4_48 ms_X8_isOfThing (by decide) (Nat.le_of_ble_eq_true rfl) (by decide) dX4_shadowSeen_19 ?_
    obtain ⟨x53, hg, hf⟩ := bnd hf
    have hJ : AW p l e { frames := 2, cells := 0, slots := 0, locals := 41 } s m args below meth c G 7 (vx_MQ below (QcN G (.ok (some (.int r))) h) (XcN G (.ok (some (.int r))) h) args s 0 0 (gA G)) h 0 0 40 [] [.int x53] := by
      obtain rfl := Option.some.inj hf
      exact r_iret O hr rfl rfl (by decide) (by decide) dX4_shadowSeen_40
    clear hf
    have hf := hg
    clear hg
    by_cases hc : x51 = 0
    · rw [if_pos hc] at hf
      refine r_if_eq_t (tgt := 34) O dX4_shadowSeen_22 (by decide) hc ?_
      refine r_iload O 1 dX4_shadowSeen_34 rfl ?_
      refine r_iload_n O 5 dX4_shadowSeen_36 rfl ?_
      obtain ⟨x54, ex54, hf⟩ := bnd hf
      refine r_callSN (av := [.int x1, .int a3]) (st := []) O (c_X8_shadowOfList ex54) mf_X8_shadowOfList mn_X4_69 ms_X8_shadowOfList (by decide) (Nat.le_of_ble_eq_true rfl) (by decide) dX4_shadowSeen_37 ?_
      obtain rfl := oi1 hf
      refine AW.sub [] rfl ?_
      exact hJ
    · rw [if_neg hc] at hf
      refine r_if_eq_f (tgt := 34) O dX4_shadowSeen_22 (by decide) hc ?_
      refine r_iload O 1 dX4_shadowSeen_25 rfl ?_
      refine r_iload_n O 5 dX4_shadowSeen_27 rfl ?_
      obtain ⟨x56, ex56, hf⟩ := bnd hf
      refine r_callSN (av := [.int x1, .int a3]) (st := []) O (c_X8_shadowOf ex56) mf_X8_shadowOf mn_X4_66 ms_X8_shadowOf (by decide) (Nat.le_of_ble_eq_true rfl) (by decide) dX4_shadowSeen_28 ?_
      refine r_goto (tgt := 40) O dX4_shadowSeen_31 (by decide) ?_
      obtain rfl := oi1 hf
      refine AW.sub [] rfl ?_
      exact hJ
  · rw [if_neg hc] at hf
    refine r_icmp_ne_t (tgt := 41) O dX4_shadowSeen_15 (by decide) hc ?_
    refine r_iload O 0 dX4_shadowSeen_41 rfl ?_
    refine r_iconst O (v := -1) dX4_shadowSeen_43 (by decide) ?_
    by_cases hc : x3 = (-1)
    · rw [if_pos hc] at hf
      refine r_icmp_ne_f (tgt := 49) O dX4_shadowSeen_44 (by decide) hc ?_
      refine r_iconst O (v := -1) dX4_shadowSeen_47 (by decide) ?_
      obtain rfl := Option.some.inj hf
      exact r_iret O hr rfl rfl (by decide) (by decide) dX4_shadowSeen_48
    · rw [if_neg hc] at hf
      refine r_icmp_ne_t (tgt := 49) O dX4_shadowSeen_44 (by decide) hc ?_
      refine r_iconst O (v := -1) dX4_shadowSeen_49 (by decide) ?_
      refine r_istore O [(6, .int (-1)), (5, .int x3), (4, .int x1), (0, .ref a0), (1, .int a1), (2, .int a2), (3, .int a3)] dX4_shadowSeen_50 (by decide) rfl ?_
      refine r_iload_n O 5 dX4_shadowSeen_52 rfl ?_
      by_cases hc : a2 = 5
      · rw [if_pos hc] at hf
        refine r_table_in (off := 58) (tgt := 111) O dX4_shadowSeen_53 (by (rw [hc]; decide)) (by (rw [hc]; decide)) (by (rw [hc]; rfl)) (by decide) ?_
        refine r_aload_n O 3 dX4_shadowSeen_111 rfl (Or.inl rfl) ?_
        refine r_iload O 1 dX4_shadowSeen_112 rfl ?_
        refine r_aload_n O 3 dX4_shadowSeen_114 rfl (Or.inl rfl) ?_
        obtain ⟨x5, ex5, hf⟩ := bnd hf
        refine r_gP O cf4 4 (by decide) rfl fl_X4_24 ex5 dX4_shadowSeen_115 ?_
        refine r_iload O 2 dX4_shadowSeen_118 rfl ?_
        obtain ⟨x6, ex6, hf⟩ := bnd hf
        refine r_ldI O ex6 dX4_shadowSeen_120 ?_
        refine r_iconst O (v := 1) dX4_shadowSeen_121 (by decide) ?_
        refine r_isub O dX4_shadowSeen_122 ?_
        obtain ⟨x7, ex7, hf⟩ := bnd hf
        refine r_callV (av := [.int x3, .int (x6 - 1)]) (st := []) O (c_X4_standsAt ex7) mf_X4_standsAt cf4 (kd_X4_standsAt ex7) ml_X4_59 mi_X4_standsAt mv_X4_standsAt (by decide) (Nat.le_of_ble_eq_true rfl) (by decide) dX4_shadowSeen_123 ?_
        refine r_istore O [(6, .int x7), (5, .int x3), (4, .int x1), (0, .ref a0), (1, .int a1), (2, .int a2), (3, .int a3)] dX4_shadowSeen_126 (by decide) rfl ?_
        refine r_goto (tgt := 226) O dX4_shadowSeen_128 (by decide) ?_
        refine r_iload O 0 dX4_shadowSeen_226 rfl ?_
        refine r_iconst O (v := -1) dX4_shadowSeen_228 (by decide) ?_
        obtain ⟨x9, hg, hf⟩ := bnd hf
        have hJ : AW p l e { frames := 2, cells := 0, slots := 0, locals := 41 } s m args below meth c G 7 (vx_MQ below (QcN G (.ok (some (.int r))) h) (XcN G (.ok (some (.int r))) h) args s 0 0 (gA G)) h 0 0 242 [] [.int x9] := by
          obtain rfl := Option.some.inj hf
          exact r_iret O hr rfl rfl (by decide) (by decide) dX4_shadowSeen_242
        clear hf
        have hf := hg
        clear hg
        by_cases hc : x7 = (-1)
        · rw [if_pos hc] at hf
          refine r_icmp_ne_f (tgt := 236) O dX4_shadowSeen_229 (by decide) hc ?_
          refine r_iconst O (v := -1) dX4_shadowSeen_232 (by decide) ?_
          refine r_goto (tgt := 242) O dX4_shadowSeen_233 (by decide) ?_
          obtain rfl := oi1 hf
          refine AW.sub [] rfl ?_
          exact hJ
        · rw [if_neg hc] at hf
          refine r_icmp_ne_t (tgt := 236) O dX4_shadowSeen_229 (by decide) hc ?_
          refine r_iload O 0 dX4_shadowSeen_236 rfl ?_
          refine r_iload_n O 6 dX4_shadowSeen_238 rfl ?_
          obtain ⟨x10, ex10, hf⟩ := bnd hf
          refine r_callSN (av := [.int x7, .int a3]) (st := []) O (c_X8_shadowOf ex10) mf_X8_shadowOf mn_X4_66 ms_X8_shadowOf (by decide) (Nat.le_of_ble_eq_true rfl) (by decide) dX4_shadowSeen_239 ?_
          obtain rfl := oi1 hf
          refine AW.sub [] rfl ?_
          exact hJ
      · rw [if_neg hc] at hf
        have hn111 := hc
        by_cases hc : a2 = 6
        · rw [if_pos hc] at hf
          refine r_table_in (off := 78) (tgt := 131) O dX4_shadowSeen_53 (by (rw [hc]; decide)) (by (rw [hc]; decide)) (by (rw [hc]; rfl)) (by decide) ?_
          refine r_aload_n O 3 dX4_shadowSeen_131 rfl (Or.inl rfl) ?_
          refine r_iload O 1 dX4_shadowSeen_132 rfl ?_
          refine r_aload_n O 3 dX4_shadowSeen_134 rfl (Or.inl rfl) ?_
          obtain ⟨x12, ex12, hf⟩ := bnd hf
          refine r_gP O cf4 4 (by decide) rfl fl_X4_24 ex12 dX4_shadowSeen_135 ?_
          refine r_iload O 2 dX4_shadowSeen_138 rfl ?_
          obtain ⟨x13, ex13, hf⟩ := bnd hf
          refine r_ldI O ex13 dX4_shadowSeen_140 ?_
          refine r_iconst O (v := 1) dX4_shadowSeen_141 (by decide) ?_
          refine r_iadd O dX4_shadowSeen_142 ?_
          obtain ⟨x14, ex14, hf⟩ := bnd hf
          refine r_callV (av := [.int x3, .int (x13 + 1)]) (st := []) O (c_X4_standsAt ex14) mf_X4_standsAt cf4 (kd_X4_standsAt ex14) ml_X4_59 mi_X4_standsAt mv_X4_standsAt (by decide) (Nat.le_of_ble_eq_true rfl) (by decide) dX4_shadowSeen_143 ?_
          refine r_istore O [(6, .int x14), (5, .int x3), (4, .int x1), (0, .ref a0), (1, .int a1), (2, .int a2), (3, .int a3)] dX4_shadowSeen_146 (by decide) rfl ?_
          refine r_goto (tgt := 226) O dX4_shadowSeen_148 (by decide) ?_
          refine r_iload O 0 dX4_shadowSeen_226 rfl ?_
          refine r_iconst O (v := -1) dX4_shadowSeen_228 (by decide) ?_
          obtain ⟨x16, hg, hf⟩ := bnd hf
          have hJ : AW p l e { frames := 2, cells := 0, slots := 0, locals := 41 } s m args below meth c G 7 (vx_MQ below (QcN G (.ok (some (.int r))) h) (XcN G (.ok (some (.int r))) h) args s 0 0 (gA G)) h 0 0 242 [] [.int x16] := by
            obtain rfl := Option.some.inj hf
            exact r_iret O hr rfl rfl (by decide) (by decide) dX4_shadowSeen_242
          clear hf
          have hf := hg
          clear hg
          by_cases hc : x14 = (-1)
          · rw [if_pos hc] at hf
            refine r_icmp_ne_f (tgt := 236) O dX4_shadowSeen_229 (by decide) hc ?_
            refine r_iconst O (v := -1) dX4_shadowSeen_232 (by decide) ?_
            refine r_goto (tgt := 242) O dX4_shadowSeen_233 (by decide) ?_
            obtain rfl := oi1 hf
            refine AW.sub [] rfl ?_
            exact hJ
          · rw [if_neg hc] at hf
            refine r_icmp_ne_t (tgt := 236) O dX4_shadowSeen_229 (by decide) hc ?_
            refine r_iload O 0 dX4_shadowSeen_236 rfl ?_
            refine r_iload_n O 6 dX4_shadowSeen_238 rfl ?_
            obtain ⟨x17, ex17, hf⟩ := bnd hf
            refine r_callSN (av := [.int x14, .int a3]) (st := []) O (c_X8_shadowOf ex17) mf_X8_shadowOf mn_X4_66 ms_X8_shadowOf (by decide) (Nat.le_of_ble_eq_true rfl) (by decide) dX4_shadowSeen_239 ?_
            obtain rfl := oi1 hf
            refine AW.sub [] rfl ?_
            exact hJ
        · rw [if_neg hc] at hf
          have hn131 := hc
          by_cases hc : a2 = 7
          · rw [if_pos hc] at hf
            refine r_table_in (off := 98) (tgt := 151) O dX4_shadowSeen_53 (by (rw [hc]; decide)) (by (rw [hc]; decide)) (by (rw [hc]; rfl)) (by decide) ?_
            refine r_aload_n O 3 dX4_shadowSeen_151 rfl (Or.inl rfl) ?_
            obtain ⟨x19, ex19, hf⟩ := bnd hf
            refine r_gP O cf4 2 (by decide) rfl fl_X4_18 ex19 dX4_shadowSeen_152 ?_
            refine r_iload O 2 dX4_shadowSeen_155 rfl ?_
            obtain ⟨x20, ex20, hf⟩ := bnd hf
            refine r_ldI O ex20 dX4_shadowSeen_157 ?_
            refine r_iconst O (v := -1) dX4_shadowSeen_158 (by decide) ?_
            obtain ⟨x21, hg, hf⟩ := bnd hf
            have hJ : AW p l e { frames := 2, cells := 0, slots := 0, locals := 41 } s m args below meth c G 7 (vx_MQ below (QcN G (.ok (some (.int r))) h) (XcN G (.ok (some (.int r))) h) args s 0 0 (gA G)) h 0 0 189 [(3, .int a3)] [.int x21] := by
              refine r_istore O [(6, .int x21), (3, .int a3)] dX4_shadowSeen_189 (by decide) rfl ?_
              refine r_goto (tgt := 226) O dX4_shadowSeen_191 (by decide) ?_
              refine r_iload O 0 dX4_shadowSeen_226 rfl ?_
              refine r_iconst O (v := -1) dX4_shadowSeen_228 (by decide) ?_
              obtain ⟨x28, hg, hf⟩ := bnd hf
              have hJ : AW p l e { frames := 2, cells := 0, slots := 0, locals := 41 } s m args below meth c G 7 (vx_MQ below (QcN G (.ok (some (.int r))) h) (XcN G (.ok (some (.int r))) h) args s 0 0 (gA G)) h 0 0 242 [] [.int x28] := by
                obtain rfl := Option.some.inj hf
                exact r_iret O hr rfl rfl (by decide) (by decide) dX4_shadowSeen_242
              clear hf
              have hf := hg
              clear hg
              by_cases hc : x21 = (-1)
              · rw [if_pos hc] at hf
                refine r_icmp_ne_f (tgt := 236) O dX4_shadowSeen_229 (by decide) hc ?_
                refine r_iconst O (v := -1) dX4_shadowSeen_232 (by decide) ?_
                refine r_goto (tgt := 242) O dX4_shadowSeen_233 (by decide) ?_
                obtain rfl := oi1 hf
                refine AW.sub [] rfl ?_
                exact hJ
              · rw [if_neg hc] at hf
                refine r_icmp_ne_t (tgt := 236) O dX4_shadowSeen_229 (by decide) hc ?_
                refine r_iload O 0 dX4_shadowSeen_236 rfl ?_
                refine r_iload_n O 1 dX4_shadowSeen_238 rfl ?_
                obtain ⟨x29, ex29, hf⟩ := bnd hf
                refine r_callSN (av := [.int x21, .int a3]) (st := []) O (c_X8_shadowOf ex29) mf_X8_shadowOf mn_X4_66 ms_X8_shadowOf (by decide) (Nat.le_of_ble_eq_true rfl) (by decide) dX4_shadowSeen_239 ?_
                obtain rfl := oi1 hf
                refine AW.sub [] rfl ?_
                exact hJ
            clear hf
            have hf := hg
            clear hg
            by_cases hc : x20 = (-1)
            · rw [if_pos hc] at hf
              refine r_icmp_eq_t (tgt := 178) O dX4_shadowSeen_159 (by decide) hc ?_
              refine r_iconst O (v := -1) dX4_shadowSeen_178 (by decide) ?_
              refine r_goto (tgt := 189) O dX4_shadowSeen_179 (by decide) ?_
              obtain rfl := oi1 hf
              refine AW.sub [6] rfl ?_
              exact hJ
            · rw [if_neg hc] at hf
              refine r_icmp_eq_f (tgt := 178) O dX4_shadowSeen_159 (by decide) hc ?_
              refine r_aload_n O 3 dX4_shadowSeen_162 rfl (Or.inl rfl) ?_
              obtain ⟨x22, ex22, hf⟩ := bnd hf
              refine r_gP O cf4 3 (by decide) rfl fl_X4_21 ex22 dX4_shadowSeen_163 ?_
              refine r_aload_n O 3 dX4_shadowSeen_166 rfl (Or.inl rfl) ?_
              obtain ⟨x23, ex23, hf⟩ := bnd hf
              refine r_gP O cf4 2 (by decide) rfl fl_X4_18 ex23 dX4_shadowSeen_167 ?_
              refine r_iload O 2 dX4_shadowSeen_170 rfl ?_
              obtain ⟨x24, ex24, hf⟩ := bnd hf
              refine r_ldI O ex24 dX4_shadowSeen_172 ?_
              obtain ⟨x25, ex25, hf⟩ := bnd hf
              refine r_ldI O ex25 dX4_shadowSeen_173 ?_
              refine r_iconst O (v := -1) dX4_shadowSeen_174 (by decide) ?_
              by_cases hc : x25 = (-1)
              · rw [if_pos hc] at hf
                refine r_icmp_ne_f (tgt := 182) O dX4_shadowSeen_175 (by decide) hc ?_
                refine r_iconst O (v := -1) dX4_shadowSeen_178 (by decide) ?_
                refine r_goto (tgt := 189) O dX4_shadowSeen_179 (by decide) ?_
                obtain rfl := oi1 hf
                refine AW.sub [6] rfl ?_
                exact hJ
              · rw [if_neg hc] at hf
                refine r_icmp_ne_t (tgt := 182) O dX4_shadowSeen_175 (by decide) hc ?_
                refine r_aload_n O 3 dX4_shadowSeen_182 rfl (Or.inl rfl) ?_
                obtain ⟨x26, ex26, hf⟩ := bnd hf
                refine r_gP O cf4 2 (by decide) rfl fl_X4_18 ex26 dX4_shadowSeen_183 ?_
                refine r_iload O 2 dX4_shadowSeen_186 rfl ?_
                obtain ⟨x27, ex27, hf⟩ := bnd hf
                refine r_ldI O ex27 dX4_shadowSeen_188 ?_
                obtain rfl := oi1 hf
                refine AW.sub [6] rfl ?_
                exact hJ
          · rw [if_neg hc] at hf
            have hn151 := hc
            by_cases hc : a2 = 8
            · rw [if_pos hc] at hf
              refine r_table_in (off := 51) (tgt := 104) O dX4_shadowSeen_53 (by (rw [hc]; decide)) (by (rw [hc]; decide)) (by (rw [hc]; rfl)) (by decide) ?_
              refine r_iload O 1 dX4_shadowSeen_104 rfl ?_
              refine r_iload_n O 6 dX4_shadowSeen_106 rfl ?_
              obtain ⟨x31, ex31, hf⟩ := bnd hf
              refine r_callSN (av := [.int x3, .int a3]) (st := []) O (c_X8_shadowOfList ex31) mf_X8_shadowOfList mn_X4_69 ms_X8_shadowOfList (by decide) (Nat.le_of_ble_eq_true rfl) (by decide) dX4_shadowSeen_107 ?_
              obtain rfl := Option.some.inj hf
              exact r_iret O hr rfl rfl (by decide) (by decide) dX4_shadowSeen_110
            · rw [if_neg hc] at hf
              have hn104 := hc
              by_cases hc : a2 = 9 ∨ a2 = 10 ∨ a2 = 11
              · rw [if_pos hc] at hf
                refine r_table_in (off := 173) (tgt := 226) O dX4_shadowSeen_53 (by rcases hc with hc | hc | hc <;> (rw [hc]; decide)) (by rcases hc with hc | hc | hc <;> (rw [hc]; decide)) (by rcases hc with hc | hc | hc <;> (rw [hc]; rfl)) (by decide) ?_
                refine r_iload O 0 dX4_shadowSeen_226 rfl ?_
                refine r_iconst O (v := -1) dX4_shadowSeen_228 (by decide) ?_
                obtain ⟨x33, hg, hf⟩ := bnd hf
                have hJ : AW p l e { frames := 2, cells := 0, slots := 0, locals := 41 } s m args below meth c G 7 (vx_MQ below (QcN G (.ok (some (.int r))) h) (XcN G (.ok (some (.int r))) h) args s 0 0 (gA G)) h 0 0 242 [] [.int x33] := by
                  obtain rfl := Option.some.inj hf
                  exact r_iret O hr rfl rfl (by decide) (by decide) dX4_shadowSeen_242
                clear hf
                have hf := hg
                clear hg
                by_cases hc : ((-1) : Int32) = (-1)
                · rw [if_pos hc] at hf
                  refine r_icmp_ne_f (tgt := 236) O dX4_shadowSeen_229 (by decide) hc ?_
                  refine r_iconst O (v := -1) dX4_shadowSeen_232 (by decide) ?_
                  refine r_goto (tgt := 242) O dX4_shadowSeen_233 (by decide) ?_
                  obtain rfl := oi1 hf
                  refine AW.sub [] rfl ?_
                  exact hJ
                · rw [if_neg hc] at hf
                  refine r_icmp_ne_t (tgt := 236) O dX4_shadowSeen_229 (by decide) hc ?_
                  refine r_iload O 0 dX4_shadowSeen_236 rfl ?_
                  refine r_iload_n O 6 dX4_shadowSeen_238 rfl ?_
                  obtain ⟨x34, ex34, hf⟩ := bnd hf
                  refine r_callSN (av := [.int (-1), .int a3]) (st := []) O (c_X8_shadowOf ex34) mf_X8_shadowOf mn_X4_66 ms_X8_shadowOf (by decide) (Nat.le_of_ble_eq_true rfl) (by decide) dX4_shadowSeen_239 ?_
                  obtain rfl := oi1 hf
                  refine AW.sub [] rfl ?_
                  exact hJ
              · rw [if_neg hc] at hf
                have hn226 := hc
                by_cases hc : a2 = 12
                · rw [if_pos hc] at hf
                  refine r_table_in (off := 141) (tgt := 194) O dX4_shadowSeen_53 (by (rw [hc]; decide)) (by (rw [hc]; decide)) (by (rw [hc]; rfl)) (by decide) ?_
                  refine r_aload_n O 3 dX4_shadowSeen_194 rfl (Or.inl rfl) ?_
                  refine r_iload O 1 dX4_shadowSeen_195 rfl ?_
                  refine r_iconst O (v := 0) dX4_shadowSeen_197 (by decide) ?_
                  obtain ⟨x36, ex36, hf⟩ := bnd hf
                  refine r_callV (av := [.int x3, .int 0]) (st := []) O (c_X4_standsAt ex36) mf_X4_standsAt cf4 (kd_X4_standsAt ex36) ml_X4_59 mi_X4_standsAt mv_X4_standsAt (by decide) (Nat.le_of_ble_eq_true rfl) (by decide) dX4_shadowSeen_198 ?_
                  refine r_istore O [(6, .int x36), (5, .int x3), (4, .int x1), (0, .ref a0), (1, .int a1), (2, .int a2), (3, .int a3)] dX4_shadowSeen_201 (by decide) rfl ?_
                  refine r_goto (tgt := 226) O dX4_shadowSeen_203 (by decide) ?_
                  refine r_iload O 0 dX4_shadowSeen_226 rfl ?_
                  refine r_iconst O (v := -1) dX4_shadowSeen_228 (by decide) ?_
                  obtain ⟨x38, hg, hf⟩ := bnd hf
                  have hJ : AW p l e { frames := 2, cells := 0, slots := 0, locals := 41 } s m args below meth c G 7 (vx_MQ below (QcN G (.ok (some (.int r))) h) (XcN G (.ok (some (.int r))) h) args s 0 0 (gA G)) h 0 0 242 [] [.int x38] := by
                    obtain rfl := Option.some.inj hf
                    exact r_iret O hr rfl rfl (by decide) (by decide) dX4_shadowSeen_242
                  clear hf
                  have hf := hg
                  clear hg
                  by_cases hc : x36 = (-1)
                  · rw [if_pos hc] at hf
                    refine r_icmp_ne_f (tgt := 236) O dX4_shadowSeen_229 (by decide) hc ?_
                    refine r_iconst O (v := -1) dX4_shadowSeen_232 (by decide) ?_
                    refine r_goto (tgt := 242) O dX4_shadowSeen_233 (by decide) ?_
                    obtain rfl := oi1 hf
                    refine AW.sub [] rfl ?_
                    exact hJ
                  · rw [if_neg hc] at hf
                    refine r_icmp_ne_t (tgt := 236) O dX4_shadowSeen_229 (by decide) hc ?_
                    refine r_iload O 0 dX4_shadowSeen_236 rfl ?_
                    refine r_iload_n O 6 dX4_shadowSeen_238 rfl ?_
                    obtain ⟨x39, ex39, hf⟩ := bnd hf
                    refine r_callSN (av := [.int x36, .int a3]) (st := []) O (c_X8_shadowOf ex39) mf_X8_shadowOf mn_X4_66 ms_X8_shadowOf (by decide) (Nat.le_of_ble_eq_true rfl) (by decide) dX4_shadowSeen_239 ?_
                    obtain rfl := oi1 hf
                    refine AW.sub [] rfl ?_
                    exact hJ
                · rw [if_neg hc] at hf
                  have hn194 := hc
                  by_cases hc : a2 = 13
                  · rw [if_pos hc] at hf
                    refine r_table_in (off := 153) (tgt := 206) O dX4_shadowSeen_53 (by (rw [hc]; decide)) (by (rw [hc]; decide)) (by (rw [hc]; rfl)) (by decide) ?_
                    refine r_aload_n O 3 dX4_shadowSeen_206 rfl (Or.inl rfl) ?_
                    refine r_iload O 1 dX4_shadowSeen_207 rfl ?_
                    refine r_aload_n O 3 dX4_shadowSeen_209 rfl (Or.inl rfl) ?_
                    obtain ⟨x41, ex41, hf⟩ := bnd hf
                    refine r_gP O cf4 6 (by decide) rfl fl_X4_30 ex41 dX4_shadowSeen_210 ?_
                    refine r_iload O 1 dX4_shadowSeen_213 rfl ?_
                    obtain ⟨x42, ex42, hf⟩ := bnd hf
                    refine r_ldI O ex42 dX4_shadowSeen_215 ?_
                    refine r_iconst O (v := 1) dX4_shadowSeen_216 (by decide) ?_
                    refine r_isub O dX4_shadowSeen_217 ?_
                    obtain ⟨x43, ex43, hf⟩ := bnd hf
                    refine r_callV (av := [.int x3, .int (x42 - 1)]) (st := []) O (c_X4_standsAt ex43) mf_X4_standsAt cf4 (kd_X4_standsAt ex43) ml_X4_59 mi_X4_standsAt mv_X4_standsAt (by decide) (Nat.le_of_ble_eq_true rfl) (by decide) dX4_shadowSeen_218 ?_
                    refine r_istore O [(6, .int x43), (5, .int x3), (4, .int x1), (0, .ref a0), (1, .int a1), (2, .int a2), (3, .int a3)] dX4_shadowSeen_221 (by decide) rfl ?_
                    refine r_goto (tgt := 226) O dX4_shadowSeen_223 (by decide) ?_
                    refine r_iload O 0 dX4_shadowSeen_226 rfl ?_
                    refine r_iconst O (v := -1) dX4_shadowSeen_228 (by decide) ?_
                    obtain ⟨x45, hg, hf⟩ := bnd hf
                    have hJ : AW p l e { frames := 2, cells := 0, slots := 0, locals := 41 } s m args below meth c G 7 (vx_MQ below (QcN G (.ok (some (.int r))) h) (XcN G (.ok (some (.int r))) h) args s 0 0 (gA G)) h 0 0 242 [] [.int x45] := by
                      obtain rfl := Option.some.inj hf
                      exact r_iret O hr rfl rfl (by decide) (by decide) dX4_shadowSeen_242
                    clear hf
                    have hf := hg
                    clear hg
                    by_cases hc : x43 = (-1)
                    · rw [if_pos hc] at hf
                      refine r_icmp_ne_f (tgt := 236) O dX4_shadowSeen_229 (by decide) hc ?_
                      refine r_iconst O (v := -1) dX4_shadowSeen_232 (by decide) ?_
                      refine r_goto (tgt := 242) O dX4_shadowSeen_233 (by decide) ?_
                      obtain rfl := oi1 hf
                      refine AW.sub [] rfl ?_
                      exact hJ
                    · rw [if_neg hc] at hf
                      refine r_icmp_ne_t (tgt := 236) O dX4_shadowSeen_229 (by decide) hc ?_
                      refine r_iload O 0 dX4_shadowSeen_236 rfl ?_
                      refine r_iload_n O 6 dX4_shadowSeen_238 rfl ?_
                      obtain ⟨x46, ex46, hf⟩ := bnd hf
                      refine r_callSN (av := [.int x43, .int a3]) (st := []) O (c_X8_shadowOf ex46) mf_X8_shadowOf mn_X4_66 ms_X8_shadowOf (by decide) (Nat.le_of_ble_eq_true rfl) (by decide) dX4_shadowSeen_239 ?_
                      obtain rfl := oi1 hf
                      refine AW.sub [] rfl ?_
                      exact hJ
                  · rw [if_neg hc] at hf
                    have hn206 := hc
                    have hout := tb_out (x := a2) 5 9 (fun j hj => by
                      rcases (show j = 0 ∨ j = 1 ∨ j = 2 ∨ j = 3 ∨ j = 4 ∨ j = 5 ∨ j = 6 ∨ j = 7 ∨ j = 8 by omega) with rfl | rfl | rfl | rfl | rfl | rfl | rfl | rfl | rfl
                      · exact fun q => hn111 (q.trans (by decide))
                      · exact fun q => hn131 (q.trans (by decide))
                      · exact fun q => hn151 (q.trans (by decide))
                      · exact fun q => hn104 (q.trans (by decide))
                      · exact fun q => hn226 (Or.inl (q.trans (by decide)))
                      · exact fun q => hn226 (Or.inr (Or.inl (q.trans (by decide))))
                      · exact fun q => hn226 (Or.inr (Or.inr (q.trans (by decide))))
                      · exact fun q => hn194 (q.trans (by decide))
                      · exact fun q => hn206 (q.trans (by decide)))
                    refine r_table_out (tgt := 226) O dX4_shadowSeen_53 hout (by decide) ?_
                    refine r_iload O 0 dX4_shadowSeen_226 rfl ?_
                    refine r_iconst O (v := -1) dX4_shadowSeen_228 (by decide) ?_
                    obtain ⟨x48, hg, hf⟩ := bnd hf
                    have hJ : AW p l e { frames := 2, cells := 0, slots := 0, locals := 41 } s m args below meth c G 7 (vx_MQ below (QcN G (.ok (some (.int r))) h) (XcN G (.ok (some (.int r))) h) args s 0 0 (gA G)) h 0 0 242 [] [.int x48] := by
                      obtain rfl := Option.some.inj hf
                      exact r_iret O hr rfl rfl (by decide) (by decide) dX4_shadowSeen_242
                    clear hf
                    have hf := hg
                    clear hg
                    by_cases hc : ((-1) : Int32) = (-1)
                    · rw [if_pos hc] at hf
                      refine r_icmp_ne_f (tgt := 236) O dX4_shadowSeen_229 (by decide) hc ?_
                      refine r_iconst O (v := -1) dX4_shadowSeen_232 (by decide) ?_
                      refine r_goto (tgt := 242) O dX4_shadowSeen_233 (by decide) ?_
                      obtain rfl := oi1 hf
                      refine AW.sub [] rfl ?_
                      exact hJ
                    · rw [if_neg hc] at hf
                      refine r_icmp_ne_t (tgt := 236) O dX4_shadowSeen_229 (by decide) hc ?_
                      refine r_iload O 0 dX4_shadowSeen_236 rfl ?_
                      refine r_iload_n O 6 dX4_shadowSeen_238 rfl ?_
                      obtain ⟨x49, ex49, hf⟩ := bnd hf
                      refine r_callSN (av := [.int (-1), .int a3]) (st := []) O (c_X8_shadowOf ex49) mf_X8_shadowOf mn_X4_66 ms_X8_shadowOf (by decide) (Nat.le_of_ble_eq_true rfl) (by decide) dX4_shadowSeen_239 ?_
                      obtain rfl := oi1 hf
                      refine AW.sub [] rfl ?_
                      exact hJ
