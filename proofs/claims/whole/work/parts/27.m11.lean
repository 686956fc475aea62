def f_X8_drop (h : AH) (a0 : Nat) : Option (Except Nat Int32 × AH) :=
if aK h a0 = 8 then
Option.bind (f_X8_needGroup h a0) fun w => match w with
| (.error k9, h2) => some (.error k9, h2)
| (.ok x1, h2) =>
Option.bind (gI h2 8 a0 10) fun x3 =>
Option.bind (pZ h2 8 a0 9 0) fun h4 =>
Option.bind (pI h4 8 a0 10 0) fun h5 =>
Option.bind (gP h5 8 a0 1) fun x6 =>
Option.bind (gP h5 8 a0 2) fun x7 =>
Option.bind (f_X4_copyFrom h5 x6 x7) fun h9 =>
some (.ok x3, h9)
else none
theorem kd_X8_drop {h : AH} {a0 : Nat} {r : (Except Nat Int32 × AH)} (hf : f_X8_drop h a0 = some r) : aK h a0 = 8 := by
  unfold f_X8_drop at hf
  exact (ifk hf).1
set_option maxRecDepth 100000 in
set_option maxHeartbeats 4000000 in
theorem c_X8_drop {l : Launch} {G : GT} {h : AH} {a0 : Nat} {r : (Except Nat Int32 × AH)} (hf : f_X8_drop h a0 = some r) : Cn l yX8_drop cX8_drop 2 (some .int) 7 110 1 6 G h [.ref a0] (r.1.map (fun x => some (.int x))) r.2 := by
  refine Cn.of (by decide) (Nat.le_of_ble_eq_true rfl) ?_
  intro p e s m args below meth c O hr hx hin
  have O : OkC p l s m args meth c G cX8_drop 2 RX8 := O
  unfold f_X8_drop at hf
  obtain ⟨hk0, hf⟩ := ifk hf
  refine AW.sub (lv' := [(0, .ref a0)]) [0] rfl ?_
  refine r_aload_n O 0 dX8_drop_0 rfl (Or.inl rfl) ?_
  obtain ⟨⟨w, h2⟩, ex1, hf⟩ := bnd hf
  cases w with
  | error k9 =>
    dsimp only at hf
    obtain rfl := Option.some.inj hf
    exact r_thrV (av := []) (st := []) O hx (c_X8_needGroup ex1) mf_X8_needGroup cf8 (kd_X8_needGroup ex1) ml_X8_176 mi_X8_needGroup mv_X8_needGroup (by decide) (Nat.le_of_ble_eq_true rfl) (by decide) (by decide) (by decide) dX8_drop_1
  | ok x1 =>
    dsimp only at hf
    refine r_callV (av := []) (st := []) O (c_X8_needGroup ex1) mf_X8_needGroup cf8 (kd_X8_needGroup ex1) ml_X8_176 mi_X8_needGroup mv_X8_needGroup (by decide) (Nat.le_of_ble_eq_true rfl) (by decide) dX8_drop_1 ?_
    refine r_aload_n O 0 dX8_drop_4 rfl (Or.inl rfl) ?_
    obtain ⟨x3, ex3, hf⟩ := bnd hf
    refine r_gI O cf8 10 (by decide) rfl fl_X8_179 ex3 dX8_drop_5 ?_
    refine r_istore_n O [(1, .int x3), (0, .ref a0)] dX8_drop_8 (by decide) rfl ?_
    refine r_aload_n O 1 dX8_drop_9 rfl (Or.inl rfl) ?_
    refine r_iconst O (v := 0) dX8_drop_10 (by decide) ?_
    obtain ⟨h4, eh4, hf⟩ := bnd hf
    refine r_pZ O cf8 9 (by decide) rfl fl_X8_171 rfl eh4 dX8_drop_11 ?_
    refine r_aload_n O 1 dX8_drop_14 rfl (Or.inl rfl) ?_
    refine r_iconst O (v := 0) dX8_drop_15 (by decide) ?_
    obtain ⟨h5, eh5, hf⟩ := bnd hf
    refine r_pI O cf8 10 (by decide) rfl fl_X8_179 rfl eh5 dX8_drop_16 ?_
    refine r_aload_n O 1 dX8_drop_19 rfl (Or.inl rfl) ?_
    obtain ⟨x6, ex6, hf⟩ := bnd hf
    refine r_gP O cf8 1 (by decide) rfl fl_X8_19 ex6 dX8_drop_20 ?_
    refine r_aload_n O 1 dX8_drop_23 rfl (Or.inl rfl) ?_
    obtain ⟨x7, ex7, hf⟩ := bnd hf
    refine r_gP O cf8 2 (by decide) rfl fl_X8_23 ex7 dX8_drop_24 ?_
    obtain ⟨h9, eh9, hf⟩ := bnd hf
    refine r_callV (av := [.ref x7]) (st := []) O (c_X4_copyFrom eh9) mf_X4_copyFrom cf4 (kd_X4_copyFrom eh9) ml_X8_182 mi_X4_copyFrom mv_X4_copyFrom (by decide) (Nat.le_of_ble_eq_true rfl) (by decide) dX8_drop_27 ?_
    refine r_iload_n O 0 dX8_drop_30 rfl ?_
    obtain rfl := Option.some.inj hf
    exact r_iret O hr rfl rfl (by decide) (by decide) dX8_drop_31
def f_X3_takeLatest (h : AH) (a0 : Nat) : Option ((Option Nat) × AH) :=
if aK h a0 = 3 then
Option.bind (gI h 3 a0 2) fun x1 =>
if x1 = 0 then
some (none, h)
else
Option.bind (gI h 3 a0 2) fun x2 =>
Option.bind (pI h 3 a0 2 (x2 - 1)) fun h3 =>
Option.bind (gP h3 3 a0 0) fun x4 =>
Option.bind (gI h3 3 a0 1) fun x5 =>
Option.bind (gI h3 3 a0 2) fun x6 =>
Option.bind (ldP h3 x4 ((x5 + x6) - (x5 + x6) / 60 * 60)) fun x7 =>
some (x7, h3)
else none
theorem kd_X3_takeLatest {h : AH} {a0 : Nat} {r : ((Option Nat) × AH)} (hf : f_X3_takeLatest h a0 = some r) : aK h a0 = 3 := by
  unfold f_X3_takeLatest at hf
  exact (ifk hf).1
set_option maxRecDepth 100000 in
set_option maxHeartbeats 4000000 in
theorem c_X3_takeLatest {l : Launch} {G : GT} {h : AH} {a0 : Nat} {r : ((Option Nat) × AH)} (hf : f_X3_takeLatest h a0 = some r) : Cn l yX3_takeLatest cX3_takeLatest 1 (some (.object "ShadowOrder$Moment")) 0 0 0 0 G h [.ref a0] (.ok (some (rf r.1))) r.2 := by
  refine Cn.of (by decide) (Nat.le_of_ble_eq_true rfl) ?_
  intro p e s m args below meth c O hr hx hin
  have O : OkC p l s m args meth c G cX3_takeLatest 1 RX3 := O
  unfold f_X3_takeLatest at hf
  obtain ⟨hk0, hf⟩ := ifk hf
  refine AW.sub (lv' := [(0, .ref a0)]) [0] rfl ?_
  refine r_aload_n O 0 dX3_takeLatest_0 rfl (Or.inl rfl) ?_
  obtain ⟨x1, ex1, hf⟩ := bnd hf
  refine r_gI O cf3 2 (by decide) rfl fl_X3_17 ex1 dX3_takeLatest_1 ?_
  by_cases hc : x1 = 0
  · rw [if_pos hc] at hf
    refine r_if_ne_f (tgt := 9) O dX3_takeLatest_4 (by decide) hc ?_
    refine r_null O dX3_takeLatest_7 ?_
    obtain rfl := Option.some.inj hf
    exact r_aret O hr rfl rfl rfl (by decide) (by decide) dX3_takeLatest_8
  · rw [if_neg hc] at hf
    refine r_if_ne_t (tgt := 9) O dX3_takeLatest_4 (by decide) hc ?_
    refine r_aload_n O 0 dX3_takeLatest_9 rfl (Or.inl rfl) ?_
    refine r_dup O dX3_takeLatest_10 rfl ?_
    obtain ⟨x2, ex2, hf⟩ := bnd hf
    refine r_gI O cf3 2 (by decide) rfl fl_X3_17 ex2 dX3_takeLatest_11 ?_
    refine r_iconst O (v := 1) dX3_takeLatest_14 (by decide) ?_
    refine r_isub O dX3_takeLatest_15 ?_
    obtain ⟨h3, eh3, hf⟩ := bnd hf
    refine r_pI O cf3 2 (by decide) rfl fl_X3_17 rfl eh3 dX3_takeLatest_16 ?_
    refine r_aload_n O 0 dX3_takeLatest_19 rfl (Or.inl rfl) ?_
    obtain ⟨x4, ex4, hf⟩ := bnd hf
    refine r_gP O cf3 0 (by decide) rfl fl_X3_11 ex4 dX3_takeLatest_20 ?_
    refine r_aload_n O 0 dX3_takeLatest_23 rfl (Or.inl rfl) ?_
    obtain ⟨x5, ex5, hf⟩ := bnd hf
    refine r_gI O cf3 1 (by decide) rfl fl_X3_21 ex5 dX3_takeLatest_24 ?_
    refine r_aload_n O 0 dX3_takeLatest_27 rfl (Or.inl rfl) ?_
    obtain ⟨x6, ex6, hf⟩ := bnd hf
    refine r_gI O cf3 2 (by decide) rfl fl_X3_17 ex6 dX3_takeLatest_28 ?_
    refine r_iadd O dX3_takeLatest_31 ?_
    refine r_bipush O (v := 60) dX3_takeLatest_32 (by decide) ?_
    refine r_irem O dX3_takeLatest_34 (by decide) ?_
    obtain ⟨x7, ex7, hf⟩ := bnd hf
    refine r_ldP O ex7 dX3_takeLatest_35 ?_
    obtain rfl := Option.some.inj hf
    exact r_aret O hr (rf_ref _) rfl rfl (by decide) (by decide) dX3_takeLatest_36
def f_X8_changesTo_4 (l0 : Nat) (l1 : Nat) (n : Nat) (h : AH) (l2 : Int32) (l3 : Int32) : Option Int32 := match n with
| 0 => none
| n + 1 =>
if 258 ≤ l3 then
some l2
else
Option.bind (gP h 8 l0 0) fun x1 =>
Option.bind (gP h 8 l0 2) fun x2 =>
Option.bind (f_X0_isCell h x1 x2 l3) fun x3 =>
Option.bind (gP h 8 l0 0) fun x5 =>
Option.bind (gP h 2 l1 0) fun x6 =>
Option.bind (f_X0_isCell h x5 x6 l3) fun x7 =>
Option.bind (if x3 = x7 then
some 0
else
some 1) fun x9 =>
Option.bind (if x9 = 0 then
Option.bind (gP h 8 l0 3) fun x11 =>
Option.bind (ldJ h x11 l3) fun x12 =>
Option.bind (gP h 2 l1 1) fun x13 =>
Option.bind (ldJ h x13 l3) fun x14 =>
if (lg_cmp x12 x14) = 0 then
some l2
else
some (l2 + 1)
else
some (l2 + 1)) fun x10 =>
f_X8_changesTo_4 l0 l1 n h x10 (l3 + 1)
def f_X8_changesTo (h : AH) (a0 : Nat) (a1 : Nat) : Option Int32 :=
if aK h a0 = 8 then
Option.bind (f_X8_changesTo_4 a0 a1 FU h 0 0) fun x15 =>
some x15
else none
set_option maxRecDepth 100000 in
set_option maxHeartbeats 4000000 in
theorem s_X8_changesTo_4 {p : Program} {l : Launch} {e : Env} {s : State} {m : MethodId} {args : Array Value} {below : List Frame} {meth : Method} {c : Code} {G : GT} {Q : State → Prop} (O : OkC p l s m args meth c G cX8_changesTo 5 RX8) {l0 : Nat} {l1 : Nat} {h : AH} {w2 : Int32} (kk : AW p l e { frames := 2, cells := 0, slots := 0, locals := 42 } s m args below meth c G 5 Q h 0 0 75 [(2, .int w2)] []) : ∀ (n : Nat), ∀ (l2 : Int32) (l3 : Int32), f_X8_changesTo_4 l0 l1 n h l2 l3 = some w2 → AW p l e { frames := 2, cells := 0, slots := 0, locals := 42 } s m args below meth c G 5 Q h 0 0 4 [(0, .ref l0), (1, .ref l1), (2, .int l2), (3, .int l3)] [] := by
  intro n
  induction n with
  | zero =>
    intro l2 l3 hf
    simp [f_X8_changesTo_4] at hf
  | succ n ih =>
    intro l2 l3 hf
    unfold f_X8_changesTo_4 at hf
    refine r_iload_n O 3 dX8_changesTo_4 rfl ?_
    refine r_sipush O (v := 258) dX8_changesTo_5 (by decide) ?_
    by_cases hc : 258 ≤ l3
    · rw [if_pos hc] at hf
      refine r_icmp_ge_t (tgt := 75) O dX8_changesTo_8 (by decide) hc ?_
      cases hf
      refine AW.sub [2] rfl ?_
      exact kk
    · rw [if_neg hc] at hf
      refine r_icmp_ge_f (tgt := 75) O dX8_changesTo_8 (by decide) hc ?_
      refine r_aload_n O 0 dX8_changesTo_11 rfl (Or.inl rfl) ?_
      obtain ⟨x1, ex1, hf⟩ := bnd hf
      refine r_gP O cf8 0 (by decide) rfl fl_X8_10 ex1 dX8_changesTo_12 ?_
      refine r_aload_n O 0 dX8_changesTo_15 rfl (Or.inl rfl) ?_
      obtain ⟨x2, ex2, hf⟩ := bnd hf
      refine r_gP O cf8 2 (by decide) rfl fl_X8_23 ex2 dX8_changesTo_16 ?_
      refine r_iload_n O 3 dX8_changesTo_19 rfl ?_
      obtain ⟨x3, ex3, hf⟩ := bnd hf
      refine r_callV (av := [.ref x2, .int l3]) (st := []) O (c_X0_isCell ex3) mf_X0_isCell cf0 (kd_X0_isCell ex3) ml_X8_294 mi_X0_isCell mv_X0_isCell (by decide) (Nat.le_of_ble_eq_true rfl) (by decide) dX8_changesTo_20 ?_
      refine r_aload_n O 0 dX8_changesTo_23 rfl (Or.inl rfl) ?_
      obtain ⟨x5, ex5, hf⟩ := bnd hf
      refine r_gP O cf8 0 (by decide) rfl fl_X8_10 ex5 dX8_changesTo_24 ?_
      refine r_aload_n O 1 dX8_changesTo_27 rfl (Or.inl rfl) ?_
      obtain ⟨x6, ex6, hf⟩ := bnd hf
      refine r_gP O cf2 0 (by decide) rfl fl_X8_194 ex6 dX8_changesTo_28 ?_
      refine r_iload_n O 3 dX8_changesTo_31 rfl ?_
      obtain ⟨x7, ex7, hf⟩ := bnd hf
      refine r_callV (av := [.ref x6, .int l3]) (st := [.int x3]) O (c_X0_isCell ex7) mf_X0_isCell cf0 (kd_X0_isCell ex7) ml_X8_294 mi_X0_isCell mv_X0_isCell (by decide) (Nat.le_of_ble_eq_true rfl) (by decide) dX8_changesTo_32 ?_
      obtain ⟨x9, hg, hf⟩ := bnd hf
      have hJ : AW p l e { frames := 2, cells := 0, slots := 0, locals := 42 } s m args below meth c G 5 Q h 0 0 43 [(0, .ref l0), (1, .ref l1), (2, .int l2), (3, .int l3)] [.int x9] := by
        refine r_istore O [(4, .int x9), (0, .ref l0), (1, .ref l1), (2, .int l2), (3, .int l3)] dX8_changesTo_43 (by decide) rfl ?_
        refine r_iload O 0 dX8_changesTo_45 rfl ?_
        obtain ⟨x10, hg, hf⟩ := bnd hf
        have hJ : AW p l e { frames := 2, cells := 0, slots := 0, locals := 42 } s m args below meth c G 5 Q h 0 0 69 [(0, .ref l0), (1, .ref l1), (2, .int x10), (3, .int l3)] [] := by
          refine r_iinc O 3 [(3, .int (l3 + 1)), (0, .ref l0), (1, .ref l1), (2, .int x10)] dX8_changesTo_69 rfl rfl (by decide) rfl ?_
          refine r_goto (tgt := 4) O dX8_changesTo_72 (by decide) ?_
          refine AW.sub [1, 2, 3, 0] rfl ?_
          exact ih _ _ hf
        clear hf
        have hf := hg
        clear hg
        by_cases hc : x9 = 0
        · rw [if_pos hc] at hf
          refine r_if_ne_f (tgt := 66) O dX8_changesTo_47 (by decide) hc ?_
          refine r_aload_n O 1 dX8_changesTo_50 rfl (Or.inl rfl) ?_
          obtain ⟨x11, ex11, hf⟩ := bnd hf
          refine r_gP O cf8 3 (by decide) rfl fl_X8_26 ex11 dX8_changesTo_51 ?_
          refine r_iload_n O 4 dX8_changesTo_54 rfl ?_
          obtain ⟨x12, ex12, hf⟩ := bnd hf
          refine r_ldJ O ex12 dX8_changesTo_55 ?_
          refine r_aload_n O 2 dX8_changesTo_56 rfl (Or.inl rfl) ?_
          obtain ⟨x13, ex13, hf⟩ := bnd hf
          refine r_gP O cf2 1 (by decide) rfl fl_X8_197 ex13 dX8_changesTo_57 ?_
          refine r_iload_n O 4 dX8_changesTo_60 rfl ?_
          obtain ⟨x14, ex14, hf⟩ := bnd hf
          refine r_ldJ O ex14 dX8_changesTo_61 ?_
          refine r_lcmp O dX8_changesTo_62 ?_
          by_cases hc : (lg_cmp x12 x14) = 0
          · rw [if_pos hc] at hf
            refine r_if_eq_t (tgt := 69) O dX8_changesTo_63 (by decide) hc ?_
            cases hf
            refine AW.sub [1, 2, 3, 4] rfl ?_
            exact hJ
          · rw [if_neg hc] at hf
            refine r_if_eq_f (tgt := 69) O dX8_changesTo_63 (by decide) hc ?_
            refine r_iinc O 3 [(2, .int (l2 + 1)), (4, .int x9), (0, .ref l0), (1, .ref l1), (3, .int l3)] dX8_changesTo_66 rfl rfl (by decide) rfl ?_
            cases hf
            refine AW.sub [2, 3, 0, 4] rfl ?_
            exact hJ
        · rw [if_neg hc] at hf
          refine r_if_ne_t (tgt := 66) O dX8_changesTo_47 (by decide) hc ?_
          refine r_iinc O 3 [(2, .int (l2 + 1)), (4, .int x9), (0, .ref l0), (1, .ref l1), (3, .int l3)] dX8_changesTo_66 rfl rfl (by decide) rfl ?_
          cases hf
          refine AW.sub [2, 3, 0, 4] rfl ?_
          exact hJ
      clear hf
      have hf := hg
      clear hg
      by_cases hc : x3 = x7
      · rw [if_pos hc] at hf
        refine r_icmp_eq_t (tgt := 42) O dX8_changesTo_35 (by decide) hc ?_
        refine r_iconst O (v := 0) dX8_changesTo_42 (by decide) ?_
        cases hf
        refine AW.sub [0, 1, 2, 3] rfl ?_
        exact hJ
      · rw [if_neg hc] at hf
        refine r_icmp_eq_f (tgt := 42) O dX8_changesTo_35 (by decide) hc ?_
        refine r_iconst O (v := 1) dX8_changesTo_38 (by decide) ?_
        refine r_goto (tgt := 43) O dX8_changesTo_39 (by decide) ?_
        cases hf
        refine AW.sub [0, 1, 2, 3] rfl ?_
        exact hJ
theorem kd_X8_changesTo {h : AH} {a0 : Nat} {a1 : Nat} {r : Int32} (hf : f_X8_changesTo h a0 a1 = some r) : aK h a0 = 8 := by
  unfold f_X8_changesTo at hf
  exact (ifk hf).1
set_option maxRecDepth 100000 in
set_option maxHeartbeats 4000000 in
theorem c_X8_changesTo {l : Launch} {G : GT} {h : AH} {a0 : Nat} {a1 : Nat} {r : Int32} (hf : f_X8_changesTo h a0 a1 = some r) : Cn l yX8_changesTo cX8_changesTo 5 (some .int) 2 42 0 0 G h [.ref a0, .ref a1] (.ok (some (.int r))) h := by
  refine Cn.of (by decide) (Nat.le_of_ble_eq_true rfl) ?_
  intro p e s m args below meth c O hr hx hin
  have O : OkC p l s m args meth c G cX8_changesTo 5 RX8 := O
  unfold f_X8_changesTo at hf
  obtain ⟨hk0, hf⟩ := ifk hf
  refine AW.sub (lv' := [(0, .ref a0), (1, .ref a1)]) [0, 1] rfl ?_
  refine r_iconst O (v := 0) dX8_changesTo_0 (by decide) ?_
  refine r_istore_n O [(2, .int 0), (0, .ref a0), (1, .ref a1)] dX8_changesTo_1 (by decide) rfl ?_
  refine r_iconst O (v := 0) dX8_changesTo_2 (by decide) ?_
  refine r_istore_n O [(3, .int 0), (2, .int 0), (0, .ref a0), (1, .ref a1)] dX8_changesTo_3 (by decide) rfl ?_
  obtain ⟨x15, hw, hf⟩ := bnd hf
  refine AW.sub [2, 3, 1, 0] rfl ?_
  refine s_X8_changesTo_4 O ?_ _ _ _ hw
  refine r_iload_n O 0 dX8_changesTo_75 rfl ?_
  obtain rfl := Option.some.inj hf
  exact r_iret O hr rfl rfl (by decide) (by decide) dX8_changesTo_76
def f_X8_undo (h : AH) (a0 : Nat) : Option (Except Nat Int32 × AH) :=
if aK h a0 = 8 then
Option.bind (f_X8_needClosedBook h a0) fun w => match w with
| (.error k9, h2) => some (.error k9, h2)
| (.ok x1, h2) =>
Option.bind (gI h2 8 a0 9) fun x3 =>
if x3 = 0 then
Option.bind (gP h2 8 a0 7) fun x4 =>
Option.bind (f_X3_takeLatest h2 x4) fun w => match w with
| (x5, h6) =>
match x5 with
| none =>
some (.ok (-1), h6)
| some x7 =>
Option.bind (f_X8_changesTo h6 a0 x7) fun x8 =>
Option.bind (gP h6 8 a0 2) fun x10 =>
Option.bind (gP h6 2 x7 0) fun x11 =>
Option.bind (f_X4_copyFrom h6 x10 x11) fun h13 =>
Option.bind (gP h13 8 a0 1) fun x14 =>
Option.bind (gP h13 8 a0 2) fun x15 =>
Option.bind (f_X4_copyFrom h13 x14 x15) fun h17 =>
Option.bind (gP h17 2 x7 1) fun x18 =>
Option.bind (gP h17 8 a0 3) fun x19 =>
Option.bind (cpJ h17 x18 0 x19 0 258) fun h20 =>
Option.bind (gP h20 8 a0 6) fun x21 =>
Option.bind (gP h20 1 x21 1) fun x22 =>
Option.bind (gP h20 8 a0 2) fun x23 =>
Option.bind (f_X5_arrange h20 x22 x23) fun w => match w with
| (x24, h25) =>
Option.bind (gP h25 8 a0 4) fun x26 =>
Option.bind (gP h25 8 a0 6) fun x27 =>
Option.bind (gP h25 1 x27 1) fun x28 =>
Option.bind (gP h25 5 x28 9) fun x29 =>
Option.bind (f_X6_copyFrom h25 x26 x29) fun h31 =>
Option.bind (gP h31 8 a0 5) fun x32 =>
Option.bind (f_X6_clear h31 x32) fun h34 =>
some (.ok x8, h34)
else
some (.error 0, nx h2)
else none
theorem kd_X8_undo {h : AH} {a0 : Nat} {r : (Except Nat Int32 × AH)} (hf : f_X8_undo h a0 = some r) : aK h a0 = 8 := by
  unfold f_X8_undo at hf
  exact (ifk hf).1
set_option maxRecDepth 100000 in
set_option maxHeartbeats 4000000 in
theorem c_X8_undo {l : Launch} {G : GT} {h : AH} {a0 : Nat} {r : (Except Nat Int32 × AH)} (hf : f_X8_undo h a0 = some r) : Cn l yX8_undo cX8_undo 3 (some .int) 7 118 2 12 G h [.ref a0] (r.1.map (fun x => some (.int x))) r.2 := by
  refine Cn.of (by decide) (Nat.le_of_ble_eq_true rfl) ?_
  intro p e s m args below meth c O hr hx hin
  have O : OkC p l s m args meth c G cX8_undo 3 RX8 := O
  unfold f_X8_undo at hf
  obtain ⟨hk0, hf⟩ := ifk hf
  refine AW.sub (lv' := [(0, .ref a0)]) [0] rfl ?_
  refine r_aload_n O 0 dX8_undo_0 rfl (Or.inl rfl) ?_
  obtain ⟨⟨w, h2⟩, ex1, hf⟩ := bnd hf
  cases w with
  | error k9 =>
    dsimp only at hf
    obtain rfl := Option.some.inj hf
    exact r_thrV (av := []) (st := []) O hx (c_X8_needClosedBook ex1) mf_X8_needClosedBook cf8 (kd_X8_needClosedBook ex1) ml_X8_121 mi_X8_needClosedBook mv_X8_needClosedBook (by decide) (Nat.le_of_ble_eq_true rfl) (by decide) (by decide) (by decide) dX8_undo_1
  | ok x1 =>
    dsimp only at hf
    refine r_callV (av := []) (st := []) O (c_X8_needClosedBook ex1) mf_X8_needClosedBook cf8 (kd_X8_needClosedBook ex1) ml_X8_121 mi_X8_needClosedBook mv_X8_needClosedBook (by decide) (Nat.le_of_ble_eq_true rfl) (by decide) dX8_undo_1 ?_
    refine r_aload_n O 0 dX8_undo_4 rfl (Or.inl rfl) ?_
    obtain ⟨x3, ex3, hf⟩ := bnd hf
    refine r_gI O cf8 9 (by decide) rfl fl_X8_171 ex3 dX8_undo_5 ?_
    by_cases hc : x3 = 0
    · rw [if_pos hc] at hf
      refine r_if_eq_t (tgt := 21) O dX8_undo_8 (by decide) hc ?_
      refine r_aload_n O 0 dX8_undo_21 rfl (Or.inl rfl) ?_
      obtain ⟨x4, ex4, hf⟩ := bnd hf
      refine r_gP O cf8 7 (by decide) rfl fl_X8_52 ex4 dX8_undo_22 ?_
      obtain ⟨⟨x5, h6⟩, ex5, hf⟩ := bnd hf
      dsimp only at hf
      refine r_callV (av := []) (st := []) O (c_X3_takeLatest ex5) mf_X3_takeLatest cf3 (kd_X3_takeLatest ex5) ml_X8_186 mi_X3_takeLatest mv_X3_takeLatest (by decide) (Nat.le_of_ble_eq_true rfl) (by decide) dX8_undo_25 ?_
      refine r_astore_n O [(1, rf x5), (0, .ref a0)] dX8_undo_28 (rf_ref _) (by decide) (by simp [rf_cat]) ?_
      refine r_aload_n O 0 dX8_undo_29 rfl (Or.inl (rf_ref _)) ?_
      cases x5 with
      | none =>
        dsimp only [rf] at hf ⊢
        refine r_ifnonnull_f (tgt := 35) O dX8_undo_30 (by decide) ?_
        refine r_iconst O (v := -1) dX8_undo_33 (by decide) ?_
        obtain rfl := Option.some.inj hf
        exact r_iret O hr rfl rfl (by decide) (by decide) dX8_undo_34
      | some x7 =>
        dsimp only [rf] at hf ⊢
        refine r_ifnonnull_t (tgt := 35) O dX8_undo_30 (by decide) ?_
        refine r_aload_n O 1 dX8_undo_35 rfl (Or.inl rfl) ?_
        refine r_aload_n O 0 dX8_undo_36 rfl (Or.inl rfl) ?_
        obtain ⟨x8, ex8, hf⟩ := bnd hf
        refine r_callV (av := [.ref x7]) (st := []) O (c_X8_changesTo ex8) mf_X8_changesTo cf8 (kd_X8_changesTo ex8) ml_X8_190 mi_X8_changesTo mv_X8_changesTo (by decide) (Nat.le_of_ble_eq_true rfl) (by decide) dX8_undo_37 ?_
        refine r_istore_n O [(2, .int x8), (1, .ref x7), (0, .ref a0)] dX8_undo_40 (by decide) rfl ?_
        refine r_aload_n O 2 dX8_undo_41 rfl (Or.inl rfl) ?_
        obtain ⟨x10, ex10, hf⟩ := bnd hf
        refine r_gP O cf8 2 (by decide) rfl fl_X8_23 ex10 dX8_undo_42 ?_
        refine r_aload_n O 1 dX8_undo_45 rfl (Or.inl rfl) ?_
        obtain ⟨x11, ex11, hf⟩ := bnd hf
        refine r_gP O cf2 0 (by decide) rfl fl_X8_194 ex11 dX8_undo_46 ?_
        obtain ⟨h13, eh13, hf⟩ := bnd hf
        refine r_callV (av := [.ref x11]) (st := []) O (c_X4_copyFrom eh13) mf_X4_copyFrom cf4 (kd_X4_copyFrom eh13) ml_X8_182 mi_X4_copyFrom mv_X4_copyFrom (by decide) (Nat.le_of_ble_eq_true rfl) (by decide) dX8_undo_49 ?_
        refine r_aload_n O 2 dX8_undo_52 rfl (Or.inl rfl) ?_
        obtain ⟨x14, ex14, hf⟩ := bnd hf
        refine r_gP O cf8 1 (by decide) rfl fl_X8_19 ex14 dX8_undo_53 ?_
        refine r_aload_n O 2 dX8_undo_56 rfl (Or.inl rfl) ?_
        obtain ⟨x15, ex15, hf⟩ := bnd hf
        refine r_gP O cf8 2 (by decide) rfl fl_X8_23 ex15 dX8_undo_57 ?_
        obtain ⟨h17, eh17, hf⟩ := bnd hf
        refine r_callV (av := [.ref x15]) (st := []) O (c_X4_copyFrom eh17) mf_X4_copyFrom cf4 (kd_X4_copyFrom eh17) ml_X8_182 mi_X4_copyFrom mv_X4_copyFrom (by decide) (Nat.le_of_ble_eq_true rfl) (by decide) dX8_undo_60 ?_
        refine r_aload_n O 1 dX8_undo_63 rfl (Or.inl rfl) ?_
        obtain ⟨x18, ex18, hf⟩ := bnd hf
        refine r_gP O cf2 1 (by decide) rfl fl_X8_197 ex18 dX8_undo_64 ?_
        refine r_iconst O (v := 0) dX8_undo_67 (by decide) ?_
        refine r_aload_n O 2 dX8_undo_68 rfl (Or.inl rfl) ?_
        obtain ⟨x19, ex19, hf⟩ := bnd hf
        refine r_gP O cf8 3 (by decide) rfl fl_X8_26 ex19 dX8_undo_69 ?_
        refine r_iconst O (v := 0) dX8_undo_72 (by decide) ?_
        refine r_sipush O (v := 258) dX8_undo_73 (by decide) ?_
        obtain ⟨h20, eh20, hf⟩ := bnd hf
        refine r_cpJ O eh20 ml_X8_198 (by decide) (Nat.le_of_ble_eq_true rfl) dX8_undo_76 ?_
        refine r_aload_n O 2 dX8_undo_79 rfl (Or.inl rfl) ?_
        obtain ⟨x21, ex21, hf⟩ := bnd hf
        refine r_gP O cf8 6 (by decide) rfl fl_X8_45 ex21 dX8_undo_80 ?_
        obtain ⟨x22, ex22, hf⟩ := bnd hf
        refine r_gP O cf1 1 (by decide) rfl fl_X8_204 ex22 dX8_undo_83 ?_
        refine r_aload_n O 2 dX8_undo_86 rfl (Or.inl rfl) ?_
        obtain ⟨x23, ex23, hf⟩ := bnd hf
        refine r_gP O cf8 2 (by decide) rfl fl_X8_23 ex23 dX8_undo_87 ?_
        obtain ⟨⟨x24, h25⟩, ex24, hf⟩ := bnd hf
        dsimp only at hf
        refine r_callV (av := [.ref x23]) (st := []) O (c_X5_arrange ex24) mf_X5_arrange cf5 (kd_X5_arrange ex24) ml_X8_208 mi_X5_arrange mv_X5_arrange (by decide) (Nat.le_of_ble_eq_true rfl) (by decide) dX8_undo_90 ?_
        refine r_pop O dX8_undo_93 rfl ?_
        refine r_aload_n O 2 dX8_undo_94 rfl (Or.inl rfl) ?_
        obtain ⟨x26, ex26, hf⟩ := bnd hf
        refine r_gP O cf8 4 (by decide) rfl fl_X8_33 ex26 dX8_undo_95 ?_
        refine r_aload_n O 2 dX8_undo_98 rfl (Or.inl rfl) ?_
        obtain ⟨x27, ex27, hf⟩ := bnd hf
        refine r_gP O cf8 6 (by decide) rfl fl_X8_45 ex27 dX8_undo_99 ?_
        obtain ⟨x28, ex28, hf⟩ := bnd hf
        refine r_gP O cf1 1 (by decide) rfl fl_X8_204 ex28 dX8_undo_102 ?_
        obtain ⟨x29, ex29, hf⟩ := bnd hf
        refine r_gP O cf5 9 (by decide) rfl fl_X8_214 ex29 dX8_undo_105 ?_
        obtain ⟨h31, eh31, hf⟩ := bnd hf
        refine r_callV (av := [.ref x29]) (st := []) O (c_X6_copyFrom eh31) mf_X6_copyFrom cf6 (kd_X6_copyFrom eh31) ml_X8_215 mi_X6_copyFrom mv_X6_copyFrom (by decide) (Nat.le_of_ble_eq_true rfl) (by decide) dX8_undo_108 ?_
        refine r_aload_n O 2 dX8_undo_111 rfl (Or.inl rfl) ?_
        obtain ⟨x32, ex32, hf⟩ := bnd hf
        refine r_gP O cf8 5 (by decide) rfl fl_X8_37 ex32 dX8_undo_112 ?_
        obtain ⟨h34, eh34, hf⟩ := bnd hf
        refine r_callV (av := []) (st := []) O (c_X6_clear eh34) mf_X6_clear cf6 (kd_X6_clear eh34) ml_X8_218 mi_X6_clear mv_X6_clear (by decide) (Nat.le_of_ble_eq_true rfl) (by decide) dX8_undo_115 ?_
        refine r_iload_n O 0 dX8_undo_118 rfl ?_
        obtain rfl := Option.some.inj hf
        exact r_iret O hr rfl rfl (by decide) (by decide) dX8_undo_119
    · rw [if_neg hc] at hf
      refine r_if_eq_f (tgt := 21) O dX8_undo_8 (by decide) hc ?_
      obtain rfl := Option.some.inj hf
      exact r_throw 0 O hx kl_X8_63 xa_X8_63_67 st_X8_174 (by decide) (by decide) (Nat.le_of_ble_eq_true rfl) (by decide) (by decide) (by decide) dX8_undo_11 dX8_undo_14 dX8_undo_15 dX8_undo_17 dX8_undo_20
def f_X8_shadow (h : AH) (a0 : Nat) (a1 : Int32) (a2 : Int32) : Option (Except Nat Int64 × AH) :=
if aK h a0 = 8 then
Option.bind (f_X8_needThing h a0 a1) fun w => match w with
| (.error k9, h2) => some (.error k9, h2)
| (.ok x1, h2) =>
Option.bind (f_X8_isThingKind h2 a2) fun x3 =>
Option.bind (f_X8_need h2 x3) fun w => match w with
| (.error k9, h6) => some (.error k9, h6)
| (.ok x5, h6) =>
Option.bind (gP h6 8 a0 3) fun x7 =>
Option.bind (f_X8_shadowOf h6 a1 a2) fun x8 =>
Option.bind (ldJ h6 x7 x8) fun x10 =>
some (.ok x10, h6)
else none
theorem kd_X8_shadow {h : AH} {a0 : Nat} {a1 : Int32} {a2 : Int32} {r : (Except Nat Int64 × AH)} (hf : f_X8_shadow h a0 a1 a2 = some r) : aK h a0 = 8 := by
  unfold f_X8_shadow at hf
  exact (ifk hf).1
set_option maxRecDepth 100000 in
set_option maxHeartbeats 4000000 in
theorem c_X8_shadow {l : Launch} {G : GT} {h : AH} {a0 : Nat} {a1 : Int32} {a2 : Int32} {r : (Except Nat Int64 × AH)} (hf : f_X8_shadow h a0 a1 a2 = some r) : Cn l yX8_shadow cX8_shadow 3 (some .long) 7 111 2 12 G h [.ref a0, .int a1, .int a2] (r.1.map (fun x => some (.long x))) r.2 := by
  refine Cn.of (by decide) (Nat.le_of_ble_eq_true rfl) ?_
  intro p e s m args below meth c O hr hx hin
  have O : OkC p l s m args meth c G cX8_shadow 3 RX8 := O
  unfold f_X8_shadow at hf
  obtain ⟨hk0, hf⟩ := ifk hf
  refine AW.sub (lv' := [(0, .ref a0), (1, .int a1), (2, .int a2)]) [0, 1, 2] rfl ?_
  refine r_aload_n O 0 dX8_shadow_0 rfl (Or.inl rfl) ?_
  refine r_iload_n O 1 dX8_shadow_1 rfl ?_
  obtain ⟨⟨w, h2⟩, ex1, hf⟩ := bnd hf
  cases w with
  | error k9 =>
    dsimp only at hf
    obtain rfl := Option.some.inj hf
    exact r_thrV (av := [.int a1]) (st := []) O hx (c_X8_needThing ex1) mf_X8_needThing cf8 (kd_X8_needThing ex1) ml_X8_114 mi_X8_needThing mv_X8_needThing (by decide) (Nat.le_of_ble_eq_true rfl) (by decide) (by decide) (by decide) dX8_shadow_2
  | ok x1 =>
    dsimp only at hf
    refine r_callV (av := [.int a1]) (st := []) O (c_X8_needThing ex1) mf_X8_needThing cf8 (kd_X8_needThing ex1) ml_X8_114 mi_X8_needThing mv_X8_needThing (by decide) (Nat.le_of_ble_eq_true rfl) (by decide) dX8_shadow_2 ?_
    refine r_iload_n O 2 dX8_shadow_5 rfl ?_
    obtain ⟨x3, ex3, hf⟩ := bnd hf
    refine r_callS (av := [.int a2]) (st := []) O (c_X8_isThingKind ex3) mf_X8_isThingKind ml_X8_221 ms_X8_isThingKind (by decide) (Nat.le_of_ble_eq_true rfl) (by decide) dX8_shadow_6 ?_
    obtain ⟨⟨w, h6⟩, ex5, hf⟩ := bnd hf
    cases w with
    | error k9 =>
      dsimp only at hf
      obtain rfl := Option.some.inj hf
      exact r_thrS (av := [.int x3]) (st := []) O hx (c_X8_need ex5) mf_X8_need ml_X8_92 ms_X8_need (by decide) (Nat.le_of_ble_eq_true rfl) (by decide) (by decide) (by decide) dX8_shadow_9
    | ok x5 =>
      dsimp only at hf
      refine r_callS (av := [.int x3]) (st := []) O (c_X8_need ex5) mf_X8_need ml_X8_92 ms_X8_need (by decide) (Nat.le_of_ble_eq_true rfl) (by decide) dX8_shadow_9 ?_
      refine r_aload_n O 0 dX8_shadow_12 rfl (Or.inl rfl) ?_
      obtain ⟨x7, ex7, hf⟩ := bnd hf
      refine r_gP O cf8 3 (by decide) rfl fl_X8_26 ex7 dX8_shadow_13 ?_
      refine r_iload_n O 1 dX8_shadow_16 rfl ?_
      refine r_iload_n O 2 dX8_shadow_17 rfl ?_
      obtain ⟨x8, ex8, hf⟩ := bnd hf
      refine r_callS (av := [.int a1, .int a2]) (st := [.ref x7]) O (c_X8_shadowOf ex8) mf_X8_shadowOf ml_X8_224 ms_X8_shadowOf (by decide) (Nat.le_of_ble_eq_true rfl) (by decide) dX8_shadow_18 ?_
      obtain ⟨x10, ex10, hf⟩ := bnd hf
      refine r_ldJ O ex10 dX8_shadow_21 ?_
      obtain rfl := Option.some.inj hf
      exact r_lret O hr rfl rfl (by decide) (by decide) dX8_shadow_22
def f_X8_listShadow (h : AH) (a0 : Nat) (a1 : Int32) (a2 : Int32) : Option (Except Nat Int64 × AH) :=
if aK h a0 = 8 then
Option.bind (f_X8_needList h a0 a1) fun w => match w with
| (.error k9, h2) => some (.error k9, h2)
| (.ok x1, h2) =>
Option.bind (f_X8_isListKind h2 a2) fun x3 =>
Option.bind (f_X8_need h2 x3) fun w => match w with
| (.error k9, h6) => some (.error k9, h6)
| (.ok x5, h6) =>
Option.bind (gP h6 8 a0 3) fun x7 =>
Option.bind (f_X8_shadowOfList h6 a1 a2) fun x8 =>
Option.bind (ldJ h6 x7 x8) fun x10 =>
some (.ok x10, h6)
else none
theorem kd_X8_listShadow {h : AH} {a0 : Nat} {a1 : Int32} {a2 : Int32} {r : (Except Nat Int64 × AH)} (hf : f_X8_listShadow h a0 a1 a2 = some r) : aK h a0 = 8 := by
  unfold f_X8_listShadow at hf
  exact (ifk hf).1
set_option maxRecDepth 100000 in
set_option maxHeartbeats 4000000 in
theorem c_X8_listShadow {l : Launch} {G : GT} {h : AH} {a0 : Nat} {a1 : Int32} {a2 : Int32} {r : (Except Nat Int64 × AH)} (hf : f_X8_listShadow h a0 a1 a2 = some r) : Cn l yX8_listShadow cX8_listShadow 3 (some .long) 7 111 2 12 G h [.ref a0, .int a1, .int a2] (r.1.map (fun x => some (.long x))) r.2 := by
  refine Cn.of (by decide) (Nat.le_of_ble_eq_true rfl) ?_
  intro p e s m args below meth c O hr hx hin
  have O : OkC p l s m args meth c G cX8_listShadow 3 RX8 := O
  unfold f_X8_listShadow at hf
  obtain ⟨hk0, hf⟩ := ifk hf
  refine AW.sub (lv' := [(0, .ref a0), (1, .int a1), (2, .int a2)]) [0, 1, 2] rfl ?_
  refine r_aload_n O 0 dX8_listShadow_0 rfl (Or.inl rfl) ?_
  refine r_iload_n O 1 dX8_listShadow_1 rfl ?_
  obtain ⟨⟨w, h2⟩, ex1, hf⟩ := bnd hf
  cases w with
  | error k9 =>
    dsimp only at hf
    obtain rfl := Option.some.inj hf
    exact r_thrV (av := [.int a1]) (st := []) O hx (c_X8_needList ex1) mf_X8_needList cf8 (kd_X8_needList ex1) ml_X8_118 mi_X8_needList mv_X8_needList (by decide) (Nat.le_of_ble_eq_true rfl) (by decide) (by decide) (by decide) dX8_listShadow_2
  | ok x1 =>
    dsimp only at hf
    refine r_callV (av := [.int a1]) (st := []) O (c_X8_needList ex1) mf_X8_needList cf8 (kd_X8_needList ex1) ml_X8_118 mi_X8_needList mv_X8_needList (by decide) (Nat.le_of_ble_eq_true rfl) (by decide) dX8_listShadow_2 ?_
    refine r_iload_n O 2 dX8_listShadow_5 rfl ?_
    obtain ⟨x3, ex3, hf⟩ := bnd hf
    refine r_callS (av := [.int a2]) (st := []) O (c_X8_isListKind ex3) mf_X8_isListKind ml_X8_227 ms_X8_isListKind (by decide) (Nat.le_of_ble_eq_true rfl) (by decide) dX8_listShadow_6 ?_
    obtain ⟨⟨w, h6⟩, ex5, hf⟩ := bnd hf
    cases w with
    | error k9 =>
      dsimp only at hf
      obtain rfl := Option.some.inj hf
      exact r_thrS (av := [.int x3]) (st := []) O hx (c_X8_need ex5) mf_X8_need ml_X8_92 ms_X8_need (by decide) (Nat.le_of_ble_eq_true rfl) (by decide) (by decide) (by decide) dX8_listShadow_9
    | ok x5 =>
      dsimp only at hf
      refine r_callS (av := [.int x3]) (st := []) O (c_X8_need ex5) mf_X8_need ml_X8_92 ms_X8_need (by decide) (Nat.le_of_ble_eq_true rfl) (by decide) dX8_listShadow_9 ?_
      refine r_aload_n O 0 dX8_listShadow_12 rfl (Or.inl rfl) ?_
      obtain ⟨x7, ex7, hf⟩ := bnd hf
      refine r_gP O cf8 3 (by decide) rfl fl_X8_26 ex7 dX8_listShadow_13 ?_
      refine r_iload_n O 1 dX8_listShadow_16 rfl ?_
      refine r_iload_n O 2 dX8_listShadow_17 rfl ?_
      obtain ⟨x8, ex8, hf⟩ := bnd hf
      refine r_callS (av := [.int a1, .int a2]) (st := [.ref x7]) O (c_X8_shadowOfList ex8) mf_X8_shadowOfList ml_X8_230 ms_X8_shadowOfList (by decide) (Nat.le_of_ble_eq_true rfl) (by decide) dX8_listShadow_18 ?_
      obtain ⟨x10, ex10, hf⟩ := bnd hf
      refine r_ldJ O ex10 dX8_listShadow_21 ?_
      obtain rfl := Option.some.inj hf
      exact r_lret O hr rfl rfl (by decide) (by decide) dX8_listShadow_22
def f_X4_neighbour (h : AH) (a0 : Nat) (a1 : Int32) (a2 : Int32) : Option Int32 :=
if aK h a0 = 4 then
Option.bind (gP h 4 a0 3) fun x1 =>
Option.bind (ldI h x1 a1) fun x2 =>
Option.bind (if x2 = (-1) then
some (-1)
else
Option.bind (gP h 4 a0 4) fun x4 =>
Option.bind (ldI h x4 a1) fun x5 =>
Option.bind (f_X4_standsAt h a0 x2 (x5 + a2)) fun x6 =>
some x6) fun x3 =>
some x3
else none
theorem kd_X4_neighbour {h : AH} {a0 : Nat} {a1 : Int32} {a2 : Int32} {r : Int32} (hf : f_X4_neighbour h a0 a1 a2 = some r) : aK h a0 = 4 := by
  unfold f_X4_neighbour at hf
  exact (ifk hf).1
set_option maxRecDepth 100000 in
set_option maxHeartbeats 4000000 in
theorem c_X4_neighbour {l : Launch} {G : GT} {h : AH} {a0 : Nat} {a1 : Int32} {a2 : Int32} {r : Int32} (hf : f_X4_neighbour h a0 a1 a2 = some r) : Cn l yX4_neighbour cX4_neighbour 4 (some .int) 1 22 0 0 G h [.ref a0, .int a1, .int a2] (.ok (some (.int r))) h := by
  refine Cn.of (by decide) (Nat.le_of_ble_eq_true rfl) ?_
  intro p e s m args below meth c O hr hx hin
  have O : OkC p l s m args meth c G cX4_neighbour 4 RX4 := O
  unfold f_X4_neighbour at hf
  obtain ⟨hk0, hf⟩ := ifk hf
  refine AW.sub (lv' := [(0, .ref a0), (1, .int a1), (2, .int a2)]) [0, 1, 2] rfl ?_
  refine r_aload_n O 0 dX4_neighbour_0 rfl (Or.inl rfl) ?_
  obtain ⟨x1, ex1, hf⟩ := bnd hf
  refine r_gP O cf4 3 (by decide) rfl fl_X4_21 ex1 dX4_neighbour_1 ?_
  refine r_iload_n O 1 dX4_neighbour_4 rfl ?_
  obtain ⟨x2, ex2, hf⟩ := bnd hf
  refine r_ldI O ex2 dX4_neighbour_5 ?_
  refine r_istore_n O [(3, .int x2), (0, .ref a0), (1, .int a1), (2, .int a2)] dX4_neighbour_6 (by decide) rfl ?_
  refine r_iload_n O 0 dX4_neighbour_7 rfl ?_
  refine r_iconst O (v := -1) dX4_neighbour_8 (by decide) ?_
  obtain ⟨x3, hg, hf⟩ := bnd hf
  have hJ : AW p l e { frames := 1, cells := 0, slots := 0, locals := 22 } s m args below meth c G 4 (vx_MQ below (QcN G (.ok (some (.int r))) h) (XcN G (.ok (some (.int r))) h) args s 0 0 (gA G)) h 0 0 29 [] [.int x3] := by
    obtain rfl := Option.some.inj hf
    exact r_iret O hr rfl rfl (by decide) (by decide) dX4_neighbour_29
  clear hf
  have hf := hg
  clear hg
  by_cases hc : x2 = (-1)
  · rw [if_pos hc] at hf
    refine r_icmp_ne_f (tgt := 16) O dX4_neighbour_9 (by decide) hc ?_
    refine r_iconst O (v := -1) dX4_neighbour_12 (by decide) ?_
    refine r_goto (tgt := 29) O dX4_neighbour_13 (by decide) ?_
    cases hf
    refine AW.sub [] rfl ?_
    exact hJ
  · rw [if_neg hc] at hf
    refine r_icmp_ne_t (tgt := 16) O dX4_neighbour_9 (by decide) hc ?_
    refine r_aload_n O 1 dX4_neighbour_16 rfl (Or.inl rfl) ?_
    refine r_iload_n O 0 dX4_neighbour_17 rfl ?_
    refine r_aload_n O 1 dX4_neighbour_18 rfl (Or.inl rfl) ?_
    obtain ⟨x4, ex4, hf⟩ := bnd hf
    refine r_gP O cf4 4 (by decide) rfl fl_X4_24 ex4 dX4_neighbour_19 ?_
    refine r_iload_n O 2 dX4_neighbour_22 rfl ?_
    obtain ⟨x5, ex5, hf⟩ := bnd hf
    refine r_ldI O ex5 dX4_neighbour_23 ?_
    refine r_iload_n O 3 dX4_neighbour_24 rfl ?_
    refine r_iadd O dX4_neighbour_25 ?_
    obtain ⟨x6, ex6, hf⟩ := bnd hf
    refine r_callV (av := [.int x2, .int (x5 + a2)]) (st := []) O (c_X4_standsAt ex6) mf_X4_standsAt cf4 (kd_X4_standsAt ex6) ml_X4_59 mi_X4_standsAt mv_X4_standsAt (by decide) (Nat.le_of_ble_eq_true rfl) (by decide) dX4_neighbour_26 ?_
    cases hf
    refine AW.sub [] rfl ?_
    exact hJ
def f_X8_where (h : AH) (a0 : Nat) (a1 : Int32) (a2 : Int32) : Option (Except Nat Int32 × AH) :=
if aK h a0 = 8 then
Option.bind (f_X8_needThing h a0 a1) fun w => match w with
| (.error k9, h2) => some (.error k9, h2)
| (.ok x1, h2) =>
if a2 = 0 then
Option.bind (gP h2 8 a0 1) fun x3 =>
Option.bind (gP h2 4 x3 3) fun x4 =>
Option.bind (ldI h2 x4 a1) fun x5 =>
some (.ok x5, h2)
else
if a2 = 1 then
Option.bind (gP h2 8 a0 1) fun x6 =>
Option.bind (gP h2 4 x6 4) fun x7 =>
Option.bind (ldI h2 x7 a1) fun x8 =>
some (.ok x8, h2)
else
if a2 = 2 then
Option.bind (gP h2 8 a0 1) fun x9 =>
Option.bind (f_X4_neighbour h2 x9 a1 (-1)) fun x10 =>
some (.ok x10, h2)
else
if a2 = 3 then
Option.bind (gP h2 8 a0 1) fun x12 =>
Option.bind (f_X4_neighbour h2 x12 a1 1) fun x13 =>
some (.ok x13, h2)
else
if a2 = 4 then
Option.bind (gP h2 8 a0 1) fun x15 =>
Option.bind (gP h2 4 x15 2) fun x16 =>
Option.bind (ldI h2 x16 a1) fun x17 =>
some (.ok x17, h2)
else
if a2 = 5 then
Option.bind (gP h2 8 a0 1) fun x18 =>
Option.bind (f_X4_isFrozen h2 x18 a1) fun x19 =>
Option.bind (if x19 = 0 then
some 0
else
some 1) fun x21 =>
some (.ok x21, h2)
else
Option.bind (if a2 < 6 then
some 0
else
if 10 ≤ a2 then
some 0
else
some 1) fun x22 =>
Option.bind (f_X8_need h2 x22) fun w => match w with
| (.error k9, h24) => some (.error k9, h24)
| (.ok x23, h24) =>
Option.bind (gP h24 8 a0 1) fun x25 =>
Option.bind (gP h24 4 x25 0) fun x26 =>
Option.bind (ldI h24 x26 (((4 * a1) + a2) - 6)) fun x27 =>
some (.ok x27, h24)
else none
theorem kd_X8_where {h : AH} {a0 : Nat} {a1 : Int32} {a2 : Int32} {r : (Except Nat Int32 × AH)} (hf : f_X8_where h a0 a1 a2 = some r) : aK h a0 = 8 := by
  unfold f_X8_where at hf
  exact (ifk hf).1
set_option maxRecDepth 100000 in
set_option maxHeartbeats 4000000 in
theorem c_X8_where {l : Launch} {G : GT} {h : AH} {a0 : Nat} {a1 : Int32} {a2 : Int32} {r : (Except Nat Int32 × AH)} (hf : f_X8_where h a0 a1 a2 = some r) : Cn l yX8_where cX8_where 3 (some .int) 7 111 2 12 G h [.ref a0, .int a1, .int a2] (r.1.map (fun x => some (.int x))) r.2 := by
  refine Cn.of (by decide) (Nat.le_of_ble_eq_true rfl) ?_
  intro p e s m args below meth c O hr hx hin
  have O : OkC p l s m args meth c G cX8_where 3 RX8 := O
  unfold f_X8_where at hf
  obtain ⟨hk0, hf⟩ := ifk hf
  refine AW.sub (lv' := [(0, .ref a0), (1, .int a1), (2, .int a2)]) [0, 1, 2] rfl ?_
  refine r_aload_n O 0 dX8_where_0 rfl (Or.inl rfl) ?_
  refine r_iload_n O 1 dX8_where_1 rfl ?_
  obtain ⟨⟨w, h2⟩, ex1, hf⟩ := bnd hf
  cases w with
  | error k9 =>
    dsimp only at hf
    obtain rfl := Option.some.inj hf
    exact r_thrV (av := [.int a1]) (st := []) O hx (c_X8_needThing ex1) mf_X8_needThing cf8 (kd_X8_needThing ex1) ml_X8_114 mi_X8_needThing mv_X8_needThing (by decide) (Nat.le_of_ble_eq_true rfl) (by decide) (by decide) (by decide) dX8_where_2
  | ok x1 =>
    dsimp only at hf
    refine r_callV (av := [.int a1]) (st := []) O (c_X8_needThing ex1) mf_X8_needThing cf8 (kd_X8_needThing ex1) ml_X8_114 mi_X8_needThing mv_X8_needThing (by decide) (Nat.le_of_ble_eq_true rfl) (by decide) dX8_where_2 ?_
    refine r_iload_n O 2 dX8_where_5 rfl ?_
    by_cases hc : a2 = 0
    · rw [if_pos hc] at hf
      refine r_table_in (tgt := 44) O dX8_where_6 (by (rw [hc]; decide)) (by (rw [hc]; decide)) (by (rw [hc]; rfl)) (by decide) ?_
      refine r_aload_n O 0 dX8_where_44 rfl (Or.inl rfl) ?_
      obtain ⟨x3, ex3, hf⟩ := bnd hf
      refine r_gP O cf8 1 (by decide) rfl fl_X8_19 ex3 dX8_where_45 ?_
      obtain ⟨x4, ex4, hf⟩ := bnd hf
      refine r_gP O cf4 3 (by decide) rfl fl_X8_128 ex4 dX8_where_48 ?_
      refine r_iload_n O 1 dX8_where_51 rfl ?_
      obtain ⟨x5, ex5, hf⟩ := bnd hf
      refine r_ldI O ex5 dX8_where_52 ?_
      obtain rfl := Option.some.inj hf
      exact r_iret O hr rfl rfl (by decide) (by decide) dX8_where_53
    · rw [if_neg hc] at hf
      have hn44 := hc
      by_cases hc : a2 = 1
      · rw [if_pos hc] at hf
        refine r_table_in (tgt := 54) O dX8_where_6 (by (rw [hc]; decide)) (by (rw [hc]; decide)) (by (rw [hc]; rfl)) (by decide) ?_
        refine r_aload_n O 0 dX8_where_54 rfl (Or.inl rfl) ?_
        obtain ⟨x6, ex6, hf⟩ := bnd hf
        refine r_gP O cf8 1 (by decide) rfl fl_X8_19 ex6 dX8_where_55 ?_
        obtain ⟨x7, ex7, hf⟩ := bnd hf
        refine r_gP O cf4 4 (by decide) rfl fl_X8_148 ex7 dX8_where_58 ?_
        refine r_iload_n O 1 dX8_where_61 rfl ?_
        obtain ⟨x8, ex8, hf⟩ := bnd hf
        refine r_ldI O ex8 dX8_where_62 ?_
        obtain rfl := Option.some.inj hf
        exact r_iret O hr rfl rfl (by decide) (by decide) dX8_where_63
      · rw [if_neg hc] at hf
        have hn54 := hc
        by_cases hc : a2 = 2
        · rw [if_pos hc] at hf
          refine r_table_in (tgt := 64) O dX8_where_6 (by (rw [hc]; decide)) (by (rw [hc]; decide)) (by (rw [hc]; rfl)) (by decide) ?_
          refine r_aload_n O 0 dX8_where_64 rfl (Or.inl rfl) ?_
          obtain ⟨x9, ex9, hf⟩ := bnd hf
          refine r_gP O cf8 1 (by decide) rfl fl_X8_19 ex9 dX8_where_65 ?_
          refine r_iload_n O 1 dX8_where_68 rfl ?_
          refine r_iconst O (v := -1) dX8_where_69 (by decide) ?_
          obtain ⟨x10, ex10, hf⟩ := bnd hf
          refine r_callV (av := [.int a1, .int (-1)]) (st := []) O (c_X4_neighbour ex10) mf_X4_neighbour cf4 (kd_X4_neighbour ex10) ml_X8_233 mi_X4_neighbour mv_X4_neighbour (by decide) (Nat.le_of_ble_eq_true rfl) (by decide) dX8_where_70 ?_
          obtain rfl := Option.some.inj hf
          exact r_iret O hr rfl rfl (by decide) (by decide) dX8_where_73
        · rw [if_neg hc] at hf
          have hn64 := hc
          by_cases hc : a2 = 3
          · rw [if_pos hc] at hf
            refine r_table_in (tgt := 74) O dX8_where_6 (by (rw [hc]; decide)) (by (rw [hc]; decide)) (by (rw [hc]; rfl)) (by decide) ?_
            refine r_aload_n O 0 dX8_where_74 rfl (Or.inl rfl) ?_
            obtain ⟨x12, ex12, hf⟩ := bnd hf
            refine r_gP O cf8 1 (by decide) rfl fl_X8_19 ex12 dX8_where_75 ?_
            refine r_iload_n O 1 dX8_where_78 rfl ?_
            refine r_iconst O (v := 1) dX8_where_79 (by decide) ?_
            obtain ⟨x13, ex13, hf⟩ := bnd hf
            refine r_callV (av := [.int a1, .int 1]) (st := []) O (c_X4_neighbour ex13) mf_X4_neighbour cf4 (kd_X4_neighbour ex13) ml_X8_233 mi_X4_neighbour mv_X4_neighbour (by decide) (Nat.le_of_ble_eq_true rfl) (by decide) dX8_where_80 ?_
            obtain rfl := Option.some.inj hf
            exact r_iret O hr rfl rfl (by decide) (by decide) dX8_where_83
          · rw [if_neg hc] at hf
            have hn74 := hc
            by_cases hc : a2 = 4
            · rw [if_pos hc] at hf
              refine r_table_in (tgt := 84) O dX8_where_6 (by (rw [hc]; decide)) (by (rw [hc]; decide)) (by (rw [hc]; rfl)) (by decide) ?_
              refine r_aload_n O 0 dX8_where_84 rfl (Or.inl rfl) ?_
              obtain ⟨x15, ex15, hf⟩ := bnd hf
              refine r_gP O cf8 1 (by decide) rfl fl_X8_19 ex15 dX8_where_85 ?_
              obtain ⟨x16, ex16, hf⟩ := bnd hf
              refine r_gP O cf4 2 (by decide) rfl fl_X8_168 ex16 dX8_where_88 ?_
              refine r_iload_n O 1 dX8_where_91 rfl ?_
              obtain ⟨x17, ex17, hf⟩ := bnd hf
              refine r_ldI O ex17 dX8_where_92 ?_
              obtain rfl := Option.some.inj hf
              exact r_iret O hr rfl rfl (by decide) (by decide) dX8_where_93
            · rw [if_neg hc] at hf
              have hn84 := hc
              by_cases hc : a2 = 5
              · rw [if_pos hc] at hf
                refine r_table_in (tgt := 94) O dX8_where_6 (by (rw [hc]; decide)) (by (rw [hc]; decide)) (by (rw [hc]; rfl)) (by decide) ?_
                refine r_aload_n O 0 dX8_where_94 rfl (Or.inl rfl) ?_
                obtain ⟨x18, ex18, hf⟩ := bnd hf
                refine r_gP O cf8 1 (by decide) rfl fl_X8_19 ex18 dX8_where_95 ?_
                refine r_iload_n O 1 dX8_where_98 rfl ?_
                obtain ⟨x19, ex19, hf⟩ := bnd hf
                refine r_callV (av := [.int a1]) (st := []) O (c_X4_isFrozen ex19) mf_X4_isFrozen cf4 (kd_X4_isFrozen ex19) ml_X8_141 mi_X4_isFrozen mv_X4_isFrozen (by decide) (Nat.le_of_ble_eq_true rfl) (by decide) dX8_where_99 ?_
                obtain ⟨x21, hg, hf⟩ := bnd hf
                have hJ : AW p l e { frames := 7, cells := 2, slots := 12, locals := 111 } s m args below meth c G 3 (vx_MQ below (QcN G (r.1.map (fun x => some (.int x))) r.2) (XcN G (r.1.map (fun x => some (.int x))) r.2) args s 2 12 (gA G)) h2 1 6 110 [] [.int x21] := by
                  obtain rfl := Option.some.inj hf
                  exact r_iret O hr rfl rfl (by decide) (by decide) dX8_where_110
                clear hf
                have hf := hg
                clear hg
                by_cases hc : x19 = 0
                · rw [if_pos hc] at hf
                  refine r_if_eq_t (tgt := 109) O dX8_where_102 (by decide) hc ?_
                  refine r_iconst O (v := 0) dX8_where_109 (by decide) ?_
                  cases hf
                  refine AW.sub [] rfl ?_
                  exact hJ
                · rw [if_neg hc] at hf
                  refine r_if_eq_f (tgt := 109) O dX8_where_102 (by decide) hc ?_
                  refine r_iconst O (v := 1) dX8_where_105 (by decide) ?_
                  refine r_goto (tgt := 110) O dX8_where_106 (by decide) ?_
                  cases hf
                  refine AW.sub [] rfl ?_
                  exact hJ
              · rw [if_neg hc] at hf
                have hn94 := hc
                refine r_table_out (tgt := 111) O dX8_where_6 (tb_out 0 6 (fun j hj => by rcases (show j = 0 ∨ j = 1 ∨ j = 2 ∨ j = 3 ∨ j = 4 ∨ j = 5 by omega) with rfl | rfl | rfl | rfl | rfl | rfl <;> first | exact fun q => hn44 (by simp [q]) | exact fun q => hn54 (by simp [q]) | exact fun q => hn64 (by simp [q]) | exact fun q => hn74 (by simp [q]) | exact fun q => hn84 (by simp [q]) | exact fun q => hn94 (by simp [q]))) (by decide) ?_
                refine r_iload_n O 2 dX8_where_111 rfl ?_
                refine r_bipush O (v := 6) dX8_where_112 (by decide) ?_
                obtain ⟨x22, hg, hf⟩ := bnd hf
                have hJ : AW p l e { frames := 7, cells := 2, slots := 12, locals := 111 } s m args below meth c G 3 (vx_MQ below (QcN G (r.1.map (fun x => some (.int x))) r.2) (XcN G (r.1.map (fun x => some (.int x))) r.2) args s 2 12 (gA G)) h2 1 6 128 [(0, .ref a0), (1, .int a1), (2, .int a2)] [.int x22] := by
                  obtain ⟨⟨w, h24⟩, ex23, hf⟩ := bnd hf
                  cases w with
                  | error k9 =>
                    dsimp only at hf
                    obtain rfl := Option.some.inj hf
                    exact r_thrS (av := [.int x22]) (st := []) O hx (c_X8_need ex23) mf_X8_need ml_X8_92 ms_X8_need (by decide) (Nat.le_of_ble_eq_true rfl) (by decide) (by decide) (by decide) dX8_where_128
                  | ok x23 =>
                    dsimp only at hf
                    refine r_callS (av := [.int x22]) (st := []) O (c_X8_need ex23) mf_X8_need ml_X8_92 ms_X8_need (by decide) (Nat.le_of_ble_eq_true rfl) (by decide) dX8_where_128 ?_
                    refine r_aload_n O 0 dX8_where_131 rfl (Or.inl rfl) ?_
                    obtain ⟨x25, ex25, hf⟩ := bnd hf
                    refine r_gP O cf8 1 (by decide) rfl fl_X8_19 ex25 dX8_where_132 ?_
                    obtain ⟨x26, ex26, hf⟩ := bnd hf
                    refine r_gP O cf4 0 (by decide) rfl fl_X8_162 ex26 dX8_where_135 ?_
                    refine r_iconst O (v := 4) dX8_where_138 (by decide) ?_
                    refine r_iload_n O 1 dX8_where_139 rfl ?_
                    refine r_imul O dX8_where_140 ?_
                    refine r_iload_n O 2 dX8_where_141 rfl ?_
                    refine r_iadd O dX8_where_142 ?_
                    refine r_bipush O (v := 6) dX8_where_143 (by decide) ?_
                    refine r_isub O dX8_where_145 ?_
                    obtain ⟨x27, ex27, hf⟩ := bnd hf
                    refine r_ldI O ex27 dX8_where_146 ?_
                    obtain rfl := Option.some.inj hf
                    exact r_iret O hr rfl rfl (by decide) (by decide) dX8_where_147
                clear hf
                have hf := hg
                clear hg
                by_cases hc : a2 < 6
                · rw [if_pos hc] at hf
                  refine r_icmp_lt_t (tgt := 127) O dX8_where_114 (by decide) hc ?_
                  refine r_iconst O (v := 0) dX8_where_127 (by decide) ?_
                  cases hf
                  refine AW.sub [0, 1, 2] rfl ?_
                  exact hJ
                · rw [if_neg hc] at hf
                  refine r_icmp_lt_f (tgt := 127) O dX8_where_114 (by decide) hc ?_
                  refine r_iload_n O 2 dX8_where_117 rfl ?_
                  refine r_bipush O (v := 10) dX8_where_118 (by decide) ?_
                  by_cases hc : 10 ≤ a2
                  · rw [if_pos hc] at hf
                    refine r_icmp_ge_t (tgt := 127) O dX8_where_120 (by decide) hc ?_
                    refine r_iconst O (v := 0) dX8_where_127 (by decide) ?_
                    cases hf
                    refine AW.sub [0, 1, 2] rfl ?_
                    exact hJ
                  · rw [if_neg hc] at hf
                    refine r_icmp_ge_f (tgt := 127) O dX8_where_120 (by decide) hc ?_
                    refine r_iconst O (v := 1) dX8_where_123 (by decide) ?_
                    refine r_goto (tgt := 128) O dX8_where_124 (by decide) ?_
                    cases hf
                    refine AW.sub [0, 1, 2] rfl ?_
                    exact hJ
def f_X8_at (h : AH) (a0 : Nat) (a1 : Int32) (a2 : Int32) : Option (Except Nat Int32 × AH) :=
if aK h a0 = 8 then
Option.bind (f_X8_needList h a0 a1) fun w => match w with
| (.error k9, h2) => some (.error k9, h2)
| (.ok x1, h2) =>
Option.bind (gP h2 8 a0 1) fun x3 =>
Option.bind (f_X4_standsAt h2 x3 a1 a2) fun x4 =>
some (.ok x4, h2)
else none
theorem kd_X8_at {h : AH} {a0 : Nat} {a1 : Int32} {a2 : Int32} {r : (Except Nat Int32 × AH)} (hf : f_X8_at h a0 a1 a2 = some r) : aK h a0 = 8 := by
  unfold f_X8_at at hf
  exact (ifk hf).1
set_option maxRecDepth 100000 in
set_option maxHeartbeats 4000000 in
theorem c_X8_at {l : Launch} {G : GT} {h : AH} {a0 : Nat} {a1 : Int32} {a2 : Int32} {r : (Except Nat Int32 × AH)} (hf : f_X8_at h a0 a1 a2 = some r) : Cn l yX8_at cX8_at 3 (some .int) 7 111 1 6 G h [.ref a0, .int a1, .int a2] (r.1.map (fun x => some (.int x))) r.2 := by
  refine Cn.of (by decide) (Nat.le_of_ble_eq_true rfl) ?_
  intro p e s m args below meth c O hr hx hin
  have O : OkC p l s m args meth c G cX8_at 3 RX8 := O
  unfold f_X8_at at hf
  obtain ⟨hk0, hf⟩ := ifk hf
  refine AW.sub (lv' := [(0, .ref a0), (1, .int a1), (2, .int a2)]) [0, 1, 2] rfl ?_
  refine r_aload_n O 0 dX8_at_0 rfl (Or.inl rfl) ?_
  refine r_iload_n O 1 dX8_at_1 rfl ?_
  obtain ⟨⟨w, h2⟩, ex1, hf⟩ := bnd hf
  cases w with
  | error k9 =>
    dsimp only at hf
    obtain rfl := Option.some.inj hf
    exact r_thrV (av := [.int a1]) (st := []) O hx (c_X8_needList ex1) mf_X8_needList cf8 (kd_X8_needList ex1) ml_X8_118 mi_X8_needList mv_X8_needList (by decide) (Nat.le_of_ble_eq_true rfl) (by decide) (by decide) (by decide) dX8_at_2
  | ok x1 =>
    dsimp only at hf
    refine r_callV (av := [.int a1]) (st := []) O (c_X8_needList ex1) mf_X8_needList cf8 (kd_X8_needList ex1) ml_X8_118 mi_X8_needList mv_X8_needList (by decide) (Nat.le_of_ble_eq_true rfl) (by decide) dX8_at_2 ?_
    refine r_aload_n O 0 dX8_at_5 rfl (Or.inl rfl) ?_
    obtain ⟨x3, ex3, hf⟩ := bnd hf
    refine r_gP O cf8 1 (by decide) rfl fl_X8_19 ex3 dX8_at_6 ?_
    refine r_iload_n O 1 dX8_at_9 rfl ?_
    refine r_iload_n O 2 dX8_at_10 rfl ?_
    obtain ⟨x4, ex4, hf⟩ := bnd hf
    refine r_callV (av := [.int a1, .int a2]) (st := []) O (c_X4_standsAt ex4) mf_X4_standsAt cf4 (kd_X4_standsAt ex4) ml_X8_236 mi_X4_standsAt mv_X4_standsAt (by decide) (Nat.le_of_ble_eq_true rfl) (by decide) dX8_at_11 ?_
    obtain rfl := Option.some.inj hf
    exact r_iret O hr rfl rfl (by decide) (by decide) dX8_at_14
def f_X8_worked (h : AH) (a0 : Nat) (a1 : Int32) : Option Int32 :=
if aK h a0 = 8 then
Option.bind (gP h 8 a0 5) fun x1 =>
Option.bind (f_X6_get h x1 a1) fun x2 =>
some x2
else none
theorem kd_X8_worked {h : AH} {a0 : Nat} {a1 : Int32} {r : Int32} (hf : f_X8_worked h a0 a1 = some r) : aK h a0 = 8 := by
  unfold f_X8_worked at hf
  exact (ifk hf).1
set_option maxRecDepth 100000 in
set_option maxHeartbeats 4000000 in
theorem c_X8_worked {l : Launch} {G : GT} {h : AH} {a0 : Nat} {a1 : Int32} {r : Int32} (hf : f_X8_worked h a0 a1 = some r) : Cn l yX8_worked cX8_worked 2 (some .int) 1 21 0 0 G h [.ref a0, .int a1] (.ok (some (.int r))) h := by
  refine Cn.of (by decide) (Nat.le_of_ble_eq_true rfl) ?_
  intro p e s m args below meth c O hr hx hin
  have O : OkC p l s m args meth c G cX8_worked 2 RX8 := O
  unfold f_X8_worked at hf
  obtain ⟨hk0, hf⟩ := ifk hf
  refine AW.sub (lv' := [(0, .ref a0), (1, .int a1)]) [0, 1] rfl ?_
  refine r_aload_n O 0 dX8_worked_0 rfl (Or.inl rfl) ?_
  obtain ⟨x1, ex1, hf⟩ := bnd hf
  refine r_gP O cf8 5 (by decide) rfl fl_X8_37 ex1 dX8_worked_1 ?_
  refine r_iload_n O 1 dX8_worked_4 rfl ?_
  obtain ⟨x2, ex2, hf⟩ := bnd hf
  refine r_callV (av := [.int a1]) (st := []) O (c_X6_get ex2) mf_X6_get cf6 (kd_X6_get ex2) ml_X8_239 mi_X6_get mv_X6_get (by decide) (Nat.le_of_ble_eq_true rfl) (by decide) dX8_worked_5 ?_
  obtain rfl := Option.some.inj hf
  exact r_iret O hr rfl rfl (by decide) (by decide) dX8_worked_8
def f_X8_order (h : AH) (a0 : Nat) (a1 : Int32) : Option Int32 :=
if aK h a0 = 8 then
Option.bind (gP h 8 a0 4) fun x1 =>
Option.bind (f_X6_get h x1 a1) fun x2 =>
some x2
else none
theorem kd_X8_order {h : AH} {a0 : Nat} {a1 : Int32} {r : Int32} (hf : f_X8_order h a0 a1 = some r) : aK h a0 = 8 := by
  unfold f_X8_order at hf
  exact (ifk hf).1
set_option maxRecDepth 100000 in
set_option maxHeartbeats 4000000 in
theorem c_X8_order {l : Launch} {G : GT} {h : AH} {a0 : Nat} {a1 : Int32} {r : Int32} (hf : f_X8_order h a0 a1 = some r) : Cn l yX8_order cX8_order 2 (some .int) 1 21 0 0 G h [.ref a0, .int a1] (.ok (some (.int r))) h := by
  refine Cn.of (by decide) (Nat.le_of_ble_eq_true rfl) ?_
  intro p e s m args below meth c O hr hx hin
  have O : OkC p l s m args meth c G cX8_order 2 RX8 := O
  unfold f_X8_order at hf
  obtain ⟨hk0, hf⟩ := ifk hf
  refine AW.sub (lv' := [(0, .ref a0), (1, .int a1)]) [0, 1] rfl ?_
  refine r_aload_n O 0 dX8_order_0 rfl (Or.inl rfl) ?_
  obtain ⟨x1, ex1, hf⟩ := bnd hf
  refine r_gP O cf8 4 (by decide) rfl fl_X8_33 ex1 dX8_order_1 ?_
  refine r_iload_n O 1 dX8_order_4 rfl ?_
  obtain ⟨x2, ex2, hf⟩ := bnd hf
  refine r_callV (av := [.int a1]) (st := []) O (c_X6_get ex2) mf_X6_get cf6 (kd_X6_get ex2) ml_X8_239 mi_X6_get mv_X6_get (by decide) (Nat.le_of_ble_eq_true rfl) (by decide) dX8_order_5 ?_
  obtain rfl := Option.some.inj hf
  exact r_iret O hr rfl rfl (by decide) (by decide) dX8_order_8
def f_X8_ring (h : AH) (a0 : Nat) (a1 : Int32) : Option Int32 :=
if aK h a0 = 8 then
Option.bind (gP h 8 a0 6) fun x1 =>
Option.bind (gP h 1 x1 1) fun x2 =>
Option.bind (gP h 5 x2 10) fun x3 =>
Option.bind (f_X6_get h x3 a1) fun x4 =>
some x4
else none
theorem kd_X8_ring {h : AH} {a0 : Nat} {a1 : Int32} {r : Int32} (hf : f_X8_ring h a0 a1 = some r) : aK h a0 = 8 := by
  unfold f_X8_ring at hf
  exact (ifk hf).1
set_option maxRecDepth 100000 in
set_option maxHeartbeats 4000000 in
theorem c_X8_ring {l : Launch} {G : GT} {h : AH} {a0 : Nat} {a1 : Int32} {r : Int32} (hf : f_X8_ring h a0 a1 = some r) : Cn l yX8_ring cX8_ring 2 (some .int) 1 21 0 0 G h [.ref a0, .int a1] (.ok (some (.int r))) h := by
  refine Cn.of (by decide) (Nat.le_of_ble_eq_true rfl) ?_
  intro p e s m args below meth c O hr hx hin
  have O : OkC p l s m args meth c G cX8_ring 2 RX8 := O
  unfold f_X8_ring at hf
  obtain ⟨hk0, hf⟩ := ifk hf
  refine AW.sub (lv' := [(0, .ref a0), (1, .int a1)]) [0, 1] rfl ?_
  refine r_aload_n O 0 dX8_ring_0 rfl (Or.inl rfl) ?_
  obtain ⟨x1, ex1, hf⟩ := bnd hf
  refine r_gP O cf8 6 (by decide) rfl fl_X8_45 ex1 dX8_ring_1 ?_
  obtain ⟨x2, ex2, hf⟩ := bnd hf
  refine r_gP O cf1 1 (by decide) rfl fl_X8_204 ex2 dX8_ring_4 ?_
  obtain ⟨x3, ex3, hf⟩ := bnd hf
  refine r_gP O cf5 10 (by decide) rfl fl_X8_242 ex3 dX8_ring_7 ?_
  refine r_iload_n O 1 dX8_ring_10 rfl ?_
  obtain ⟨x4, ex4, hf⟩ := bnd hf
  refine r_callV (av := [.int a1]) (st := []) O (c_X6_get ex4) mf_X6_get cf6 (kd_X6_get ex4) ml_X8_239 mi_X6_get mv_X6_get (by decide) (Nat.le_of_ble_eq_true rfl) (by decide) dX8_ring_11 ?_
  obtain rfl := Option.some.inj hf
  exact r_iret O hr rfl rfl (by decide) (by decide) dX8_ring_14
def f_X8_cause (h : AH) (a0 : Nat) (a1 : Int32) : Option (Except Nat Int32 × AH) :=
if aK h a0 = 8 then
if a1 = 0 then
Option.bind (gP h 8 a0 6) fun x1 =>
Option.bind (gI h 1 x1 5) fun x2 =>
some (.ok x2, h)
else
if a1 = 1 then
Option.bind (gP h 8 a0 6) fun x3 =>
Option.bind (gI h 1 x3 6) fun x4 =>
some (.ok x4, h)
else
if a1 = 2 then
Option.bind (gP h 8 a0 6) fun x5 =>
Option.bind (gI h 1 x5 7) fun x6 =>
some (.ok x6, h)
else
Option.bind (if a1 = 3 then
some 1
else
some 0) fun x7 =>
Option.bind (f_X8_need h x7) fun w => match w with
| (.error k9, h9) => some (.error k9, h9)
| (.ok x8, h9) =>
Option.bind (gP h9 8 a0 6) fun x10 =>
Option.bind (gI h9 1 x10 8) fun x11 =>
some (.ok x11, h9)
else none
theorem kd_X8_cause {h : AH} {a0 : Nat} {a1 : Int32} {r : (Except Nat Int32 × AH)} (hf : f_X8_cause h a0 a1 = some r) : aK h a0 = 8 := by
  unfold f_X8_cause at hf
  exact (ifk hf).1
set_option maxRecDepth 100000 in
set_option maxHeartbeats 4000000 in
theorem c_X8_cause {l : Launch} {G : GT} {h : AH} {a0 : Nat} {a1 : Int32} {r : (Except Nat Int32 × AH)} (hf : f_X8_cause h a0 a1 = some r) : Cn l yX8_cause cX8_cause 2 (some .int) 7 110 1 6 G h [.ref a0, .int a1] (r.1.map (fun x => some (.int x))) r.2 := by
  refine Cn.of (by decide) (Nat.le_of_ble_eq_true rfl) ?_
  intro p e s m args below meth c O hr hx hin
  have O : OkC p l s m args meth c G cX8_cause 2 RX8 := O
  unfold f_X8_cause at hf
  obtain ⟨hk0, hf⟩ := ifk hf
  refine AW.sub (lv' := [(0, .ref a0), (1, .int a1)]) [0, 1] rfl ?_
  refine r_iload_n O 1 dX8_cause_0 rfl ?_
  by_cases hc : a1 = 0
  · rw [if_pos hc] at hf
    refine r_table_in (tgt := 28) O dX8_cause_1 (by (rw [hc]; decide)) (by (rw [hc]; decide)) (by (rw [hc]; rfl)) (by decide) ?_
    refine r_aload_n O 0 dX8_cause_28 rfl (Or.inl rfl) ?_
    obtain ⟨x1, ex1, hf⟩ := bnd hf
    refine r_gP O cf8 6 (by decide) rfl fl_X8_45 ex1 dX8_cause_29 ?_
    obtain ⟨x2, ex2, hf⟩ := bnd hf
    refine r_gI O cf1 5 (by decide) rfl fl_X8_245 ex2 dX8_cause_32 ?_
    obtain rfl := Option.some.inj hf
    exact r_iret O hr rfl rfl (by decide) (by decide) dX8_cause_35
  · rw [if_neg hc] at hf
    have hn28 := hc
    by_cases hc : a1 = 1
    · rw [if_pos hc] at hf
      refine r_table_in (tgt := 36) O dX8_cause_1 (by (rw [hc]; decide)) (by (rw [hc]; decide)) (by (rw [hc]; rfl)) (by decide) ?_
      refine r_aload_n O 0 dX8_cause_36 rfl (Or.inl rfl) ?_
      obtain ⟨x3, ex3, hf⟩ := bnd hf
      refine r_gP O cf8 6 (by decide) rfl fl_X8_45 ex3 dX8_cause_37 ?_
      obtain ⟨x4, ex4, hf⟩ := bnd hf
      refine r_gI O cf1 6 (by decide) rfl fl_X8_248 ex4 dX8_cause_40 ?_
      obtain rfl := Option.some.inj hf
      exact r_iret O hr rfl rfl (by decide) (by decide) dX8_cause_43
    · rw [if_neg hc] at hf
      have hn36 := hc
      by_cases hc : a1 = 2
      · rw [if_pos hc] at hf
        refine r_table_in (tgt := 44) O dX8_cause_1 (by (rw [hc]; decide)) (by (rw [hc]; decide)) (by (rw [hc]; rfl)) (by decide) ?_
        refine r_aload_n O 0 dX8_cause_44 rfl (Or.inl rfl) ?_
        obtain ⟨x5, ex5, hf⟩ := bnd hf
        refine r_gP O cf8 6 (by decide) rfl fl_X8_45 ex5 dX8_cause_45 ?_
        obtain ⟨x6, ex6, hf⟩ := bnd hf
        refine r_gI O cf1 7 (by decide) rfl fl_X8_251 ex6 dX8_cause_48 ?_
        obtain rfl := Option.some.inj hf
        exact r_iret O hr rfl rfl (by decide) (by decide) dX8_cause_51
      · rw [if_neg hc] at hf
        have hn44 := hc
        refine r_table_out (tgt := 52) O dX8_cause_1 (tb_out 0 3 (fun j hj => by rcases (show j = 0 ∨ j = 1 ∨ j = 2 by omega) with rfl | rfl | rfl <;> first | exact fun q => hn28 (by simp [q]) | exact fun q => hn36 (by simp [q]) | exact fun q => hn44 (by simp [q]))) (by decide) ?_
        refine r_iload_n O 1 dX8_cause_52 rfl ?_
        refine r_iconst O (v := 3) dX8_cause_53 (by decide) ?_
        obtain ⟨x7, hg, hf⟩ := bnd hf
        have hJ : AW p l e { frames := 7, cells := 1, slots := 6, locals := 110 } s m args below meth c G 2 (vx_MQ below (QcN G (r.1.map (fun x => some (.int x))) r.2) (XcN G (r.1.map (fun x => some (.int x))) r.2) args s 1 6 (gA G)) h 0 0 62 [(0, .ref a0)] [.int x7] := by
          obtain ⟨⟨w, h9⟩, ex8, hf⟩ := bnd hf
          cases w with
          | error k9 =>
            dsimp only at hf
            obtain rfl := Option.some.inj hf
            exact r_thrS (av := [.int x7]) (st := []) O hx (c_X8_need ex8) mf_X8_need ml_X8_92 ms_X8_need (by decide) (Nat.le_of_ble_eq_true rfl) (by decide) (by decide) (by decide) dX8_cause_62
          | ok x8 =>
            dsimp only at hf
            refine r_callS (av := [.int x7]) (st := []) O (c_X8_need ex8) mf_X8_need ml_X8_92 ms_X8_need (by decide) (Nat.le_of_ble_eq_true rfl) (by decide) dX8_cause_62 ?_
            refine r_aload_n O 0 dX8_cause_65 rfl (Or.inl rfl) ?_
            obtain ⟨x10, ex10, hf⟩ := bnd hf
            refine r_gP O cf8 6 (by decide) rfl fl_X8_45 ex10 dX8_cause_66 ?_
            obtain ⟨x11, ex11, hf⟩ := bnd hf
            refine r_gI O cf1 8 (by decide) rfl fl_X8_254 ex11 dX8_cause_69 ?_
            obtain rfl := Option.some.inj hf
            exact r_iret O hr rfl rfl (by decide) (by decide) dX8_cause_72
        clear hf
        have hf := hg
        clear hg
        by_cases hc : a1 = 3
        · rw [if_pos hc] at hf
          refine r_icmp_ne_f (tgt := 61) O dX8_cause_54 (by decide) hc ?_
          refine r_iconst O (v := 1) dX8_cause_57 (by decide) ?_
          refine r_goto (tgt := 62) O dX8_cause_58 (by decide) ?_
          cases hf
          refine AW.sub [0] rfl ?_
          exact hJ
        · rw [if_neg hc] at hf
          refine r_icmp_ne_t (tgt := 61) O dX8_cause_54 (by decide) hc ?_
          refine r_iconst O (v := 0) dX8_cause_61 (by decide) ?_
          cases hf
          refine AW.sub [0] rfl ?_
          exact hJ
