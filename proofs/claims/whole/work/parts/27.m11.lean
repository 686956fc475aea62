def f_X8_undo (h : AH) (a0 : Nat) : Option (Except Nat Int32 × AH) :=
if aK h a0 = 8 then
Option.bind (f_X8_needClosedBook h a0) fun w => match w with
| (.error k9, h2) => some (.error k9, h2)
| (.ok x1, h2) =>
Option.bind (gI h2 8 a0 9) fun x3 =>
if x3 = 0 then
Option.bind (gP h2 8 a0 7) fun x4 =>
Option.bind (f_X3_takeLatest h2 x4) fun w => match w with
| (x5, h6) =>
match x5 with
| none =>
some (.ok (-1), h6)
| some x7 =>
Option.bind (f_X8_changesTo h6 a0 x7) fun x8 =>
Option.bind (gP h6 8 a0 2) fun x10 =>
Option.bind (gP h6 2 x7 0) fun x11 =>
Option.bind (f_X4_copyFrom h6 x10 x11) fun h13 =>
Option.bind (gP h13 8 a0 1) fun x14 =>
Option.bind (gP h13 8 a0 2) fun x15 =>
Option.bind (f_X4_copyFrom h13 x14 x15) fun h17 =>
Option.bind (gP h17 2 x7 1) fun x18 =>
Option.bind (gP h17 8 a0 3) fun x19 =>
Option.bind (cpJ h17 x18 0 x19 0 258) fun h20 =>
Option.bind (gP h20 8 a0 6) fun x21 =>
Option.bind (gP h20 1 x21 1) fun x22 =>
Option.bind (gP h20 8 a0 2) fun x23 =>
Option.bind (f_X5_arrange h20 x22 x23) fun w => match w with
| (x24, h25) =>
Option.bind (gP h25 8 a0 4) fun x26 =>
Option.bind (gP h25 8 a0 6) fun x27 =>
Option.bind (gP h25 1 x27 1) fun x28 =>
Option.bind (gP h25 5 x28 9) fun x29 =>
Option.bind (f_X6_copyFrom h25 x26 x29) fun h31 =>
Option.bind (gP h31 8 a0 5) fun x32 =>
Option.bind (f_X6_clear h31 x32) fun h34 =>
some (.ok x8, h34)
else
some (.error 0, nx h2)
else none
theorem kd_X8_undo {h : AH} {a0 : Nat} {r : (Except Nat Int32 × AH)} (hf : f_X8_undo h a0 = some r) : aK h a0 = 8 := by
  unfold f_X8_undo at hf
  exact (ifk hf).1
set_option maxRecDepth 100000 in
set_option maxHeartbeats 4000000 in
theorem c_X8_undo {l : Launch} {G : GT} {h : AH} {a0 : Nat} {r : (Except Nat Int32 × AH)} (hf : f_X8_undo h a0 = some r) : Cn l yX8_undo cX8_undo 3 (some .int) 7 118 2 12 G h [.ref a0] (r.1.map (fun x => some (.int x))) r.2 := by
  refine Cn.of (by decide) (Nat.le_of_ble_eq_true rfl) ?_
  intro p e s m args below meth c O hr hx hin
  have O : OkC p l s m args meth c G cX8_undo 3 RX8 := O
  unfold f_X8_undo at hf
  obtain ⟨hk0, hf⟩ := ifk hf
  refine AW.sub (lv' := [(0, .ref a0)]) [0] rfl ?_
  refine r_aload_n O 0 dX8_undo_0 rfl (Or.inl rfl) ?_
  obtain ⟨⟨w, h2⟩, ex1, hf⟩ := bnd hf
  cases w with
  | error k9 =>
    dsimp only at hf
    obtain rfl := Option.some.inj hf
    exact r_thrV (av := []) (st := []) O hx (c_X8_needClosedBook ex1) mf_X8_needClosedBook cf8 (kd_X8_needClosedBook ex1) ml_X8_121 mi_X8_needClosedBook mv_X8_needClosedBook (by decide) (Nat.le_of_ble_eq_true rfl) (by decide) (by decide) (by decide) dX8_undo_1
  | ok x1 =>
    dsimp only at hf
    refine r_callV (av := []) (st := []) O (c_X8_needClosedBook ex1) mf_X8_needClosedBook cf8 (kd_X8_needClosedBook ex1) ml_X8_121 mi_X8_needClosedBook mv_X8_needClosedBook (by decide) (Nat.le_of_ble_eq_true rfl) (by decide) dX8_undo_1 ?_
    refine r_aload_n O 0 dX8_undo_4 rfl (Or.inl rfl) ?_
    obtain ⟨x3, ex3, hf⟩ := bnd hf
    refine r_gI O cf8 9 (by decide) rfl fl_X8_171 ex3 dX8_undo_5 ?_
    by_cases hc : x3 = 0
    · rw [if_pos hc] at hf
      refine r_if_eq_t (tgt := 21) O dX8_undo_8 (by decide) hc ?_
      refine r_aload_n O 0 dX8_undo_21 rfl (Or.inl rfl) ?_
      obtain ⟨x4, ex4, hf⟩ := bnd hf
      refine r_gP O cf8 7 (by decide) rfl fl_X8_52 ex4 dX8_undo_22 ?_
      obtain ⟨⟨x5, h6⟩, ex5, hf⟩ := bnd hf
      dsimp only at hf
      refine r_callV (av := []) (st := []) O (c_X3_takeLatest ex5) mf_X3_takeLatest cf3 (kd_X3_takeLatest ex5) ml_X8_186 mi_X3_takeLatest mv_X3_takeLatest (by decide) (Nat.le_of_ble_eq_true rfl) (by decide) dX8_undo_25 ?_
      refine r_astore_n O [(1, rf x5), (0, .ref a0)] dX8_undo_28 (rf_ref _) (by decide) rfl ?_
      refine r_aload_n O 0 dX8_undo_29 rfl (Or.inl (rf_ref _)) ?_
      cases x5 with
      | none =>
        dsimp only [rf] at hf ⊢
        refine r_ifnonnull_f (tgt := 35) O dX8_undo_30 (by decide) ?_
        refine r_iconst O (v := -1) dX8_undo_33 (by decide) ?_
        obtain rfl := Option.some.inj hf
        exact r_iret O hr rfl rfl (by decide) (by decide) dX8_undo_34
      | some x7 =>
        dsimp only [rf] at hf ⊢
        refine r_ifnonnull_t (tgt := 35) O dX8_undo_30 (by decide) ?_
        refine r_aload_n O 1 dX8_undo_35 rfl (Or.inl rfl) ?_
        refine r_aload_n O 0 dX8_undo_36 rfl (Or.inl rfl) ?_
        obtain ⟨x8, ex8, hf⟩ := bnd hf
        refine r_callV (av := [.ref x7]) (st := []) O (c_X8_changesTo ex8) mf_X8_changesTo cf8 (kd_X8_changesTo ex8) ml_X8_190 mi_X8_changesTo mv_X8_changesTo (by decide) (Nat.le_of_ble_eq_true rfl) (by decide) dX8_undo_37 ?_
        refine r_istore_n O [(2, .int x8), (1, .ref x7), (0, .ref a0)] dX8_undo_40 (by decide) rfl ?_
        refine r_aload_n O 2 dX8_undo_41 rfl (Or.inl rfl) ?_
        obtain ⟨x10, ex10, hf⟩ := bnd hf
        refine r_gP O cf8 2 (by decide) rfl fl_X8_23 ex10 dX8_undo_42 ?_
        refine r_aload_n O 1 dX8_undo_45 rfl (Or.inl rfl) ?_
        obtain ⟨x11, ex11, hf⟩ := bnd hf
        refine r_gP O cf2 0 (by decide) rfl fl_X8_194 ex11 dX8_undo_46 ?_
        obtain ⟨h13, eh13, hf⟩ := bnd hf
        refine r_callV (av := [.ref x11]) (st := []) O (c_X4_copyFrom eh13) mf_X4_copyFrom cf4 (kd_X4_copyFrom eh13) ml_X8_182 mi_X4_copyFrom mv_X4_copyFrom (by decide) (Nat.le_of_ble_eq_true rfl) (by decide) dX8_undo_49 ?_
        refine r_aload_n O 2 dX8_undo_52 rfl (Or.inl rfl) ?_
        obtain ⟨x14, ex14, hf⟩ := bnd hf
        refine r_gP O cf8 1 (by decide) rfl fl_X8_19 ex14 dX8_undo_53 ?_
        refine r_aload_n O 2 dX8_undo_56 rfl (Or.inl rfl) ?_
        obtain ⟨x15, ex15, hf⟩ := bnd hf
        refine r_gP O cf8 2 (by decide) rfl fl_X8_23 ex15 dX8_undo_57 ?_
        obtain ⟨h17, eh17, hf⟩ := bnd hf
        refine r_callV (av := [.ref x15]) (st := []) O (c_X4_copyFrom eh17) mf_X4_copyFrom cf4 (kd_X4_copyFrom eh17) ml_X8_182 mi_X4_copyFrom mv_X4_copyFrom (by decide) (Nat.le_of_ble_eq_true rfl) (by decide) dX8_undo_60 ?_
        refine r_aload_n O 1 dX8_undo_63 rfl (Or.inl rfl) ?_
        obtain ⟨x18, ex18, hf⟩ := bnd hf
        refine r_gP O cf2 1 (by decide) rfl fl_X8_197 ex18 dX8_undo_64 ?_
        refine r_iconst O (v := 0) dX8_undo_67 (by decide) ?_
        refine r_aload_n O 2 dX8_undo_68 rfl (Or.inl rfl) ?_
        obtain ⟨x19, ex19, hf⟩ := bnd hf
        refine r_gP O cf8 3 (by decide) rfl fl_X8_26 ex19 dX8_undo_69 ?_
        refine r_iconst O (v := 0) dX8_undo_72 (by decide) ?_
        refine r_sipush O (v := 258) dX8_undo_73 (by decide) ?_
        obtain ⟨h20, eh20, hf⟩ := bnd hf
        refine r_cpJ O eh20 ml_X8_198 (by decide) (Nat.le_of_ble_eq_true rfl) dX8_undo_76 ?_
        refine r_aload_n O 2 dX8_undo_79 rfl (Or.inl rfl) ?_
        obtain ⟨x21, ex21, hf⟩ := bnd hf
        refine r_gP O cf8 6 (by decide) rfl fl_X8_45 ex21 dX8_undo_80 ?_
        obtain ⟨x22, ex22, hf⟩ := bnd hf
        refine r_gP O cf1 1 (by decide) rfl fl_X8_204 ex22 dX8_undo_83 ?_
        refine r_aload_n O 2 dX8_undo_86 rfl (Or.inl rfl) ?_
        obtain ⟨x23, ex23, hf⟩ := bnd hf
        refine r_gP O cf8 2 (by decide) rfl fl_X8_23 ex23 dX8_undo_87 ?_
        obtain ⟨⟨x24, h25⟩, ex24, hf⟩ := bnd hf
        dsimp only at hf
        refine r_callV (av := [.ref x23]) (st := []) O (c_X5_arrange ex24) mf_X5_arrange cf5 (kd_X5_arrange ex24) ml_X8_208 mi_X5_arrange mv_X5_arrange (by decide) (Nat.le_of_ble_eq_true rfl) (by decide) dX8_undo_90 ?_
        refine r_pop O dX8_undo_93 rfl ?_
        refine r_aload_n O 2 dX8_undo_94 rfl (Or.inl rfl) ?_
        obtain ⟨x26, ex26, hf⟩ := bnd hf
        refine r_gP O cf8 4 (by decide) rfl fl_X8_33 ex26 dX8_undo_95 ?_
        refine r_aload_n O 2 dX8_undo_98 rfl (Or.inl rfl) ?_
        obtain ⟨x27, ex27, hf⟩ := bnd hf
        refine r_gP O cf8 6 (by decide) rfl fl_X8_45 ex27 dX8_undo_99 ?_
        obtain ⟨x28, ex28, hf⟩ := bnd hf
        refine r_gP O cf1 1 (by decide) rfl fl_X8_204 ex28 dX8_undo_102 ?_
        obtain ⟨x29, ex29, hf⟩ := bnd hf
        refine r_gP O cf5 9 (by decide) rfl fl_X8_214 ex29 dX8_undo_105 ?_
        obtain ⟨h31, eh31, hf⟩ := bnd hf
        refine r_callV (av := [.ref x29]) (st := []) O (c_X6_copyFrom eh31) mf_X6_copyFrom cf6 (kd_X6_copyFrom eh31) ml_X8_215 mi_X6_copyFrom mv_X6_copyFrom (by decide) (Nat.le_of_ble_eq_true rfl) (by decide) dX8_undo_108 ?_
        refine r_aload_n O 2 dX8_undo_111 rfl (Or.inl rfl) ?_
        obtain ⟨x32, ex32, hf⟩ := bnd hf
        refine r_gP O cf8 5 (by decide) rfl fl_X8_37 ex32 dX8_undo_112 ?_
        obtain ⟨h34, eh34, hf⟩ := bnd hf
        refine r_callV (av := []) (st := []) O (c_X6_clear eh34) mf_X6_clear cf6 (kd_X6_clear eh34) ml_X8_218 mi_X6_clear mv_X6_clear (by decide) (Nat.le_of_ble_eq_true rfl) (by decide) dX8_undo_115 ?_
        refine r_iload_n O 0 dX8_undo_118 rfl ?_
        obtain rfl := Option.some.inj hf
        exact r_iret O hr rfl rfl (by decide) (by decide) dX8_undo_119
    · rw [if_neg hc] at hf
      refine r_if_eq_f (tgt := 21) O dX8_undo_8 (by decide) hc ?_
      obtain rfl := Option.some.inj hf
      exact r_throw 0 O hx kl_X8_63 xa_X8_63_67 st_X8_174 (by decide) (by decide) (Nat.le_of_ble_eq_true rfl) (by decide) (by decide) (by decide) dX8_undo_11 dX8_undo_14 dX8_undo_15 dX8_undo_17 dX8_undo_20
def f_X8_shadow (h : AH) (a0 : Nat) (a1 : Int32) (a2 : Int32) : Option (Except Nat Int64 × AH) :=
if aK h a0 = 8 then
Option.bind (f_X8_needThing h a0 a1) fun w => match w with
| (.error k9, h2) => some (.error k9, h2)
| (.ok x1, h2) =>
Option.bind (f_X8_isThingKind h2 a2) fun x3 =>
Option.bind (f_X8_need h2 x3) fun w => match w with
| (.error k9, h6) => some (.error k9, h6)
| (.ok x5, h6) =>
Option.bind (gP h6 8 a0 3) fun x7 =>
Option.bind (f_X8_shadowOf h6 a1 a2) fun x8 =>
Option.bind (ldJ h6 x7 x8) fun x10 =>
some (.ok x10, h6)
else none
theorem kd_X8_shadow {h : AH} {a0 : Nat} {a1 : Int32} {a2 : Int32} {r : (Except Nat Int64 × AH)} (hf : f_X8_shadow h a0 a1 a2 = some r) : aK h a0 = 8 := by
  unfold f_X8_shadow at hf
  exact (ifk hf).1
set_option maxRecDepth 100000 in
set_option maxHeartbeats 4000000 in
theorem c_X8_shadow {l : Launch} {G : GT} {h : AH} {a0 : Nat} {a1 : Int32} {a2 : Int32} {r : (Except Nat Int64 × AH)} (hf : f_X8_shadow h a0 a1 a2 = some r) : Cn l yX8_shadow cX8_shadow 3 (some .long) 7 111 2 12 G h [.ref a0, .int a1, .int a2] (r.1.map (fun x => some (.long x))) r.2 := by
  refine Cn.of (by decide) (Nat.le_of_ble_eq_true rfl) ?_
  intro p e s m args below meth c O hr hx hin
  have O : OkC p l s m args meth c G cX8_shadow 3 RX8 := O
  unfold f_X8_shadow at hf
  obtain ⟨hk0, hf⟩ := ifk hf
  refine AW.sub (lv' := [(0, .ref a0), (1, .int a1), (2, .int a2)]) [0, 1, 2] rfl ?_
  refine r_aload_n O 0 dX8_shadow_0 rfl (Or.inl rfl) ?_
  refine r_iload_n O 1 dX8_shadow_1 rfl ?_
  obtain ⟨⟨w, h2⟩, ex1, hf⟩ := bnd hf
  cases w with
  | error k9 =>
    dsimp only at hf
    obtain rfl := Option.some.inj hf
    exact r_thrV (av := [.int a1]) (st := []) O hx (c_X8_needThing ex1) mf_X8_needThing cf8 (kd_X8_needThing ex1) ml_X8_114 mi_X8_needThing mv_X8_needThing (by decide) (Nat.le_of_ble_eq_true rfl) (by decide) (by decide) (by decide) dX8_shadow_2
  | ok x1 =>
    dsimp only at hf
    refine r_callV (av := [.int a1]) (st := []) O (c_X8_needThing ex1) mf_X8_needThing cf8 (kd_X8_needThing ex1) ml_X8_114 mi_X8_needThing mv_X8_needThing (by decide) (Nat.le_of_ble_eq_true rfl) (by decide) dX8_shadow_2 ?_
    refine r_iload_n O 2 dX8_shadow_5 rfl ?_
    obtain ⟨x3, ex3, hf⟩ := bnd hf
    refine r_callS (av := [.int a2]) (st := []) O (c_X8_isThingKind ex3) mf_X8_isThingKind ml_X8_221 ms_X8_isThingKind (by decide) (Nat.le_of_ble_eq_true rfl) (by decide) dX8_shadow_6 ?_
    obtain ⟨⟨w, h6⟩, ex5, hf⟩ := bnd hf
    cases w with
    | error k9 =>
      dsimp only at hf
      obtain rfl := Option.some.inj hf
      exact r_thrS (av := [.int x3]) (st := []) O hx (c_X8_need ex5) mf_X8_need ml_X8_92 ms_X8_need (by decide) (Nat.le_of_ble_eq_true rfl) (by decide) (by decide) (by decide) dX8_shadow_9
    | ok x5 =>
      dsimp only at hf
      refine r_callS (av := [.int x3]) (st := []) O (c_X8_need ex5) mf_X8_need ml_X8_92 ms_X8_need (by decide) (Nat.le_of_ble_eq_true rfl) (by decide) dX8_shadow_9 ?_
      refine r_aload_n O 0 dX8_shadow_12 rfl (Or.inl rfl) ?_
      obtain ⟨x7, ex7, hf⟩ := bnd hf
      refine r_gP O cf8 3 (by decide) rfl fl_X8_26 ex7 dX8_shadow_13 ?_
      refine r_iload_n O 1 dX8_shadow_16 rfl ?_
      refine r_iload_n O 2 dX8_shadow_17 rfl ?_
      obtain ⟨x8, ex8, hf⟩ := bnd hf
      refine r_callS (av := [.int a1, .int a2]) (st := [.ref x7]) O (c_X8_shadowOf ex8) mf_X8_shadowOf ml_X8_224 ms_X8_shadowOf (by decide) (Nat.le_of_ble_eq_true rfl) (by decide) dX8_shadow_18 ?_
      obtain ⟨x10, ex10, hf⟩ := bnd hf
      refine r_ldJ O ex10 dX8_shadow_21 ?_
      obtain rfl := Option.some.inj hf
      exact r_lret O hr rfl rfl (by decide) (by decide) dX8_shadow_22
def f_X8_listShadow (h : AH) (a0 : Nat) (a1 : Int32) (a2 : Int32) : Option (Except Nat Int64 × AH) :=
if aK h a0 = 8 then
Option.bind (f_X8_needList h a0 a1) fun w => match w with
| (.error k9, h2) => some (.error k9, h2)
| (.ok x1, h2) =>
Option.bind (f_X8_isListKind h2 a2) fun x3 =>
Option.bind (f_X8_need h2 x3) fun w => match w with
| (.error k9, h6) => some (.error k9, h6)
| (.ok x5, h6) =>
Option.bind (gP h6 8 a0 3) fun x7 =>
Option.bind (f_X8_shadowOfList h6 a1 a2) fun x8 =>
Option.bind (ldJ h6 x7 x8) fun x10 =>
some (.ok x10, h6)
else none
theorem kd_X8_listShadow {h : AH} {a0 : Nat} {a1 : Int32} {a2 : Int32} {r : (Except Nat Int64 × AH)} (hf : f_X8_listShadow h a0 a1 a2 = some r) : aK h a0 = 8 := by
  unfold f_X8_listShadow at hf
  exact (ifk hf).1
set_option maxRecDepth 100000 in
set_option maxHeartbeats 4000000 in
theorem c_X8_listShadow {l : Launch} {G : GT} {h : AH} {a0 : Nat} {a1 : Int32} {a2 : Int32} {r : (Except Nat Int64 × AH)} (hf : f_X8_listShadow h a0 a1 a2 = some r) : Cn l yX8_listShadow cX8_listShadow 3 (some .long) 7 111 2 12 G h [.ref a0, .int a1, .int a2] (r.1.map (fun x => some (.long x))) r.2 := by
  refine Cn.of (by decide) (Nat.le_of_ble_eq_true rfl) ?_
  intro p e s m args below meth c O hr hx hin
  have O : OkC p l s m args meth c G cX8_listShadow 3 RX8 := O
  unfold f_X8_listShadow at hf
  obtain ⟨hk0, hf⟩ := ifk hf
  refine AW.sub (lv' := [(0, .ref a0), (1, .int a1), (2, .int a2)]) [0, 1, 2] rfl ?_
  refine r_aload_n O 0 dX8_listShadow_0 rfl (Or.inl rfl) ?_
  refine r_iload_n O 1 dX8_listShadow_1 rfl ?_
  obtain ⟨⟨w, h2⟩, ex1, hf⟩ := bnd hf
  cases w with
  | error k9 =>
    dsimp only at hf
    obtain rfl := Option.some.inj hf
    exact r_thrV (av := [.int a1]) (st := []) O hx (c_X8_needList ex1) mf_X8_needList cf8 (kd_X8_needList ex1) ml_X8_118 mi_X8_needList mv_X8_needList (by decide) (Nat.le_of_ble_eq_true rfl) (by decide) (by decide) (by decide) dX8_listShadow_2
  | ok x1 =>
    dsimp only at hf
    refine r_callV (av := [.int a1]) (st := []) O (c_X8_needList ex1) mf_X8_needList cf8 (kd_X8_needList ex1) ml_X8_118 mi_X8_needList mv_X8_needList (by decide) (Nat.le_of_ble_eq_true rfl) (by decide) dX8_listShadow_2 ?_
    refine r_iload_n O 2 dX8_listShadow_5 rfl ?_
    obtain ⟨x3, ex3, hf⟩ := bnd hf
    refine r_callS (av := [.int a2]) (st := []) O (c_X8_isListKind ex3) mf_X8_isListKind ml_X8_227 ms_X8_isListKind (by decide) (Nat.le_of_ble_eq_true rfl) (by decide) dX8_listShadow_6 ?_
    obtain ⟨⟨w, h6⟩, ex5, hf⟩ := bnd hf
    cases w with
    | error k9 =>
      dsimp only at hf
      obtain rfl := Option.some.inj hf
      exact r_thrS (av := [.int x3]) (st := []) O hx (c_X8_need ex5) mf_X8_need ml_X8_92 ms_X8_need (by decide) (Nat.le_of_ble_eq_true rfl) (by decide) (by decide) (by decide) dX8_listShadow_9
    | ok x5 =>
      dsimp only at hf
      refine r_callS (av := [.int x3]) (st := []) O (c_X8_need ex5) mf_X8_need ml_X8_92 ms_X8_need (by decide) (Nat.le_of_ble_eq_true rfl) (by decide) dX8_listShadow_9 ?_
      refine r_aload_n O 0 dX8_listShadow_12 rfl (Or.inl rfl) ?_
      obtain ⟨x7, ex7, hf⟩ := bnd hf
      refine r_gP O cf8 3 (by decide) rfl fl_X8_26 ex7 dX8_listShadow_13 ?_
      refine r_iload_n O 1 dX8_listShadow_16 rfl ?_
      refine r_iload_n O 2 dX8_listShadow_17 rfl ?_
      obtain ⟨x8, ex8, hf⟩ := bnd hf
      refine r_callS (av := [.int a1, .int a2]) (st := [.ref x7]) O (c_X8_shadowOfList ex8) mf_X8_shadowOfList ml_X8_230 ms_X8_shadowOfList (by decide) (Nat.le_of_ble_eq_true rfl) (by decide) dX8_listShadow_18 ?_
      obtain ⟨x10, ex10, hf⟩ := bnd hf
      refine r_ldJ O ex10 dX8_listShadow_21 ?_
      obtain rfl := Option.some.inj hf
      exact r_lret O hr rfl rfl (by decide) (by decide) dX8_listShadow_22
def f_X4_neighbour (h : AH) (a0 : Nat) (a1 : Int32) (a2 : Int32) : Option Int32 :=
if aK h a0 = 4 then
Option.bind (gP h 4 a0 3) fun x1 =>
Option.bind (ldI h x1 a1) fun x2 =>
Option.bind (if x2 = (-1) then
some ((-1) : Int32)
else
Option.bind (gP h 4 a0 4) fun x4 =>
Option.bind (ldI h x4 a1) fun x5 =>
Option.bind (f_X4_standsAt h a0 x2 (x5 + a2)) fun x6 =>
some x6) fun x3 =>
some x3
else none
theorem kd_X4_neighbour {h : AH} {a0 : Nat} {a1 : Int32} {a2 : Int32} {r : Int32} (hf : f_X4_neighbour h a0 a1 a2 = some r) : aK h a0 = 4 := by
  unfold f_X4_neighbour at hf
  exact (ifk hf).1
set_option maxRecDepth 100000 in
set_option maxHeartbeats 4000000 in
theorem c_X4_neighbour {l : Launch} {G : GT} {h : AH} {a0 : Nat} {a1 : Int32} {a2 : Int32} {r : Int32} (hf : f_X4_neighbour h a0 a1 a2 = some r) : Cn l yX4_neighbour cX4_neighbour 4 (some .int) 1 22 0 0 G h [.ref a0, .int a1, .int a2] (.ok (some (.int r))) h := by
  refine Cn.of (by decide) (Nat.le_of_ble_eq_true rfl) ?_
  intro p e s m args below meth c O hr hx hin
  have O : OkC p l s m args meth c G cX4_neighbour 4 RX4 := O
  unfold f_X4_neighbour at hf
  obtain ⟨hk0, hf⟩ := ifk hf
  refine AW.sub (lv' := [(0, .ref a0), (1, .int a1), (2, .int a2)]) [0, 1, 2] rfl ?_
  refine r_aload_n O 0 dX4_neighbour_0 rfl (Or.inl rfl) ?_
  obtain ⟨x1, ex1, hf⟩ := bnd hf
  refine r_gP O cf4 3 (by decide) rfl fl_X4_21 ex1 dX4_neighbour_1 ?_
  refine r_iload_n O 1 dX4_neighbour_4 rfl ?_
  obtain ⟨x2, ex2, hf⟩ := bnd hf
  refine r_ldI O ex2 dX4_neighbour_5 ?_
  refine r_istore_n O [(3, .int x2), (0, .ref a0), (1, .int a1), (2, .int a2)] dX4_neighbour_6 (by decide) rfl ?_
  refine r_iload_n O 0 dX4_neighbour_7 rfl ?_
  refine r_iconst O (v := -1) dX4_neighbour_8 (by decide) ?_
  obtain ⟨x3, hg, hf⟩ := bnd hf
  have hJ : AW p l e { frames := 1, cells := 0, slots := 0, locals := 22 } s m args below meth c G 4 (vx_MQ below (QcN G (.ok (some (.int r))) h) (XcN G (.ok (some (.int r))) h) args s 0 0 (gA G)) h 0 0 29 [] [.int x3] := by
    obtain rfl := Option.some.inj hf
    exact r_iret O hr rfl rfl (by decide) (by decide) dX4_neighbour_29
  clear hf
  have hf := hg
  clear hg
  by_cases hc : x2 = (-1)
  · rw [if_pos hc] at hf
    refine r_icmp_ne_f (tgt := 16) O dX4_neighbour_9 (by decide) hc ?_
    refine r_iconst O (v := -1) dX4_neighbour_12 (by decide) ?_
    refine r_goto (tgt := 29) O dX4_neighbour_13 (by decide) ?_
    obtain rfl := oi1 hf
    refine AW.sub [] rfl ?_
    exact hJ
  · rw [if_neg hc] at hf
    refine r_icmp_ne_t (tgt := 16) O dX4_neighbour_9 (by decide) hc ?_
    refine r_aload_n O 1 dX4_neighbour_16 rfl (Or.inl rfl) ?_
    refine r_iload_n O 0 dX4_neighbour_17 rfl ?_
    refine r_aload_n O 1 dX4_neighbour_18 rfl (Or.inl rfl) ?_
    obtain ⟨x4, ex4, hf⟩ := bnd hf
    refine r_gP O cf4 4 (by decide) rfl fl_X4_24 ex4 dX4_neighbour_19 ?_
    refine r_iload_n O 2 dX4_neighbour_22 rfl ?_
    obtain ⟨x5, ex5, hf⟩ := bnd hf
    refine r_ldI O ex5 dX4_neighbour_23 ?_
    refine r_iload_n O 3 dX4_neighbour_24 rfl ?_
    refine r_iadd O dX4_neighbour_25 ?_
    obtain ⟨x6, ex6, hf⟩ := bnd hf
    refine r_callV (av := [.int x2, .int (x5 + a2)]) (st := []) O (c_X4_standsAt ex6) mf_X4_standsAt cf4 (kd_X4_standsAt ex6) ml_X4_59 mi_X4_standsAt mv_X4_standsAt (by decide) (Nat.le_of_ble_eq_true rfl) (by decide) dX4_neighbour_26 ?_
    obtain rfl := oi1 hf
    refine AW.sub [] rfl ?_
    exact hJ
def f_X8_where (h : AH) (a0 : Nat) (a1 : Int32) (a2 : Int32) : Option (Except Nat Int32 × AH) :=
if aK h a0 = 8 then
Option.bind (f_X8_needThing h a0 a1) fun w => match w with
| (.error k9, h2) => some (.error k9, h2)
| (.ok x1, h2) =>
if a2 = 0 then
Option.bind (gP h2 8 a0 1) fun x3 =>
Option.bind (gP h2 4 x3 3) fun x4 =>
Option.bind (ldI h2 x4 a1) fun x5 =>
some (.ok x5, h2)
else
if a2 = 1 then
Option.bind (gP h2 8 a0 1) fun x6 =>
Option.bind (gP h2 4 x6 4) fun x7 =>
Option.bind (ldI h2 x7 a1) fun x8 =>
some (.ok x8, h2)
else
if a2 = 2 then
Option.bind (gP h2 8 a0 1) fun x9 =>
Option.bind (f_X4_neighbour h2 x9 a1 (-1)) fun x10 =>
some (.ok x10, h2)
else
if a2 = 3 then
Option.bind (gP h2 8 a0 1) fun x12 =>
Option.bind (f_X4_neighbour h2 x12 a1 1) fun x13 =>
some (.ok x13, h2)
else
if a2 = 4 then
Option.bind (gP h2 8 a0 1) fun x15 =>
Option.bind (gP h2 4 x15 2) fun x16 =>
Option.bind (ldI h2 x16 a1) fun x17 =>
some (.ok x17, h2)
else
if a2 = 5 then
Option.bind (gP h2 8 a0 1) fun x18 =>
Option.bind (f_X4_isFrozen h2 x18 a1) fun x19 =>
Option.bind (if x19 = 0 then
some (0 : Int32)
else
some (1 : Int32)) fun x21 =>
some (.ok x21, h2)
else
Option.bind (if a2 < 6 then
some (0 : Int32)
else
if 10 ≤ a2 then
some (0 : Int32)
else
some (1 : Int32)) fun x22 =>
Option.bind (f_X8_need h2 x22) fun w => match w with
| (.error k9, h24) => some (.error k9, h24)
| (.ok x23, h24) =>
Option.bind (gP h24 8 a0 1) fun x25 =>
Option.bind (gP h24 4 x25 0) fun x26 =>
Option.bind (ldI h24 x26 (((4 * a1) + a2) - 6)) fun x27 =>
some (.ok x27, h24)
else none
theorem kd_X8_where {h : AH} {a0 : Nat} {a1 : Int32} {a2 : Int32} {r : (Except Nat Int32 × AH)} (hf : f_X8_where h a0 a1 a2 = some r) : aK h a0 = 8 := by
  unfold f_X8_where at hf
  exact (ifk hf).1
set_option maxRecDepth 100000 in
set_option maxHeartbeats 4000000 in
theorem c_X8_where {l : Launch} {G : GT} {h : AH} {a0 : Nat} {a1 : Int32} {a2 : Int32} {r : (Except Nat Int32 × AH)} (hf : f_X8_where h a0 a1 a2 = some r) : Cn l yX8_where cX8_where 3 (some .int) 7 111 2 12 G h [.ref a0, .int a1, .int a2] (r.1.map (fun x => some (.int x))) r.2 := by
  refine Cn.of (by decide) (Nat.le_of_ble_eq_true rfl) ?_
  intro p e s m args below meth c O hr hx hin
  have O : OkC p l s m args meth c G cX8_where 3 RX8 := O
  unfold f_X8_where at hf
  obtain ⟨hk0, hf⟩ := ifk hf
  refine AW.sub (lv' := [(0, .ref a0), (1, .int a1), (2, .int a2)]) [0, 1, 2] rfl ?_
  refine r_aload_n O 0 dX8_where_0 rfl (Or.inl rfl) ?_
  refine r_iload_n O 1 dX8_where_1 rfl ?_
  obtain ⟨⟨w, h2⟩, ex1, hf⟩ := bnd hf
  cases w with
  | error k9 =>
    dsimp only at hf
    obtain rfl := Option.some.inj hf
    exact r_thrV (av := [.int a1]) (st := []) O hx (c_X8_needThing ex1) mf_X8_needThing cf8 (kd_X8_needThing ex1) ml_X8_114 mi_X8_needThing mv_X8_needThing (by decide) (Nat.le_of_ble_eq_true rfl) (by decide) (by decide) (by decide) dX8_where_2
  | ok x1 =>
    dsimp only at hf
    refine r_callV (av := [.int a1]) (st := []) O (c_X8_needThing ex1) mf_X8_needThing cf8 (kd_X8_needThing ex1) ml_X8_114 mi_X8_needThing mv_X8_needThing (by decide) (Nat.le_of_ble_eq_true rfl) (by decide) dX8_where_2 ?_
    refine r_iload_n O 2 dX8_where_5 rfl ?_
    by_cases hc : a2 = 0
    · rw [if_pos hc] at hf
      refine r_table_in (off := 38) (tgt := 44) O dX8_where_6 (by (rw [hc]; decide)) (by (rw [hc]; decide)) (by (rw [hc]; rfl)) (by decide) ?_
      refine r_aload_n O 0 dX8_where_44 rfl (Or.inl rfl) ?_
      obtain ⟨x3, ex3, hf⟩ := bnd hf
      refine r_gP O cf8 1 (by decide) rfl fl_X8_19 ex3 dX8_where_45 ?_
      obtain ⟨x4, ex4, hf⟩ := bnd hf
      refine r_gP O cf4 3 (by decide) rfl fl_X8_128 ex4 dX8_where_48 ?_
      refine r_iload_n O 1 dX8_where_51 rfl ?_
      obtain ⟨x5, ex5, hf⟩ := bnd hf
      refine r_ldI O ex5 dX8_where_52 ?_
      obtain rfl := Option.some.inj hf
      exact r_iret O hr rfl rfl (by decide) (by decide) dX8_where_53
    · rw [if_neg hc] at hf
      have hn44 := hc
      by_cases hc : a2 = 1
      · rw [if_pos hc] at hf
        refine r_table_in (off := 48) (tgt := 54) O dX8_where_6 (by (rw [hc]; decide)) (by (rw [hc]; decide)) (by (rw [hc]; rfl)) (by decide) ?_
        refine r_aload_n O 0 dX8_where_54 rfl (Or.inl rfl) ?_
        obtain ⟨x6, ex6, hf⟩ := bnd hf
        refine r_gP O cf8 1 (by decide) rfl fl_X8_19 ex6 dX8_where_55 ?_
        obtain ⟨x7, ex7, hf⟩ := bnd hf
        refine r_gP O cf4 4 (by decide) rfl fl_X8_148 ex7 dX8_where_58 ?_
        refine r_iload_n O 1 dX8_where_61 rfl ?_
        obtain ⟨x8, ex8, hf⟩ := bnd hf
        refine r_ldI O ex8 dX8_where_62 ?_
        obtain rfl := Option.some.inj hf
        exact r_iret O hr rfl rfl (by decide) (by decide) dX8_where_63
      · rw [if_neg hc] at hf
        have hn54 := hc
        by_cases hc : a2 = 2
        · rw [if_pos hc] at hf
          refine r_table_in (off := 58) (tgt := 64) O dX8_where_6 (by (rw [hc]; decide)) (by (rw [hc]; decide)) (by (rw [hc]; rfl)) (by decide) ?_
          refine r_aload_n O 0 dX8_where_64 rfl (Or.inl rfl) ?_
          obtain ⟨x9, ex9, hf⟩ := bnd hf
          refine r_gP O cf8 1 (by decide) rfl fl_X8_19 ex9 dX8_where_65 ?_
          refine r_iload_n O 1 dX8_where_68 rfl ?_
          refine r_iconst O (v := -1) dX8_where_69 (by decide) ?_
          obtain ⟨x10, ex10, hf⟩ := bnd hf
          refine r_callV (av := [.int a1, .int (-1)]) (st := []) O (c_X4_neighbour ex10) mf_X4_neighbour cf4 (kd_X4_neighbour ex10) ml_X8_233 mi_X4_neighbour mv_X4_neighbour (by decide) (Nat.le_of_ble_eq_true rfl) (by decide) dX8_where_70 ?_
          obtain rfl := Option.some.inj hf
          exact r_iret O hr rfl rfl (by decide) (by decide) dX8_where_73
        · rw [if_neg hc] at hf
          have hn64 := hc
          by_cases hc : a2 = 3
          · rw [if_pos hc] at hf
            refine r_table_in (off := 68) (tgt := 74) O dX8_where_6 (by (rw [hc]; decide)) (by (rw [hc]; decide)) (by (rw [hc]; rfl)) (by decide) ?_
            refine r_aload_n O 0 dX8_where_74 rfl (Or.inl rfl) ?_
            obtain ⟨x12, ex12, hf⟩ := bnd hf
            refine r_gP O cf8 1 (by decide) rfl fl_X8_19 ex12 dX8_where_75 ?_
            refine r_iload_n O 1 dX8_where_78 rfl ?_
            refine r_iconst O (v := 1) dX8_where_79 (by decide) ?_
            obtain ⟨x13, ex13, hf⟩ := bnd hf
            refine r_callV (av := [.int a1, .int 1]) (st := []) O (c_X4_neighbour ex13) mf_X4_neighbour cf4 (kd_X4_neighbour ex13) ml_X8_233 mi_X4_neighbour mv_X4_neighbour (by decide) (Nat.le_of_ble_eq_true rfl) (by decide) dX8_where_80 ?_
            obtain rfl := Option.some.inj hf
            exact r_iret O hr rfl rfl (by decide) (by decide) dX8_where_83
          · rw [if_neg hc] at hf
            have hn74 := hc
            by_cases hc : a2 = 4
            · rw [if_pos hc] at hf
              refine r_table_in (off := 78) (tgt := 84) O dX8_where_6 (by (rw [hc]; decide)) (by (rw [hc]; decide)) (by (rw [hc]; rfl)) (by decide) ?_
              refine r_aload_n O 0 dX8_where_84 rfl (Or.inl rfl) ?_
              obtain ⟨x15, ex15, hf⟩ := bnd hf
              refine r_gP O cf8 1 (by decide) rfl fl_X8_19 ex15 dX8_where_85 ?_
              obtain ⟨x16, ex16, hf⟩ := bnd hf
              refine r_gP O cf4 2 (by decide) rfl fl_X8_168 ex16 dX8_where_88 ?_
              refine r_iload_n O 1 dX8_where_91 rfl ?_
              obtain ⟨x17, ex17, hf⟩ := bnd hf
              refine r_ldI O ex17 dX8_where_92 ?_
              obtain rfl := Option.some.inj hf
              exact r_iret O hr rfl rfl (by decide) (by decide) dX8_where_93
            · rw [if_neg hc] at hf
              have hn84 := hc
              by_cases hc : a2 = 5
              · rw [if_pos hc] at hf
                refine r_table_in (off := 88) (tgt := 94) O dX8_where_6 (by (rw [hc]; decide)) (by (rw [hc]; decide)) (by (rw [hc]; rfl)) (by decide) ?_
                refine r_aload_n O 0 dX8_where_94 rfl (Or.inl rfl) ?_
                obtain ⟨x18, ex18, hf⟩ := bnd hf
                refine r_gP O cf8 1 (by decide) rfl fl_X8_19 ex18 dX8_where_95 ?_
                refine r_iload_n O 1 dX8_where_98 rfl ?_
                obtain ⟨x19, ex19, hf⟩ := bnd hf
                refine r_callV (av := [.int a1]) (st := []) O (c_X4_isFrozen ex19) mf_X4_isFrozen cf4 (kd_X4_isFrozen ex19) ml_X8_141 mi_X4_isFrozen mv_X4_isFrozen (by decide) (Nat.le_of_ble_eq_true rfl) (by decide) dX8_where_99 ?_
                obtain ⟨x21, hg, hf⟩ := bnd hf
                have hJ : AW p l e { frames := 7, cells := 2, slots := 12, locals := 111 } s m args below meth c G 3 (vx_MQ below (QcN G (r.1.map (fun x => some (.int x))) r.2) (XcN G (r.1.map (fun x => some (.int x))) r.2) args s 2 12 (gA G)) h2 1 6 110 [] [.int x21] := by
                  obtain rfl := Option.some.inj hf
                  exact r_iret O hr rfl rfl (by decide) (by decide) dX8_where_110
                clear hf
                have hf := hg
                clear hg
                by_cases hc : x19 = 0
                · rw [if_pos hc] at hf
                  refine r_if_eq_t (tgt := 109) O dX8_where_102 (by decide) hc ?_
                  refine r_iconst O (v := 0) dX8_where_109 (by decide) ?_
                  obtain rfl := oi1 hf
                  refine AW.sub [] rfl ?_
                  exact hJ
                · rw [if_neg hc] at hf
                  refine r_if_eq_f (tgt := 109) O dX8_where_102 (by decide) hc ?_
                  refine r_iconst O (v := 1) dX8_where_105 (by decide) ?_
                  refine r_goto (tgt := 110) O dX8_where_106 (by decide) ?_
                  obtain rfl := oi1 hf
                  refine AW.sub [] rfl ?_
                  exact hJ
              · rw [if_neg hc] at hf
                have hn94 := hc
                have hout := tb_out (x := a2) 0 6 (fun j hj => by
                  rcases (show j = 0 ∨ j = 1 ∨ j = 2 ∨ j = 3 ∨ j = 4 ∨ j = 5 by omega) with rfl | rfl | rfl | rfl | rfl | rfl
                  · exact fun q => hn44 (q.trans (by decide))
                  · exact fun q => hn54 (q.trans (by decide))
                  · exact fun q => hn64 (q.trans (by decide))
                  · exact fun q => hn74 (q.trans (by decide))
                  · exact fun q => hn84 (q.trans (by decide))
                  · exact fun q => hn94 (q.trans (by decide)))
                refine r_table_out (tgt := 111) O dX8_where_6 hout (by decide) ?_
                refine r_iload_n O 2 dX8_where_111 rfl ?_
                refine r_bipush O (v := 6) dX8_where_112 (by decide) ?_
                obtain ⟨x22, hg, hf⟩ := bnd hf
                have hJ : AW p l e { frames := 7, cells := 2, slots := 12, locals := 111 } s m args below meth c G 3 (vx_MQ below (QcN G (r.1.map (fun x => some (.int x))) r.2) (XcN G (r.1.map (fun x => some (.int x))) r.2) args s 2 12 (gA G)) h2 1 6 128 [(0, .ref a0), (1, .int a1), (2, .int a2)] [.int x22] := by
                  obtain ⟨⟨w, h24⟩, ex23, hf⟩ := bnd hf
                  cases w with
                  | error k9 =>
                    dsimp only at hf
                    obtain rfl := Option.some.inj hf
                    exact r_thrS (av := [.int x22]) (st := []) O hx (c_X8_need ex23) mf_X8_need ml_X8_92 ms_X8_need (by decide) (Nat.le_of_ble_eq_true rfl) (by decide) (by decide) (by decide) dX8_where_128
                  | ok x23 =>
                    dsimp only at hf
                    refine r_callS (av := [.int x22]) (st := []) O (c_X8_need ex23) mf_X8_need ml_X8_92 ms_X8_need (by decide) (Nat.le_of_ble_eq_true rfl) (by decide) dX8_where_128 ?_
                    refine r_aload_n O 0 dX8_where_131 rfl (Or.inl rfl) ?_
                    obtain ⟨x25, ex25, hf⟩ := bnd hf
                    refine r_gP O cf8 1 (by decide) rfl fl_X8_19 ex25 dX8_where_132 ?_
                    obtain ⟨x26, ex26, hf⟩ := bnd hf
                    refine r_gP O cf4 0 (by decide) rfl fl_X8_162 ex26 dX8_where_135 ?_
                    refine r_iconst O (v := 4) dX8_where_138 (by decide) ?_
                    refine r_iload_n O 1 dX8_where_139 rfl ?_
                    refine r_imul O dX8_where_140 ?_
                    refine r_iload_n O 2 dX8_where_141 rfl ?_
                    refine r_iadd O dX8_where_142 ?_
                    refine r_bipush O (v := 6) dX8_where_143 (by decide) ?_
                    refine r_isub O dX8_where_145 ?_
                    obtain ⟨x27, ex27, hf⟩ := bnd hf
                    refine r_ldI O ex27 dX8_where_146 ?_
                    obtain rfl := Option.some.inj hf
                    exact r_iret O hr rfl rfl (by decide) (by decide) dX8_where_147
                clear hf
                have hf := hg
                clear hg
                by_cases hc : a2 < 6
                · rw [if_pos hc] at hf
                  refine r_icmp_lt_t (tgt := 127) O dX8_where_114 (by decide) hc ?_
                  refine r_iconst O (v := 0) dX8_where_127 (by decide) ?_
                  obtain rfl := oi1 hf
                  refine AW.sub [0, 1, 2] rfl ?_
                  exact hJ
                · rw [if_neg hc] at hf
                  refine r_icmp_lt_f (tgt := 127) O dX8_where_114 (by decide) hc ?_
                  refine r_iload_n O 2 dX8_where_117 rfl ?_
                  refine r_bipush O (v := 10) dX8_where_118 (by decide) ?_
                  by_cases hc : 10 ≤ a2
                  · rw [if_pos hc] at hf
                    refine r_icmp_ge_t (tgt := 127) O dX8_where_120 (by decide) hc ?_
                    refine r_iconst O (v := 0) dX8_where_127 (by decide) ?_
                    obtain rfl := oi1 hf
                    refine AW.sub [0, 1, 2] rfl ?_
                    exact hJ
                  · rw [if_neg hc] at hf
                    refine r_icmp_ge_f (tgt := 127) O dX8_where_120 (by decide) hc ?_
                    refine r_iconst O (v := 1) dX8_where_123 (by decide) ?_
                    refine r_goto (tgt := 128) O dX8_where_124 (by decide) ?_
                    obtain rfl := oi1 hf
                    refine AW.sub [0, 1, 2] rfl ?_
                    exact hJ
def f_X8_at (h : AH) (a0 : Nat) (a1 : Int32) (a2 : Int32) : Option (Except Nat Int32 × AH) :=
if aK h a0 = 8 then
Option.bind (f_X8_needList h a0 a1) fun w => match w with
| (.error k9, h2) => some (.error k9, h2)
| (.ok x1, h2) =>
Option.bind (gP h2 8 a0 1) fun x3 =>
Option.bind (f_X4_standsAt h2 x3 a1 a2) fun x4 =>
some (.ok x4, h2)
else none
theorem kd_X8_at {h : AH} {a0 : Nat} {a1 : Int32} {a2 : Int32} {r : (Except Nat Int32 × AH)} (hf : f_X8_at h a0 a1 a2 = some r) : aK h a0 = 8 := by
  unfold f_X8_at at hf
  exact (ifk hf).1
set_option maxRecDepth 100000 in
set_option maxHeartbeats 4000000 in
theorem c_X8_at {l : Launch} {G : GT} {h : AH} {a0 : Nat} {a1 : Int32} {a2 : Int32} {r : (Except Nat Int32 × AH)} (hf : f_X8_at h a0 a1 a2 = some r) : Cn l yX8_at cX8_at 3 (some .int) 7 111 1 6 G h [.ref a0, .int a1, .int a2] (r.1.map (fun x => some (.int x))) r.2 := by
  refine Cn.of (by decide) (Nat.le_of_ble_eq_true rfl) ?_
  intro p e s m args below meth c O hr hx hin
  have O : OkC p l s m args meth c G cX8_at 3 RX8 := O
  unfold f_X8_at at hf
  obtain ⟨hk0, hf⟩ := ifk hf
  refine AW.sub (lv' := [(0, .ref a0), (1, .int a1), (2, .int a2)]) [0, 1, 2] rfl ?_
  refine r_aload_n O 0 dX8_at_0 rfl (Or.inl rfl) ?_
  refine r_iload_n O 1 dX8_at_1 rfl ?_
  obtain ⟨⟨w, h2⟩, ex1, hf⟩ := bnd hf
  cases w with
  | error k9 =>
    dsimp only at hf
    obtain rfl := Option.some.inj hf
    exact r_thrV (av := [.int a1]) (st := []) O hx (c_X8_needList ex1) mf_X8_needList cf8 (kd_X8_needList ex1) ml_X8_118 mi_X8_needList mv_X8_needList (by decide) (Nat.le_of_ble_eq_true rfl) (by decide) (by decide) (by decide) dX8_at_2
  | ok x1 =>
    dsimp only at hf
    refine r_callV (av := [.int a1]) (st := []) O (c_X8_needList ex1) mf_X8_needList cf8 (kd_X8_needList ex1) ml_X8_118 mi_X8_needList mv_X8_needList (by decide) (Nat.le_of_ble_eq_true rfl) (by decide) dX8_at_2 ?_
    refine r_aload_n O 0 dX8_at_5 rfl (Or.inl rfl) ?_
    obtain ⟨x3, ex3, hf⟩ := bnd hf
    refine r_gP O cf8 1 (by decide) rfl fl_X8_19 ex3 dX8_at_6 ?_
    refine r_iload_n O 1 dX8_at_9 rfl ?_
    refine r_iload_n O 2 dX8_at_10 rfl ?_
    obtain ⟨x4, ex4, hf⟩ := bnd hf
    refine r_callV (av := [.int a1, .int a2]) (st := []) O (c_X4_standsAt ex4) mf_X4_standsAt cf4 (kd_X4_standsAt ex4) ml_X8_236 mi_X4_standsAt mv_X4_standsAt (by decide) (Nat.le_of_ble_eq_true rfl) (by decide) dX8_at_11 ?_
    obtain rfl := Option.some.inj hf
    exact r_iret O hr rfl rfl (by decide) (by decide) dX8_at_14
def f_X8_worked (h : AH) (a0 : Nat) (a1 : Int32) : Option Int32 :=
if aK h a0 = 8 then
Option.bind (gP h 8 a0 5) fun x1 =>
Option.bind (f_X6_get h x1 a1) fun x2 =>
some x2
else none
theorem kd_X8_worked {h : AH} {a0 : Nat} {a1 : Int32} {r : Int32} (hf : f_X8_worked h a0 a1 = some r) : aK h a0 = 8 := by
  unfold f_X8_worked at hf
  exact (ifk hf).1
set_option maxRecDepth 100000 in
set_option maxHeartbeats 4000000 in
theorem c_X8_worked {l : Launch} {G : GT} {h : AH} {a0 : Nat} {a1 : Int32} {r : Int32} (hf : f_X8_worked h a0 a1 = some r) : Cn l yX8_worked cX8_worked 2 (some .int) 1 21 0 0 G h [.ref a0, .int a1] (.ok (some (.int r))) h := by
  refine Cn.of (by decide) (Nat.le_of_ble_eq_true rfl) ?_
  intro p e s m args below meth c O hr hx hin
  have O : OkC p l s m args meth c G cX8_worked 2 RX8 := O
  unfold f_X8_worked at hf
  obtain ⟨hk0, hf⟩ := ifk hf
  refine AW.sub (lv' := [(0, .ref a0), (1, .int a1)]) [0, 1] rfl ?_
  refine r_aload_n O 0 dX8_worked_0 rfl (Or.inl rfl) ?_
  obtain ⟨x1, ex1, hf⟩ := bnd hf
  refine r_gP O cf8 5 (by decide) rfl fl_X8_37 ex1 dX8_worked_1 ?_
  refine r_iload_n O 1 dX8_worked_4 rfl ?_
  obtain ⟨x2, ex2, hf⟩ := bnd hf
  refine r_callV (av := [.int a1]) (st := []) O (c_X6_get ex2) mf_X6_get cf6 (kd_X6_get ex2) ml_X8_239 mi_X6_get mv_X6_get (by decide) (Nat.le_of_ble_eq_true rfl) (by decide) dX8_worked_5 ?_
  obtain rfl := Option.some.inj hf
  exact r_iret O hr rfl rfl (by decide) (by decide) dX8_worked_8
def f_X8_order (h : AH) (a0 : Nat) (a1 : Int32) : Option Int32 :=
if aK h a0 = 8 then
Option.bind (gP h 8 a0 4) fun x1 =>
Option.bind (f_X6_get h x1 a1) fun x2 =>
some x2
else none
theorem kd_X8_order {h : AH} {a0 : Nat} {a1 : Int32} {r : Int32} (hf : f_X8_order h a0 a1 = some r) : aK h a0 = 8 := by
  unfold f_X8_order at hf
  exact (ifk hf).1
set_option maxRecDepth 100000 in
set_option maxHeartbeats 4000000 in
theorem c_X8_order {l : Launch} {G : GT} {h : AH} {a0 : Nat} {a1 : Int32} {r : Int32} (hf : f_X8_order h a0 a1 = some r) : Cn l yX8_order cX8_order 2 (some .int) 1 21 0 0 G h [.ref a0, .int a1] (.ok (some (.int r))) h := by
  refine Cn.of (by decide) (Nat.le_of_ble_eq_true rfl) ?_
  intro p e s m args below meth c O hr hx hin
  have O : OkC p l s m args meth c G cX8_order 2 RX8 := O
  unfold f_X8_order at hf
  obtain ⟨hk0, hf⟩ := ifk hf
  refine AW.sub (lv' := [(0, .ref a0), (1, .int a1)]) [0, 1] rfl ?_
  refine r_aload_n O 0 dX8_order_0 rfl (Or.inl rfl) ?_
  obtain ⟨x1, ex1, hf⟩ := bnd hf
  refine r_gP O cf8 4 (by decide) rfl fl_X8_33 ex1 dX8_order_1 ?_
  refine r_iload_n O 1 dX8_order_4 rfl ?_
  obtain ⟨x2, ex2, hf⟩ := bnd hf
  refine r_callV (av := [.int a1]) (st := []) O (c_X6_get ex2) mf_X6_get cf6 (kd_X6_get ex2) ml_X8_239 mi_X6_get mv_X6_get (by decide) (Nat.le_of_ble_eq_true rfl) (by decide) dX8_order_5 ?_
  obtain rfl := Option.some.inj hf
  exact r_iret O hr rfl rfl (by decide) (by decide) dX8_order_8
def f_X8_ring (h : AH) (a0 : Nat) (a1 : Int32) : Option Int32 :=
if aK h a0 = 8 then
Option.bind (gP h 8 a0 6) fun x1 =>
Option.bind (gP h 1 x1 1) fun x2 =>
Option.bind (gP h 5 x2 10) fun x3 =>
Option.bind (f_X6_get h x3 a1) fun x4 =>
some x4
else none
theorem kd_X8_ring {h : AH} {a0 : Nat} {a1 : Int32} {r : Int32} (hf : f_X8_ring h a0 a1 = some r) : aK h a0 = 8 := by
  unfold f_X8_ring at hf
  exact (ifk hf).1
set_option maxRecDepth 100000 in
set_option maxHeartbeats 4000000 in
theorem c_X8_ring {l : Launch} {G : GT} {h : AH} {a0 : Nat} {a1 : Int32} {r : Int32} (hf : f_X8_ring h a0 a1 = some r) : Cn l yX8_ring cX8_ring 2 (some .int) 1 21 0 0 G h [.ref a0, .int a1] (.ok (some (.int r))) h := by
  refine Cn.of (by decide) (Nat.le_of_ble_eq_true rfl) ?_
  intro p e s m args below meth c O hr hx hin
  have O : OkC p l s m args meth c G cX8_ring 2 RX8 := O
  unfold f_X8_ring at hf
  obtain ⟨hk0, hf⟩ := ifk hf
  refine AW.sub (lv' := [(0, .ref a0), (1, .int a1)]) [0, 1] rfl ?_
  refine r_aload_n O 0 dX8_ring_0 rfl (Or.inl rfl) ?_
  obtain ⟨x1, ex1, hf⟩ := bnd hf
  refine r_gP O cf8 6 (by decide) rfl fl_X8_45 ex1 dX8_ring_1 ?_
  obtain ⟨x2, ex2, hf⟩ := bnd hf
  refine r_gP O cf1 1 (by decide) rfl fl_X8_204 ex2 dX8_ring_4 ?_
  obtain ⟨x3, ex3, hf⟩ := bnd hf
  refine r_gP O cf5 10 (by decide) rfl fl_X8_242 ex3 dX8_ring_7 ?_
  refine r_iload_n O 1 dX8_ring_10 rfl ?_
  obtain ⟨x4, ex4, hf⟩ := bnd hf
  refine r_callV (av := [.int a1]) (st := []) O (c_X6_get ex4) mf_X6_get cf6 (kd_X6_get ex4) ml_X8_239 mi_X6_get mv_X6_get (by decide) (Nat.le_of_ble_eq_true rfl) (by decide) dX8_ring_11 ?_
  obtain rfl := Option.some.inj hf
  exact r_iret O hr rfl rfl (by decide) (by decide) dX8_ring_14
def f_X8_cause (h : AH) (a0 : Nat) (a1 : Int32) : Option (Except Nat Int32 × AH) :=
if aK h a0 = 8 then
if a1 = 0 then
Option.bind (gP h 8 a0 6) fun x1 =>
Option.bind (gI h 1 x1 5) fun x2 =>
some (.ok x2, h)
else
if a1 = 1 then
Option.bind (gP h 8 a0 6) fun x3 =>
Option.bind (gI h 1 x3 6) fun x4 =>
some (.ok x4, h)
else
if a1 = 2 then
Option.bind (gP h 8 a0 6) fun x5 =>
Option.bind (gI h 1 x5 7) fun x6 =>
some (.ok x6, h)
else
Option.bind (if a1 = 3 then
some (1 : Int32)
else
some (0 : Int32)) fun x7 =>
Option.bind (f_X8_need h x7) fun w => match w with
| (.error k9, h9) => some (.error k9, h9)
| (.ok x8, h9) =>
Option.bind (gP h9 8 a0 6) fun x10 =>
Option.bind (gI h9 1 x10 8) fun x11 =>
some (.ok x11, h9)
else none
theorem kd_X8_cause {h : AH} {a0 : Nat} {a1 : Int32} {r : (Except Nat Int32 × AH)} (hf : f_X8_cause h a0 a1 = some r) : aK h a0 = 8 := by
  unfold f_X8_cause at hf
  exact (ifk hf).1
set_option maxRecDepth 100000 in
set_option maxHeartbeats 4000000 in
theorem c_X8_cause {l : Launch} {G : GT} {h : AH} {a0 : Nat} {a1 : Int32} {r : (Except Nat Int32 × AH)} (hf : f_X8_cause h a0 a1 = some r) : Cn l yX8_cause cX8_cause 2 (some .int) 7 110 1 6 G h [.ref a0, .int a1] (r.1.map (fun x => some (.int x))) r.2 := by
  refine Cn.of (by decide) (Nat.le_of_ble_eq_true rfl) ?_
  intro p e s m args below meth c O hr hx hin
  have O : OkC p l s m args meth c G cX8_cause 2 RX8 := O
  unfold f_X8_cause at hf
  obtain ⟨hk0, hf⟩ := ifk hf
  refine AW.sub (lv' := [(0, .ref a0), (1, .int a1)]) [0, 1] rfl ?_
  refine r_iload_n O 1 dX8_cause_0 rfl ?_
  by_cases hc : a1 = 0
  · rw [if_pos hc] at hf
    refine r_table_in (off := 27) (tgt := 28) O dX8_cause_1 (by (rw [hc]; decide)) (by (rw [hc]; decide)) (by (rw [hc]; rfl)) (by decide) ?_
    refine r_aload_n O 0 dX8_cause_28 rfl (Or.inl rfl) ?_
    obtain ⟨x1, ex1, hf⟩ := bnd hf
    refine r_gP O cf8 6 (by decide) rfl fl_X8_45 ex1 dX8_cause_29 ?_
    obtain ⟨x2, ex2, hf⟩ := bnd hf
    refine r_gI O cf1 5 (by decide) rfl fl_X8_245 ex2 dX8_cause_32 ?_
    obtain rfl := Option.some.inj hf
    exact r_iret O hr rfl rfl (by decide) (by decide) dX8_cause_35
  · rw [if_neg hc] at hf
    have hn28 := hc
    by_cases hc : a1 = 1
    · rw [if_pos hc] at hf
      refine r_table_in (off := 35) (tgt := 36) O dX8_cause_1 (by (rw [hc]; decide)) (by (rw [hc]; decide)) (by (rw [hc]; rfl)) (by decide) ?_
      refine r_aload_n O 0 dX8_cause_36 rfl (Or.inl rfl) ?_
      obtain ⟨x3, ex3, hf⟩ := bnd hf
      refine r_gP O cf8 6 (by decide) rfl fl_X8_45 ex3 dX8_cause_37 ?_
      obtain ⟨x4, ex4, hf⟩ := bnd hf
      refine r_gI O cf1 6 (by decide) rfl fl_X8_248 ex4 dX8_cause_40 ?_
      obtain rfl := Option.some.inj hf
      exact r_iret O hr rfl rfl (by decide) (by decide) dX8_cause_43
    · rw [if_neg hc] at hf
      have hn36 := hc
      by_cases hc : a1 = 2
      · rw [if_pos hc] at hf
        refine r_table_in (off := 43) (tgt := 44) O dX8_cause_1 (by (rw [hc]; decide)) (by (rw [hc]; decide)) (by (rw [hc]; rfl)) (by decide) ?_
        refine r_aload_n O 0 dX8_cause_44 rfl (Or.inl rfl) ?_
        obtain ⟨x5, ex5, hf⟩ := bnd hf
        refine r_gP O cf8 6 (by decide) rfl fl_X8_45 ex5 dX8_cause_45 ?_
        obtain ⟨x6, ex6, hf⟩ := bnd hf
        refine r_gI O cf1 7 (by decide) rfl fl_X8_251 ex6 dX8_cause_48 ?_
        obtain rfl := Option.some.inj hf
        exact r_iret O hr rfl rfl (by decide) (by decide) dX8_cause_51
      · rw [if_neg hc] at hf
        have hn44 := hc
        have hout := tb_out (x := a1) 0 3 (fun j hj => by
          rcases (show j = 0 ∨ j = 1 ∨ j = 2 by omega) with rfl | rfl | rfl
          · exact fun q => hn28 (q.trans (by decide))
          · exact fun q => hn36 (q.trans (by decide))
          · exact fun q => hn44 (q.trans (by decide)))
        refine r_table_out (tgt := 52) O dX8_cause_1 hout (by decide) ?_
        refine r_iload_n O 1 dX8_cause_52 rfl ?_
        refine r_iconst O (v := 3) dX8_cause_53 (by decide) ?_
        obtain ⟨x7, hg, hf⟩ := bnd hf
        have hJ : AW p l e { frames := 7, cells := 1, slots := 6, locals := 110 } s m args below meth c G 2 (vx_MQ below (QcN G (r.1.map (fun x => some (.int x))) r.2) (XcN G (r.1.map (fun x => some (.int x))) r.2) args s 1 6 (gA G)) h 0 0 62 [(0, .ref a0)] [.int x7] := by
          obtain ⟨⟨w, h9⟩, ex8, hf⟩ := bnd hf
          cases w with
          | error k9 =>
            dsimp only at hf
            obtain rfl := Option.some.inj hf
            exact r_thrS (av := [.int x7]) (st := []) O hx (c_X8_need ex8) mf_X8_need ml_X8_92 ms_X8_need (by decide) (Nat.le_of_ble_eq_true rfl) (by decide) (by decide) (by decide) dX8_cause_62
          | ok x8 =>
            dsimp only at hf
            refine r_callS (av := [.int x7]) (st := []) O (c_X8_need ex8) mf_X8_need ml_X8_92 ms_X8_need (by decide) (Nat.le_of_ble_eq_true rfl) (by decide) dX8_cause_62 ?_
            refine r_aload_n O 0 dX8_cause_65 rfl (Or.inl rfl) ?_
            obtain ⟨x10, ex10, hf⟩ := bnd hf
            refine r_gP O cf8 6 (by decide) rfl fl_X8_45 ex10 dX8_cause_66 ?_
            obtain ⟨x11, ex11, hf⟩ := bnd hf
            refine r_gI O cf1 8 (by decide) rfl fl_X8_254 ex11 dX8_cause_69 ?_
            obtain rfl := Option.some.inj hf
            exact r_iret O hr rfl rfl (by decide) (by decide) dX8_cause_72
        clear hf
        have hf := hg
        clear hg
        by_cases hc : a1 = 3
        · rw [if_pos hc] at hf
          refine r_icmp_ne_f (tgt := 61) O dX8_cause_54 (by decide) hc ?_
          refine r_iconst O (v := 1) dX8_cause_57 (by decide) ?_
          refine r_goto (tgt := 62) O dX8_cause_58 (by decide) ?_
          obtain rfl := oi1 hf
          refine AW.sub [0] rfl ?_
          exact hJ
        · rw [if_neg hc] at hf
          refine r_icmp_ne_t (tgt := 61) O dX8_cause_54 (by decide) hc ?_
          refine r_iconst O (v := 0) dX8_cause_61 (by decide) ?_
          obtain rfl := oi1 hf
          refine AW.sub [0] rfl ?_
          exact hJ
def f_X8_count (h : AH) (a0 : Nat) (a1 : Int32) : Option (Except Nat Int32 × AH) :=
if aK h a0 = 8 then
if a1 = 0 then
Option.bind (gP h 8 a0 0) fun x1 =>
Option.bind (gI h 0 x1 6) fun x2 =>
some (.ok x2, h)
else
if a1 = 1 then
Option.bind (gP h 8 a0 0) fun x3 =>
Option.bind (gI h 0 x3 7) fun x4 =>
some (.ok x4, h)
else
if a1 = 2 then
Option.bind (gP h 8 a0 4) fun x5 =>
Option.bind (gI h 6 x5 1) fun x6 =>
some (.ok x6, h)
else
if a1 = 3 then
Option.bind (gP h 8 a0 7) fun x7 =>
Option.bind (gI h 3 x7 2) fun x8 =>
some (.ok x8, h)
else
if a1 = 4 then
Option.bind (gI h 8 a0 11) fun x9 =>
some (.ok x9, h)
else
if a1 = 5 then
Option.bind (gI h 8 a0 12) fun x10 =>
some (.ok x10, h)
else
Option.bind (if a1 = 6 then
some (1 : Int32)
else
some (0 : Int32)) fun x11 =>
Option.bind (f_X8_need h x11) fun w => match w with
| (.error k9, h13) => some (.error k9, h13)
| (.ok x12, h13) =>
Option.bind (gI h13 8 a0 10) fun x14 =>
some (.ok x14, h13)
else none
theorem kd_X8_count {h : AH} {a0 : Nat} {a1 : Int32} {r : (Except Nat Int32 × AH)} (hf : f_X8_count h a0 a1 = some r) : aK h a0 = 8 := by
  unfold f_X8_count at hf
  exact (ifk hf).1
set_option maxRecDepth 100000 in
set_option maxHeartbeats 4000000 in
theorem c_X8_count {l : Launch} {G : GT} {h : AH} {a0 : Nat} {a1 : Int32} {r : (Except Nat Int32 × AH)} (hf : f_X8_count h a0 a1 = some r) : Cn l yX8_count cX8_count 2 (some .int) 7 110 1 6 G h [.ref a0, .int a1] (r.1.map (fun x => some (.int x))) r.2 := by
  refine Cn.of (by decide) (Nat.le_of_ble_eq_true rfl) ?_
  intro p e s m args below meth c O hr hx hin
  have O : OkC p l s m args meth c G cX8_count 2 RX8 := O
  unfold f_X8_count at hf
  obtain ⟨hk0, hf⟩ := ifk hf
  refine AW.sub (lv' := [(0, .ref a0), (1, .int a1)]) [0, 1] rfl ?_
  refine r_iload_n O 1 dX8_count_0 rfl ?_
  by_cases hc : a1 = 0
  · rw [if_pos hc] at hf
    refine r_table_in (off := 39) (tgt := 40) O dX8_count_1 (by (rw [hc]; decide)) (by (rw [hc]; decide)) (by (rw [hc]; rfl)) (by decide) ?_
    refine r_aload_n O 0 dX8_count_40 rfl (Or.inl rfl) ?_
    obtain ⟨x1, ex1, hf⟩ := bnd hf
    refine r_gP O cf8 0 (by decide) rfl fl_X8_10 ex1 dX8_count_41 ?_
    obtain ⟨x2, ex2, hf⟩ := bnd hf
    refine r_gI O cf0 6 (by decide) rfl fl_X8_59 ex2 dX8_count_44 ?_
    obtain rfl := Option.some.inj hf
    exact r_iret O hr rfl rfl (by decide) (by decide) dX8_count_47
  · rw [if_neg hc] at hf
    have hn40 := hc
    by_cases hc : a1 = 1
    · rw [if_pos hc] at hf
      refine r_table_in (off := 47) (tgt := 48) O dX8_count_1 (by (rw [hc]; decide)) (by (rw [hc]; decide)) (by (rw [hc]; rfl)) (by decide) ?_
      refine r_aload_n O 0 dX8_count_48 rfl (Or.inl rfl) ?_
      obtain ⟨x3, ex3, hf⟩ := bnd hf
      refine r_gP O cf8 0 (by decide) rfl fl_X8_10 ex3 dX8_count_49 ?_
      obtain ⟨x4, ex4, hf⟩ := bnd hf
      refine r_gI O cf0 7 (by decide) rfl fl_X8_74 ex4 dX8_count_52 ?_
      obtain rfl := Option.some.inj hf
      exact r_iret O hr rfl rfl (by decide) (by decide) dX8_count_55
    · rw [if_neg hc] at hf
      have hn48 := hc
      by_cases hc : a1 = 2
      · rw [if_pos hc] at hf
        refine r_table_in (off := 55) (tgt := 56) O dX8_count_1 (by (rw [hc]; decide)) (by (rw [hc]; decide)) (by (rw [hc]; rfl)) (by decide) ?_
        refine r_aload_n O 0 dX8_count_56 rfl (Or.inl rfl) ?_
        obtain ⟨x5, ex5, hf⟩ := bnd hf
        refine r_gP O cf8 4 (by decide) rfl fl_X8_33 ex5 dX8_count_57 ?_
        obtain ⟨x6, ex6, hf⟩ := bnd hf
        refine r_gI O cf6 1 (by decide) rfl fl_X8_257 ex6 dX8_count_60 ?_
        obtain rfl := Option.some.inj hf
        exact r_iret O hr rfl rfl (by decide) (by decide) dX8_count_63
      · rw [if_neg hc] at hf
        have hn56 := hc
        by_cases hc : a1 = 3
        · rw [if_pos hc] at hf
          refine r_table_in (off := 63) (tgt := 64) O dX8_count_1 (by (rw [hc]; decide)) (by (rw [hc]; decide)) (by (rw [hc]; rfl)) (by decide) ?_
          refine r_aload_n O 0 dX8_count_64 rfl (Or.inl rfl) ?_
          obtain ⟨x7, ex7, hf⟩ := bnd hf
          refine r_gP O cf8 7 (by decide) rfl fl_X8_52 ex7 dX8_count_65 ?_
          obtain ⟨x8, ex8, hf⟩ := bnd hf
          refine r_gI O cf3 2 (by decide) rfl fl_X8_260 ex8 dX8_count_68 ?_
          obtain rfl := Option.some.inj hf
          exact r_iret O hr rfl rfl (by decide) (by decide) dX8_count_71
        · rw [if_neg hc] at hf
          have hn64 := hc
          by_cases hc : a1 = 4
          · rw [if_pos hc] at hf
            refine r_table_in (off := 71) (tgt := 72) O dX8_count_1 (by (rw [hc]; decide)) (by (rw [hc]; decide)) (by (rw [hc]; rfl)) (by decide) ?_
            refine r_aload_n O 0 dX8_count_72 rfl (Or.inl rfl) ?_
            obtain ⟨x9, ex9, hf⟩ := bnd hf
            refine r_gI O cf8 11 (by decide) rfl fl_X8_261 ex9 dX8_count_73 ?_
            obtain rfl := Option.some.inj hf
            exact r_iret O hr rfl rfl (by decide) (by decide) dX8_count_76
          · rw [if_neg hc] at hf
            have hn72 := hc
            by_cases hc : a1 = 5
            · rw [if_pos hc] at hf
              refine r_table_in (off := 76) (tgt := 77) O dX8_count_1 (by (rw [hc]; decide)) (by (rw [hc]; decide)) (by (rw [hc]; rfl)) (by decide) ?_
              refine r_aload_n O 0 dX8_count_77 rfl (Or.inl rfl) ?_
              obtain ⟨x10, ex10, hf⟩ := bnd hf
              refine r_gI O cf8 12 (by decide) rfl fl_X8_104 ex10 dX8_count_78 ?_
              obtain rfl := Option.some.inj hf
              exact r_iret O hr rfl rfl (by decide) (by decide) dX8_count_81
            · rw [if_neg hc] at hf
              have hn77 := hc
              have hout := tb_out (x := a1) 0 6 (fun j hj => by
                rcases (show j = 0 ∨ j = 1 ∨ j = 2 ∨ j = 3 ∨ j = 4 ∨ j = 5 by omega) with rfl | rfl | rfl | rfl | rfl | rfl
                · exact fun q => hn40 (q.trans (by decide))
                · exact fun q => hn48 (q.trans (by decide))
                · exact fun q => hn56 (q.trans (by decide))
                · exact fun q => hn64 (q.trans (by decide))
                · exact fun q => hn72 (q.trans (by decide))
                · exact fun q => hn77 (q.trans (by decide)))
              refine r_table_out (tgt := 82) O dX8_count_1 hout (by decide) ?_
              refine r_iload_n O 1 dX8_count_82 rfl ?_
              refine r_bipush O (v := 6) dX8_count_83 (by decide) ?_
              obtain ⟨x11, hg, hf⟩ := bnd hf
              have hJ : AW p l e { frames := 7, cells := 1, slots := 6, locals := 110 } s m args below meth c G 2 (vx_MQ below (QcN G (r.1.map (fun x => some (.int x))) r.2) (XcN G (r.1.map (fun x => some (.int x))) r.2) args s 1 6 (gA G)) h 0 0 93 [(0, .ref a0)] [.int x11] := by
                obtain ⟨⟨w, h13⟩, ex12, hf⟩ := bnd hf
                cases w with
                | error k9 =>
                  dsimp only at hf
                  obtain rfl := Option.some.inj hf
                  exact r_thrS (av := [.int x11]) (st := []) O hx (c_X8_need ex12) mf_X8_need ml_X8_92 ms_X8_need (by decide) (Nat.le_of_ble_eq_true rfl) (by decide) (by decide) (by decide) dX8_count_93
                | ok x12 =>
                  dsimp only at hf
                  refine r_callS (av := [.int x11]) (st := []) O (c_X8_need ex12) mf_X8_need ml_X8_92 ms_X8_need (by decide) (Nat.le_of_ble_eq_true rfl) (by decide) dX8_count_93 ?_
                  refine r_aload_n O 0 dX8_count_96 rfl (Or.inl rfl) ?_
                  obtain ⟨x14, ex14, hf⟩ := bnd hf
                  refine r_gI O cf8 10 (by decide) rfl fl_X8_179 ex14 dX8_count_97 ?_
                  obtain rfl := Option.some.inj hf
                  exact r_iret O hr rfl rfl (by decide) (by decide) dX8_count_100
              clear hf
              have hf := hg
              clear hg
              by_cases hc : a1 = 6
              · rw [if_pos hc] at hf
                refine r_icmp_ne_f (tgt := 92) O dX8_count_85 (by decide) hc ?_
                refine r_iconst O (v := 1) dX8_count_88 (by decide) ?_
                refine r_goto (tgt := 93) O dX8_count_89 (by decide) ?_
                obtain rfl := oi1 hf
                refine AW.sub [0] rfl ?_
                exact hJ
              · rw [if_neg hc] at hf
                refine r_icmp_ne_t (tgt := 92) O dX8_count_85 (by decide) hc ?_
                refine r_iconst O (v := 0) dX8_count_92 (by decide) ?_
                obtain rfl := oi1 hf
                refine AW.sub [0] rfl ?_
                exact hJ
def f_X1_agrees_16 (l0 : Nat) (l1 : Nat) (l2 : Nat) (l3 : Nat) (n : Nat) (h : AH) (l4 : Int32) : Option ((Int32 × AH) ⊕ AH) := match n with
| 0 => none
| n + 1 =>
Option.bind (gI h 6 l3 1) fun x3 =>
if x3 ≤ l4 then
some (.inr h)
else
Option.bind (f_X6_get h l3 l4) fun x4 =>
Option.bind (f_X4_isFrozenCell h l1 x4) fun x6 =>
if x6 = 0 then
Option.bind (gP h 1 l0 2) fun x8 =>
Option.bind (gP h 1 l0 4) fun x9 =>
Option.bind (f_X7_work h x8 x4 l1 x9) fun w => match w with
| (x10, h11) =>
if x10 = 0 then
some (.inl (0, h11))
else
Option.bind (gP h11 1 l0 4) fun x12 =>
Option.bind (gP h11 1 l0 2) fun x13 =>
Option.bind (gJ h11 7 x13 5) fun x14 =>
Option.bind (stJ h11 x12 x4 x14) fun h15 =>
Option.bind (gP h15 1 l0 4) fun x16 =>
Option.bind (ldJ h15 x16 x4) fun x17 =>
Option.bind (ldJ h15 l2 x4) fun x18 =>
if (lg_cmp x17 x18) = 0 then
f_X1_agrees_16 l0 l1 l2 l3 n h15 (l4 + 1)
else
some (.inl (0, h15))
else
f_X1_agrees_16 l0 l1 l2 l3 n h (l4 + 1)
def f_X1_agrees (h : AH) (a0 : Nat) (a1 : Nat) (a2 : Nat) (a3 : Nat) : Option (Int32 × AH) :=
if aK h a0 = 1 then
Option.bind (gP h 1 a0 4) fun x1 =>
Option.bind (cpJ h a2 0 x1 0 258) fun h2 =>
Option.bind (f_X1_agrees_16 a0 a1 a2 a3 FU h2 0) fun w => match w with
| .inl r9 => some r9
| .inr h19 =>
some (1, h19)
else none
set_option maxRecDepth 100000 in
set_option maxHeartbeats 4000000 in
theorem s_X1_agrees_16 {p : Program} {l : Launch} {e : Env} {s : State} {m : MethodId} {args : Array Value} {below : List Frame} {meth : Method} {c : Code} {G : GT} {o : Except Nat (Option Value)} {h9 : AH} (O : OkC p l s m args meth c G cX1_agrees 6 RX1) (hr : meth.sig.returnType = (some .boolean)) {l0 : Nat} {l1 : Nat} {l2 : Nat} {l3 : Nat} {w : ((Int32 × AH) ⊕ AH)} (he : ∀ r, w = .inl r → o = (.ok (some (.int r.1))) ∧ h9 = r.2) (kk : ∀ (wh : AH), w = .inr wh → AW p l e { frames := 5, cells := 0, slots := 0, locals := 122 } s m args below meth c G 6 (vx_MQ below (QcN G o h9) (XcN G o h9) args s 0 0 (gA G)) wh 0 0 101 [] []) : ∀ (n : Nat), ∀ (h : AH) (l4 : Int32), f_X1_agrees_16 l0 l1 l2 l3 n h l4 = some w → AW p l e { frames := 5, cells := 0, slots := 0, locals := 122 } s m args below meth c G 6 (vx_MQ below (QcN G o h9) (XcN G o h9) args s 0 0 (gA G)) h 0 0 16 [(0, .ref l0), (1, .ref l1), (2, .ref l2), (3, .ref l3), (4, .int l4)] [] := by
  intro n
  induction n with
  | zero =>
    intro h l4 hf
    simp [f_X1_agrees_16] at hf
  | succ n ih =>
    intro h l4 hf
    unfold f_X1_agrees_16 at hf
    refine r_iload O 4 dX1_agrees_16 rfl ?_
    refine r_aload_n O 3 dX1_agrees_18 rfl (Or.inl rfl) ?_
    obtain ⟨x3, ex3, hf⟩ := bnd hf
    refine r_gI O cf6 1 (by decide) rfl fl_X1_83 ex3 dX1_agrees_19 ?_
    by_cases hc : x3 ≤ l4
    · rw [if_pos hc] at hf
      refine r_icmp_ge_t (tgt := 101) O dX1_agrees_22 (by decide) hc ?_
      obtain rfl := Option.some.inj hf
      refine AW.sub [] rfl ?_
      exact kk _ rfl
    · rw [if_neg hc] at hf
      refine r_icmp_ge_f (tgt := 101) O dX1_agrees_22 (by decide) hc ?_
      refine r_aload_n O 3 dX1_agrees_25 rfl (Or.inl rfl) ?_
      refine r_iload O 4 dX1_agrees_26 rfl ?_
      obtain ⟨x4, ex4, hf⟩ := bnd hf
      refine r_callV (av := [.int l4]) (st := []) O (c_X6_get ex4) mf_X6_get cf6 (kd_X6_get ex4) ml_X1_86 mi_X6_get mv_X6_get (by decide) (Nat.le_of_ble_eq_true rfl) (by decide) dX1_agrees_28 ?_
      refine r_istore O [(5, .int x4), (0, .ref l0), (1, .ref l1), (2, .ref l2), (3, .ref l3), (4, .int l4)] dX1_agrees_31 (by decide) rfl ?_
      refine r_aload_n O 2 dX1_agrees_33 rfl (Or.inl rfl) ?_
      refine r_iload O 0 dX1_agrees_34 rfl ?_
      obtain ⟨x6, ex6, hf⟩ := bnd hf
      refine r_callV (av := [.int x4]) (st := []) O (c_X4_isFrozenCell ex6) mf_X4_isFrozenCell cf4 (kd_X4_isFrozenCell ex6) ml_X1_90 mi_X4_isFrozenCell mv_X4_isFrozenCell (by decide) (Nat.le_of_ble_eq_true rfl) (by decide) dX1_agrees_36 ?_
      by_cases hc : x6 = 0
      · rw [if_pos hc] at hf
        refine r_if_eq_t (tgt := 45) O dX1_agrees_39 (by decide) hc ?_
        refine r_aload_n O 1 dX1_agrees_45 rfl (Or.inl rfl) ?_
        obtain ⟨x8, ex8, hf⟩ := bnd hf
        refine r_gP O cf1 2 (by decide) rfl fl_X1_60 ex8 dX1_agrees_46 ?_
        refine r_iload O 0 dX1_agrees_49 rfl ?_
        refine r_aload_n O 2 dX1_agrees_51 rfl (Or.inl rfl) ?_
        refine r_aload_n O 1 dX1_agrees_52 rfl (Or.inl rfl) ?_
        obtain ⟨x9, ex9, hf⟩ := bnd hf
        refine r_gP O cf1 4 (by decide) rfl fl_X1_18 ex9 dX1_agrees_53 ?_
        obtain ⟨⟨x10, h11⟩, ex10, hf⟩ := bnd hf
        dsimp only at hf
        refine r_callV (av := [.int x4, .ref l1, .ref x9]) (st := []) O (c_X7_work ex10) mf_X7_work cf7 (kd_X7_work ex10) ml_X1_99 mi_X7_work mv_X7_work (by decide) (Nat.le_of_ble_eq_true rfl) (by decide) dX1_agrees_56 ?_
        by_cases hc : x10 = 0
        · rw [if_pos hc] at hf
          refine r_if_ne_f (tgt := 64) O dX1_agrees_59 (by decide) hc ?_
          refine r_iconst O (v := 0) dX1_agrees_62 (by decide) ?_
          obtain rfl := Option.some.inj hf
          obtain ⟨ho, hh⟩ := he _ rfl
          exact r_zret O hr (by decide) ho hh.symm (by decide) (by decide) dX1_agrees_63
        · rw [if_neg hc] at hf
          refine r_if_ne_t (tgt := 64) O dX1_agrees_59 (by decide) hc ?_
          refine r_aload_n O 1 dX1_agrees_64 rfl (Or.inl rfl) ?_
          obtain ⟨x12, ex12, hf⟩ := bnd hf
          refine r_gP O cf1 4 (by decide) rfl fl_X1_18 ex12 dX1_agrees_65 ?_
          refine r_iload O 0 dX1_agrees_68 rfl ?_
          refine r_aload_n O 1 dX1_agrees_70 rfl (Or.inl rfl) ?_
          obtain ⟨x13, ex13, hf⟩ := bnd hf
          refine r_gP O cf1 2 (by decide) rfl fl_X1_60 ex13 dX1_agrees_71 ?_
          obtain ⟨x14, ex14, hf⟩ := bnd hf
          refine r_gJ O cf7 5 (by decide) rfl fl_X1_107 ex14 dX1_agrees_74 ?_
          obtain ⟨h15, eh15, hf⟩ := bnd hf
          refine r_stJ O eh15 dX1_agrees_77 ?_
          refine r_aload_n O 1 dX1_agrees_78 rfl (Or.inl rfl) ?_
          obtain ⟨x16, ex16, hf⟩ := bnd hf
          refine r_gP O cf1 4 (by decide) rfl fl_X1_18 ex16 dX1_agrees_79 ?_
          refine r_iload O 0 dX1_agrees_82 rfl ?_
          obtain ⟨x17, ex17, hf⟩ := bnd hf
          refine r_ldJ O ex17 dX1_agrees_84 ?_
          refine r_aload_n O 3 dX1_agrees_85 rfl (Or.inl rfl) ?_
          refine r_iload O 0 dX1_agrees_86 rfl ?_
          obtain ⟨x18, ex18, hf⟩ := bnd hf
          refine r_ldJ O ex18 dX1_agrees_88 ?_
          refine r_lcmp O dX1_agrees_89 ?_
          by_cases hc : (lg_cmp x17 x18) = 0
          · rw [if_pos hc] at hf
            refine r_if_eq_t (tgt := 95) O dX1_agrees_90 (by decide) hc ?_
            refine r_iinc O 5 [(4, .int (l4 + 1)), (5, .int x4), (0, .ref l0), (1, .ref l1), (2, .ref l2), (3, .ref l3)] dX1_agrees_95 rfl rfl (by decide) rfl ?_
            refine r_goto (tgt := 16) O dX1_agrees_98 (by decide) ?_
            refine AW.sub [2, 3, 4, 5, 0] rfl ?_
            exact ih _ _ hf
          · rw [if_neg hc] at hf
            refine r_if_eq_f (tgt := 95) O dX1_agrees_90 (by decide) hc ?_
            refine r_iconst O (v := 0) dX1_agrees_93 (by decide) ?_
            obtain rfl := Option.some.inj hf
            obtain ⟨ho, hh⟩ := he _ rfl
            exact r_zret O hr (by decide) ho hh.symm (by decide) (by decide) dX1_agrees_94
      · rw [if_neg hc] at hf
        refine r_if_eq_f (tgt := 45) O dX1_agrees_39 (by decide) hc ?_
        refine r_goto (tgt := 95) O dX1_agrees_42 (by decide) ?_
        refine r_iinc O 5 [(4, .int (l4 + 1)), (5, .int x4), (0, .ref l0), (1, .ref l1), (2, .ref l2), (3, .ref l3)] dX1_agrees_95 rfl rfl (by decide) rfl ?_
        refine r_goto (tgt := 16) O dX1_agrees_98 (by decide) ?_
        refine AW.sub [2, 3, 4, 5, 0] rfl ?_
        exact ih _ _ hf
theorem kd_X1_agrees {h : AH} {a0 : Nat} {a1 : Nat} {a2 : Nat} {a3 : Nat} {r : (Int32 × AH)} (hf : f_X1_agrees h a0 a1 a2 a3 = some r) : aK h a0 = 1 := by
  unfold f_X1_agrees at hf
  exact (ifk hf).1
set_option maxRecDepth 100000 in
set_option maxHeartbeats 4000000 in
theorem c_X1_agrees {l : Launch} {G : GT} {h : AH} {a0 : Nat} {a1 : Nat} {a2 : Nat} {a3 : Nat} {r : (Int32 × AH)} (hf : f_X1_agrees h a0 a1 a2 a3 = some r) : Cn l yX1_agrees cX1_agrees 6 (some .boolean) 5 122 0 0 G h [.ref a0, .ref a1, .ref a2, .ref a3] (.ok (some (.int r.1))) r.2 := by
  refine Cn.of (by decide) (Nat.le_of_ble_eq_true rfl) ?_
  intro p e s m args below meth c O hr hx hin
  have O : OkC p l s m args meth c G cX1_agrees 6 RX1 := O
  unfold f_X1_agrees at hf
  obtain ⟨hk0, hf⟩ := ifk hf
  refine AW.sub (lv' := [(0, .ref a0), (1, .ref a1), (2, .ref a2), (3, .ref a3)]) [0, 1, 2, 3] rfl ?_
  refine r_aload_n O 2 dX1_agrees_0 rfl (Or.inl rfl) ?_
  refine r_iconst O (v := 0) dX1_agrees_1 (by decide) ?_
  refine r_aload_n O 0 dX1_agrees_2 rfl (Or.inl rfl) ?_
  obtain ⟨x1, ex1, hf⟩ := bnd hf
  refine r_gP O cf1 4 (by decide) rfl fl_X1_18 ex1 dX1_agrees_3 ?_
  refine r_iconst O (v := 0) dX1_agrees_6 (by decide) ?_
  refine r_sipush O (v := 258) dX1_agrees_7 (by decide) ?_
  obtain ⟨h2, eh2, hf⟩ := bnd hf
  refine r_cpJ O eh2 ml_X1_200 (by decide) (Nat.le_of_ble_eq_true rfl) dX1_agrees_10 ?_
  refine r_iconst O (v := 0) dX1_agrees_13 (by decide) ?_
  refine r_istore O [(4, .int 0), (0, .ref a0), (1, .ref a1), (2, .ref a2), (3, .ref a3)] dX1_agrees_14 (by decide) rfl ?_
  obtain ⟨w9, hw, hf⟩ := bnd hf
  refine AW.sub [1, 2, 3, 4, 0] rfl ?_
  refine s_X1_agrees_16 O hr (w := w9) ?_ ?_ _ _ _ hw
  · intro r9 hr9
    subst hr9
    dsimp only at hf
    obtain rfl := Option.some.inj hf
    exact ⟨rfl, rfl⟩
  · intro h19 hw9
    subst hw9
    dsimp only at hf
    refine r_iconst O (v := 1) dX1_agrees_101 (by decide) ?_
    obtain rfl := Option.some.inj hf
    exact r_zret O hr (by decide) rfl rfl (by decide) (by decide) dX1_agrees_102
