def f_X9_shadow (h : AH) (a0 : Nat) (a1 : Int32) (a2 : Int32) : Option (Int64 × AH) :=
if aK h a0 = 9 then
Option.bind (pI h 9 a0 0 0) fun h1 =>
Option.bind (f_X9_isThing h1 a0 a1) fun x2 =>
if x2 = 0 then
Option.bind (f_X9_fail h1 a0 1) fun w => match w with
| (x14, h15) =>
some (x14.toInt64, h15)
else
if a2 < 0 then
Option.bind (f_X9_fail h1 a0 2) fun w => match w with
| (x4, h5) =>
some (x4.toInt64, h5)
else
if a2 ≤ 5 then
Option.bind (gP h1 9 a0 11) fun x6 =>
Option.bind (f_X9_isCell h1 a0 x6 ((6 * a1) + a2)) fun x7 =>
Option.bind (if x7 = 0 then
some (0 : Int64)
else
Option.bind (gP h1 9 a0 13) fun x10 =>
Option.bind (ldJ h1 x10 ((6 * a1) + a2)) fun x11 =>
some x11) fun x9 =>
some (x9, h1)
else
Option.bind (f_X9_fail h1 a0 2) fun w => match w with
| (x12, h13) =>
some (x12.toInt64, h13)
else none
theorem kd_X9_shadow {h : AH} {a0 : Nat} {a1 : Int32} {a2 : Int32} {r : (Int64 × AH)} (hf : f_X9_shadow h a0 a1 a2 = some r) : aK h a0 = 9 := by
  unfold f_X9_shadow at hf
  exact (ifk hf).1
set_option maxRecDepth 100000 in
set_option maxHeartbeats 4000000 in
theorem c_X9_shadow {l : Launch} {G : GT} {h : AH} {a0 : Nat} {a1 : Int32} {a2 : Int32} {r : (Int64 × AH)} (hf : f_X9_shadow h a0 a1 a2 = some r) : Cn l yX9_shadow cX9_shadow 3 (some .long) 2 42 0 0 G h [.ref a0, .int a1, .int a2] (.ok (some (.long r.1))) r.2 := by
  refine Cn.of (by decide) (Nat.le_of_ble_eq_true rfl) ?_
  intro p e s m args below meth c O hr hx hin
  have O : OkC p l s m args meth c G cX9_shadow 3 RX9 := O
  unfold f_X9_shadow at hf
  obtain ⟨hk0, hf⟩ := ifk hf
  refine AW.sub (lv' := [(0, .ref a0), (1, .int a1), (2, .int a2)]) [0, 1, 2] rfl ?_
  refine r_aload_n O 0 dX9_shadow_0 rfl (Or.inl rfl) ?_
  refine r_iconst O (v := 0) dX9_shadow_1 (by decide) ?_
  obtain ⟨h1, eh1, hf⟩ := bnd hf
  refine r_pI O cf9 0 (by decide) rfl fl_X9_1 rfl eh1 dX9_shadow_2 ?_
  refine r_aload_n O 0 dX9_shadow_5 rfl (Or.inl rfl) ?_
  refine r_iload_n O 1 dX9_shadow_6 rfl ?_
  obtain ⟨x2, ex2, hf⟩ := bnd hf
  refine r_callV (av := [.int a1]) (st := []) O (c_X9_isThing ex2) mf_X9_isThing cf9 (kd_X9_isThing ex2) ml_X9_253 mi_X9_isThing mv_X9_isThing (by decide) (Nat.le_of_ble_eq_true rfl) (by decide) dX9_shadow_7 ?_
  by_cases hc : x2 = 0
  · rw [if_pos hc] at hf
    refine r_if_ne_f (tgt := 20) O dX9_shadow_10 (by decide) hc ?_
    refine r_aload_n O 0 dX9_shadow_13 rfl (Or.inl rfl) ?_
    refine r_iconst O (v := 1) dX9_shadow_14 (by decide) ?_
    obtain ⟨⟨x14, h15⟩, ex14, hf⟩ := bnd hf
    dsimp only at hf
    refine r_callV (av := [.int 1]) (st := []) O (c_X9_fail ex14) mf_X9_fail cf9 (kd_X9_fail ex14) ml_X9_106 mi_X9_fail mv_X9_fail (by decide) (Nat.le_of_ble_eq_true rfl) (by decide) dX9_shadow_15 ?_
    refine r_i2l O dX9_shadow_18 ?_
    obtain rfl := Option.some.inj hf
    exact r_lret O hr rfl rfl (by decide) (by decide) dX9_shadow_19
  · rw [if_neg hc] at hf
    refine r_if_ne_t (tgt := 20) O dX9_shadow_10 (by decide) hc ?_
    refine r_iload_n O 2 dX9_shadow_20 rfl ?_
    by_cases hc : a2 < 0
    · rw [if_pos hc] at hf
      refine r_if_lt_t (tgt := 29) O dX9_shadow_21 (by decide) hc ?_
      refine r_aload_n O 0 dX9_shadow_29 rfl (Or.inl rfl) ?_
      refine r_iconst O (v := 2) dX9_shadow_30 (by decide) ?_
      obtain ⟨⟨x4, h5⟩, ex4, hf⟩ := bnd hf
      dsimp only at hf
      refine r_callV (av := [.int 2]) (st := []) O (c_X9_fail ex4) mf_X9_fail cf9 (kd_X9_fail ex4) ml_X9_106 mi_X9_fail mv_X9_fail (by decide) (Nat.le_of_ble_eq_true rfl) (by decide) dX9_shadow_31 ?_
      refine r_i2l O dX9_shadow_34 ?_
      obtain rfl := Option.some.inj hf
      exact r_lret O hr rfl rfl (by decide) (by decide) dX9_shadow_35
    · rw [if_neg hc] at hf
      refine r_if_lt_f (tgt := 29) O dX9_shadow_21 (by decide) hc ?_
      refine r_iload_n O 2 dX9_shadow_24 rfl ?_
      refine r_iconst O (v := 5) dX9_shadow_25 (by decide) ?_
      by_cases hc : a2 ≤ 5
      · rw [if_pos hc] at hf
        refine r_icmp_le_t (tgt := 36) O dX9_shadow_26 (by decide) hc ?_
        refine r_aload_n O 0 dX9_shadow_36 rfl (Or.inl rfl) ?_
        refine r_aload_n O 0 dX9_shadow_37 rfl (Or.inl rfl) ?_
        obtain ⟨x6, ex6, hf⟩ := bnd hf
        refine r_gP O cf9 11 (by decide) rfl fl_X9_36 ex6 dX9_shadow_38 ?_
        refine r_bipush O (v := 6) dX9_shadow_41 (by decide) ?_
        refine r_iload_n O 1 dX9_shadow_43 rfl ?_
        refine r_imul O dX9_shadow_44 ?_
        refine r_iload_n O 2 dX9_shadow_45 rfl ?_
        refine r_iadd O dX9_shadow_46 ?_
        obtain ⟨x7, ex7, hf⟩ := bnd hf
        refine r_callV (av := [.ref x6, .int ((6 * a1) + a2)]) (st := []) O (c_X9_isCell ex7) mf_X9_isCell cf9 (kd_X9_isCell ex7) ml_X9_162 mi_X9_isCell mv_X9_isCell (by decide) (Nat.le_of_ble_eq_true rfl) (by decide) dX9_shadow_47 ?_
        obtain ⟨x9, hg, hf⟩ := bnd hf
        have hJ : AW p l e { frames := 2, cells := 0, slots := 0, locals := 42 } s m args below meth c G 3 (vx_MQ below (QcN G (.ok (some (.long r.1))) r.2) (XcN G (.ok (some (.long r.1))) r.2) args s 0 0 (gA G)) h1 0 0 68 [] [.long x9] := by
          obtain rfl := Option.some.inj hf
          exact r_lret O hr rfl rfl (by decide) (by decide) dX9_shadow_68
        clear hf
        have hf := hg
        clear hg
        by_cases hc : x7 = 0
        · rw [if_pos hc] at hf
          refine r_if_eq_t (tgt := 67) O dX9_shadow_50 (by decide) hc ?_
          refine r_lconst O (v := 0) dX9_shadow_67 (by decide) ?_
          obtain rfl := oi1 hf
          refine AW.sub [] rfl ?_
          exact hJ
        · rw [if_neg hc] at hf
          refine r_if_eq_f (tgt := 67) O dX9_shadow_50 (by decide) hc ?_
          refine r_aload_n O 0 dX9_shadow_53 rfl (Or.inl rfl) ?_
          obtain ⟨x10, ex10, hf⟩ := bnd hf
          refine r_gP O cf9 13 (by decide) rfl fl_X9_42 ex10 dX9_shadow_54 ?_
          refine r_bipush O (v := 6) dX9_shadow_57 (by decide) ?_
          refine r_iload_n O 1 dX9_shadow_59 rfl ?_
          refine r_imul O dX9_shadow_60 ?_
          refine r_iload_n O 2 dX9_shadow_61 rfl ?_
          refine r_iadd O dX9_shadow_62 ?_
          obtain ⟨x11, ex11, hf⟩ := bnd hf
          refine r_ldJ O ex11 dX9_shadow_63 ?_
          refine r_goto (tgt := 68) O dX9_shadow_64 (by decide) ?_
          obtain rfl := oi1 hf
          refine AW.sub [] rfl ?_
          exact hJ
      · rw [if_neg hc] at hf
        refine r_icmp_le_f (tgt := 36) O dX9_shadow_26 (by decide) hc ?_
        refine r_aload_n O 0 dX9_shadow_29 rfl (Or.inl rfl) ?_
        refine r_iconst O (v := 2) dX9_shadow_30 (by decide) ?_
        obtain ⟨⟨x12, h13⟩, ex12, hf⟩ := bnd hf
        dsimp only at hf
        refine r_callV (av := [.int 2]) (st := []) O (c_X9_fail ex12) mf_X9_fail cf9 (kd_X9_fail ex12) ml_X9_106 mi_X9_fail mv_X9_fail (by decide) (Nat.le_of_ble_eq_true rfl) (by decide) dX9_shadow_31 ?_
        refine r_i2l O dX9_shadow_34 ?_
        obtain rfl := Option.some.inj hf
        exact r_lret O hr rfl rfl (by decide) (by decide) dX9_shadow_35
def f_X9_listShadow (h : AH) (a0 : Nat) (a1 : Int32) (a2 : Int32) : Option (Int64 × AH) :=
if aK h a0 = 9 then
Option.bind (pI h 9 a0 0 0) fun h1 =>
Option.bind (f_X9_isList h1 a0 a1) fun x2 =>
if x2 = 0 then
Option.bind (f_X9_fail h1 a0 1) fun w => match w with
| (x16, h17) =>
some (x16.toInt64, h17)
else
if a2 < 6 then
Option.bind (f_X9_fail h1 a0 2) fun w => match w with
| (x4, h5) =>
some (x4.toInt64, h5)
else
if a2 ≤ 8 then
Option.bind (some (((240 + (3 * a1)) + a2) - 6)) fun x6 =>
Option.bind (gI h1 9 a0 1) fun x7 =>
Option.bind (if x7 = 0 then
Option.bind (gP h1 9 a0 11) fun x9 =>
Option.bind (f_X9_isCell h1 a0 x9 x6) fun x10 =>
if x10 = 0 then
some (0 : Int64)
else
Option.bind (gP h1 9 a0 13) fun x12 =>
Option.bind (ldJ h1 x12 x6) fun x13 =>
some x13
else
some (0 : Int64)) fun x8 =>
some (x8, h1)
else
Option.bind (f_X9_fail h1 a0 2) fun w => match w with
| (x14, h15) =>
some (x14.toInt64, h15)
else none
theorem kd_X9_listShadow {h : AH} {a0 : Nat} {a1 : Int32} {a2 : Int32} {r : (Int64 × AH)} (hf : f_X9_listShadow h a0 a1 a2 = some r) : aK h a0 = 9 := by
  unfold f_X9_listShadow at hf
  exact (ifk hf).1
set_option maxRecDepth 100000 in
set_option maxHeartbeats 4000000 in
theorem c_X9_listShadow {l : Launch} {G : GT} {h : AH} {a0 : Nat} {a1 : Int32} {a2 : Int32} {r : (Int64 × AH)} (hf : f_X9_listShadow h a0 a1 a2 = some r) : Cn l yX9_listShadow cX9_listShadow 4 (some .long) 2 42 0 0 G h [.ref a0, .int a1, .int a2] (.ok (some (.long r.1))) r.2 := by
  refine Cn.of (by decide) (Nat.le_of_ble_eq_true rfl) ?_
  intro p e s m args below meth c O hr hx hin
  have O : OkC p l s m args meth c G cX9_listShadow 4 RX9 := O
  unfold f_X9_listShadow at hf
  obtain ⟨hk0, hf⟩ := ifk hf
  refine AW.sub (lv' := [(0, .ref a0), (1, .int a1), (2, .int a2)]) [0, 1, 2] rfl ?_
  refine r_aload_n O 0 dX9_listShadow_0 rfl (Or.inl rfl) ?_
  refine r_iconst O (v := 0) dX9_listShadow_1 (by decide) ?_
  obtain ⟨h1, eh1, hf⟩ := bnd hf
  refine r_pI O cf9 0 (by decide) rfl fl_X9_1 rfl eh1 dX9_listShadow_2 ?_
  refine r_aload_n O 0 dX9_listShadow_5 rfl (Or.inl rfl) ?_
  refine r_iload_n O 1 dX9_listShadow_6 rfl ?_
  obtain ⟨x2, ex2, hf⟩ := bnd hf
  refine r_callV (av := [.int a1]) (st := []) O (c_X9_isList ex2) mf_X9_isList cf9 (kd_X9_isList ex2) ml_X9_257 mi_X9_isList mv_X9_isList (by decide) (Nat.le_of_ble_eq_true rfl) (by decide) dX9_listShadow_7 ?_
  by_cases hc : x2 = 0
  · rw [if_pos hc] at hf
    refine r_if_ne_f (tgt := 20) O dX9_listShadow_10 (by decide) hc ?_
    refine r_aload_n O 0 dX9_listShadow_13 rfl (Or.inl rfl) ?_
    refine r_iconst O (v := 1) dX9_listShadow_14 (by decide) ?_
    obtain ⟨⟨x16, h17⟩, ex16, hf⟩ := bnd hf
    dsimp only at hf
    refine r_callV (av := [.int 1]) (st := []) O (c_X9_fail ex16) mf_X9_fail cf9 (kd_X9_fail ex16) ml_X9_106 mi_X9_fail mv_X9_fail (by decide) (Nat.le_of_ble_eq_true rfl) (by decide) dX9_listShadow_15 ?_
    refine r_i2l O dX9_listShadow_18 ?_
    obtain rfl := Option.some.inj hf
    exact r_lret O hr rfl rfl (by decide) (by decide) dX9_listShadow_19
  · rw [if_neg hc] at hf
    refine r_if_ne_t (tgt := 20) O dX9_listShadow_10 (by decide) hc ?_
    refine r_iload_n O 2 dX9_listShadow_20 rfl ?_
    refine r_bipush O (v := 6) dX9_listShadow_21 (by decide) ?_
    by_cases hc : a2 < 6
    · rw [if_pos hc] at hf
      refine r_icmp_lt_t (tgt := 32) O dX9_listShadow_23 (by decide) hc ?_
      refine r_aload_n O 0 dX9_listShadow_32 rfl (Or.inl rfl) ?_
      refine r_iconst O (v := 2) dX9_listShadow_33 (by decide) ?_
      obtain ⟨⟨x4, h5⟩, ex4, hf⟩ := bnd hf
      dsimp only at hf
      refine r_callV (av := [.int 2]) (st := []) O (c_X9_fail ex4) mf_X9_fail cf9 (kd_X9_fail ex4) ml_X9_106 mi_X9_fail mv_X9_fail (by decide) (Nat.le_of_ble_eq_true rfl) (by decide) dX9_listShadow_34 ?_
      refine r_i2l O dX9_listShadow_37 ?_
      obtain rfl := Option.some.inj hf
      exact r_lret O hr rfl rfl (by decide) (by decide) dX9_listShadow_38
    · rw [if_neg hc] at hf
      refine r_icmp_lt_f (tgt := 32) O dX9_listShadow_23 (by decide) hc ?_
      refine r_iload_n O 2 dX9_listShadow_26 rfl ?_
      refine r_bipush O (v := 8) dX9_listShadow_27 (by decide) ?_
      by_cases hc : a2 ≤ 8
      · rw [if_pos hc] at hf
        refine r_icmp_le_t (tgt := 39) O dX9_listShadow_29 (by decide) hc ?_
        refine r_sipush O (v := 240) dX9_listShadow_39 (by decide) ?_
        refine r_iconst O (v := 3) dX9_listShadow_42 (by decide) ?_
        refine r_iload_n O 1 dX9_listShadow_43 rfl ?_
        refine r_imul O dX9_listShadow_44 ?_
        refine r_iadd O dX9_listShadow_45 ?_
        refine r_iload_n O 2 dX9_listShadow_46 rfl ?_
        refine r_iadd O dX9_listShadow_47 ?_
        refine r_bipush O (v := 6) dX9_listShadow_48 (by decide) ?_
        refine r_isub O dX9_listShadow_50 ?_
        obtain ⟨x6, ex6, hf⟩ := bnd hf
        refine r_nmI (Option.some.inj ex6) ?_
        refine r_istore_n O [(3, .int x6), (0, .ref a0), (1, .int a1), (2, .int a2)] dX9_listShadow_51 (by decide) rfl ?_
        refine r_aload_n O 1 dX9_listShadow_52 rfl (Or.inl rfl) ?_
        obtain ⟨x7, ex7, hf⟩ := bnd hf
        refine r_gI O cf9 1 (by decide) rfl fl_X9_13 ex7 dX9_listShadow_53 ?_
        obtain ⟨x8, hg, hf⟩ := bnd hf
        have hJ : AW p l e { frames := 2, cells := 0, slots := 0, locals := 42 } s m args below meth c G 4 (vx_MQ below (QcN G (.ok (some (.long r.1))) r.2) (XcN G (.ok (some (.long r.1))) r.2) args s 0 0 (gA G)) h1 0 0 81 [] [.long x8] := by
          obtain rfl := Option.some.inj hf
          exact r_lret O hr rfl rfl (by decide) (by decide) dX9_listShadow_81
        clear hf
        have hf := hg
        clear hg
        by_cases hc : x7 = 0
        · rw [if_pos hc] at hf
          refine r_if_ne_f (tgt := 80) O dX9_listShadow_56 (by decide) hc ?_
          refine r_aload_n O 1 dX9_listShadow_59 rfl (Or.inl rfl) ?_
          refine r_aload_n O 1 dX9_listShadow_60 rfl (Or.inl rfl) ?_
          obtain ⟨x9, ex9, hf⟩ := bnd hf
          refine r_gP O cf9 11 (by decide) rfl fl_X9_36 ex9 dX9_listShadow_61 ?_
          refine r_iload_n O 0 dX9_listShadow_64 rfl ?_
          obtain ⟨x10, ex10, hf⟩ := bnd hf
          refine r_callV (av := [.ref x9, .int x6]) (st := []) O (c_X9_isCell ex10) mf_X9_isCell cf9 (kd_X9_isCell ex10) ml_X9_162 mi_X9_isCell mv_X9_isCell (by decide) (Nat.le_of_ble_eq_true rfl) (by decide) dX9_listShadow_65 ?_
          by_cases hc : x10 = 0
          · rw [if_pos hc] at hf
            refine r_if_eq_t (tgt := 80) O dX9_listShadow_68 (by decide) hc ?_
            refine r_lconst O (v := 0) dX9_listShadow_80 (by decide) ?_
            obtain rfl := oi1 hf
            refine AW.sub [] rfl ?_
            exact hJ
          · rw [if_neg hc] at hf
            refine r_if_eq_f (tgt := 80) O dX9_listShadow_68 (by decide) hc ?_
            refine r_aload_n O 1 dX9_listShadow_71 rfl (Or.inl rfl) ?_
            obtain ⟨x12, ex12, hf⟩ := bnd hf
            refine r_gP O cf9 13 (by decide) rfl fl_X9_42 ex12 dX9_listShadow_72 ?_
            refine r_iload_n O 0 dX9_listShadow_75 rfl ?_
            obtain ⟨x13, ex13, hf⟩ := bnd hf
            refine r_ldJ O ex13 dX9_listShadow_76 ?_
            refine r_goto (tgt := 81) O dX9_listShadow_77 (by decide) ?_
            obtain rfl := oi1 hf
            refine AW.sub [] rfl ?_
            exact hJ
        · rw [if_neg hc] at hf
          refine r_if_ne_t (tgt := 80) O dX9_listShadow_56 (by decide) hc ?_
          refine r_lconst O (v := 0) dX9_listShadow_80 (by decide) ?_
          obtain rfl := oi1 hf
          refine AW.sub [] rfl ?_
          exact hJ
      · rw [if_neg hc] at hf
        refine r_icmp_le_f (tgt := 39) O dX9_listShadow_29 (by decide) hc ?_
        refine r_aload_n O 0 dX9_listShadow_32 rfl (Or.inl rfl) ?_
        refine r_iconst O (v := 2) dX9_listShadow_33 (by decide) ?_
        obtain ⟨⟨x14, h15⟩, ex14, hf⟩ := bnd hf
        dsimp only at hf
        refine r_callV (av := [.int 2]) (st := []) O (c_X9_fail ex14) mf_X9_fail cf9 (kd_X9_fail ex14) ml_X9_106 mi_X9_fail mv_X9_fail (by decide) (Nat.le_of_ble_eq_true rfl) (by decide) dX9_listShadow_34 ?_
        refine r_i2l O dX9_listShadow_37 ?_
        obtain rfl := Option.some.inj hf
        exact r_lret O hr rfl rfl (by decide) (by decide) dX9_listShadow_38
def f_X9_where (h : AH) (a0 : Nat) (a1 : Int32) (a2 : Int32) : Option (Int32 × AH) :=
if aK h a0 = 9 then
Option.bind (pI h 9 a0 0 0) fun h1 =>
Option.bind (f_X9_isThing h1 a0 a1) fun x2 =>
if x2 = 0 then
Option.bind (f_X9_fail h1 a0 1) fun w => match w with
| (x33, h34) =>
some (x33, h34)
else
if a2 < 0 then
Option.bind (f_X9_fail h1 a0 2) fun w => match w with
| (x4, h5) =>
some (x4, h5)
else
if a2 ≤ 9 then
Option.bind (gP h1 9 a0 10) fun x6 =>
Option.bind (ldI h1 x6 (212 + a1)) fun x7 =>
Option.bind (if x7 = (-1) then
some (0 : Int32)
else
some (1 : Int32)) fun x8 =>
if a2 = 0 then
Option.bind (gP h1 9 a0 10) fun x9 =>
Option.bind (ldI h1 x9 (212 + a1)) fun x10 =>
some (x10, h1)
else
if a2 = 1 then
Option.bind (if x8 = 0 then
some ((-1) : Int32)
else
Option.bind (gP h1 9 a0 10) fun x12 =>
Option.bind (f_X9_placeOf h1 x12 a1) fun x13 =>
some x13) fun x11 =>
some (x11, h1)
else
if a2 = 2 then
Option.bind (if x8 = 0 then
some ((-1) : Int32)
else
Option.bind (gP h1 9 a0 10) fun x16 =>
Option.bind (f_X9_neighbour h1 x16 a1 (-1)) fun x17 =>
some x17) fun x15 =>
some (x15, h1)
else
if a2 = 3 then
Option.bind (if x8 = 0 then
some ((-1) : Int32)
else
Option.bind (gP h1 9 a0 10) fun x20 =>
Option.bind (f_X9_neighbour h1 x20 a1 1) fun x21 =>
some x21) fun x19 =>
some (x19, h1)
else
if a2 = 4 then
Option.bind (gP h1 9 a0 10) fun x23 =>
Option.bind (ldI h1 x23 (172 + a1)) fun x24 =>
some (x24, h1)
else
if a2 = 5 then
Option.bind (gP h1 9 a0 10) fun x25 =>
Option.bind (f_X9_isFrozenThing h1 x25 a1) fun x26 =>
Option.bind (if x26 = 0 then
some (0 : Int32)
else
some (1 : Int32)) fun x28 =>
some (x28, h1)
else
Option.bind (gP h1 9 a0 10) fun x29 =>
Option.bind (ldI h1 x29 (((0 + (4 * a1)) + a2) - 6)) fun x30 =>
some (x30, h1)
else
Option.bind (f_X9_fail h1 a0 2) fun w => match w with
| (x31, h32) =>
some (x31, h32)
else none
theorem kd_X9_where {h : AH} {a0 : Nat} {a1 : Int32} {a2 : Int32} {r : (Int32 × AH)} (hf : f_X9_where h a0 a1 a2 = some r) : aK h a0 = 9 := by
  unfold f_X9_where at hf
  exact (ifk hf).1
set_option maxRecDepth 100000 in
set_option maxHeartbeats 4000000 in
theorem c_X9_where {l : Launch} {G : GT} {h : AH} {a0 : Nat} {a1 : Int32} {a2 : Int32} {r : (Int32 × AH)} (hf : f_X9_where h a0 a1 a2 = some r) : Cn l yX9_where cX9_where 4 (some .int) 2 47 0 0 G h [.ref a0, .int a1, .int a2] (.ok (some (.int r.1))) r.2 := by
  refine Cn.of (by decide) (Nat.le_of_ble_eq_true rfl) ?_
  intro p e s m args below meth c O hr hx hin
  have O : OkC p l s m args meth c G cX9_where 4 RX9 := O
  unfold f_X9_where at hf
  obtain ⟨hk0, hf⟩ := ifk hf
  refine AW.sub (lv' := [(0, .ref a0), (1, .int a1), (2, .int a2)]) [0, 1, 2] rfl ?_
  refine r_aload_n O 0 dX9_where_0 rfl (Or.inl rfl) ?_
  refine r_iconst O (v := 0) dX9_where_1 (by decide) ?_
  obtain ⟨h1, eh1, hf⟩ := bnd hf
  refine r_pI O cf9 0 (by decide) rfl fl_X9_1 rfl eh1 dX9_where_2 ?_
  refine r_aload_n O 0 dX9_where_5 rfl (Or.inl rfl) ?_
  refine r_iload_n O 1 dX9_where_6 rfl ?_
  obtain ⟨x2, ex2, hf⟩ := bnd hf
  refine r_callV (av := [.int a1]) (st := []) O (c_X9_isThing ex2) mf_X9_isThing cf9 (kd_X9_isThing ex2) ml_X9_253 mi_X9_isThing mv_X9_isThing (by decide) (Nat.le_of_ble_eq_true rfl) (by decide) dX9_where_7 ?_
  by_cases hc : x2 = 0
  · rw [if_pos hc] at hf
    refine r_if_ne_f (tgt := 19) O dX9_where_10 (by decide) hc ?_
    refine r_aload_n O 0 dX9_where_13 rfl (Or.inl rfl) ?_
    refine r_iconst O (v := 1) dX9_where_14 (by decide) ?_
    obtain ⟨⟨x33, h34⟩, ex33, hf⟩ := bnd hf
    dsimp only at hf
    refine r_callV (av := [.int 1]) (st := []) O (c_X9_fail ex33) mf_X9_fail cf9 (kd_X9_fail ex33) ml_X9_106 mi_X9_fail mv_X9_fail (by decide) (Nat.le_of_ble_eq_true rfl) (by decide) dX9_where_15 ?_
    obtain rfl := Option.some.inj hf
    exact r_iret O hr rfl rfl (by decide) (by decide) dX9_where_18
  · rw [if_neg hc] at hf
    refine r_if_ne_t (tgt := 19) O dX9_where_10 (by decide) hc ?_
    refine r_iload_n O 2 dX9_where_19 rfl ?_
    by_cases hc : a2 < 0
    · rw [if_pos hc] at hf
      refine r_if_lt_t (tgt := 29) O dX9_where_20 (by decide) hc ?_
      refine r_aload_n O 0 dX9_where_29 rfl (Or.inl rfl) ?_
      refine r_iconst O (v := 2) dX9_where_30 (by decide) ?_
      obtain ⟨⟨x4, h5⟩, ex4, hf⟩ := bnd hf
      dsimp only at hf
      refine r_callV (av := [.int 2]) (st := []) O (c_X9_fail ex4) mf_X9_fail cf9 (kd_X9_fail ex4) ml_X9_106 mi_X9_fail mv_X9_fail (by decide) (Nat.le_of_ble_eq_true rfl) (by decide) dX9_where_31 ?_
      obtain rfl := Option.some.inj hf
      exact r_iret O hr rfl rfl (by decide) (by decide) dX9_where_34
    · rw [if_neg hc] at hf
      refine r_if_lt_f (tgt := 29) O dX9_where_20 (by decide) hc ?_
      refine r_iload_n O 2 dX9_where_23 rfl ?_
      refine r_bipush O (v := 9) dX9_where_24 (by decide) ?_
      by_cases hc : a2 ≤ 9
      · rw [if_pos hc] at hf
        refine r_icmp_le_t (tgt := 35) O dX9_where_26 (by decide) hc ?_
        refine r_aload_n O 0 dX9_where_35 rfl (Or.inl rfl) ?_
        obtain ⟨x6, ex6, hf⟩ := bnd hf
        refine r_gP O cf9 10 (by decide) rfl fl_X9_33 ex6 dX9_where_36 ?_
        refine r_sipush O (v := 212) dX9_where_39 (by decide) ?_
        refine r_iload_n O 1 dX9_where_42 rfl ?_
        refine r_iadd O dX9_where_43 ?_
        obtain ⟨x7, ex7, hf⟩ := bnd hf
        refine r_ldI O ex7 dX9_where_44 ?_
        refine r_iconst O (v := -1) dX9_where_45 (by decide) ?_
        obtain ⟨x8, hg, hf⟩ := bnd hf
        have hJ : AW p l e { frames := 2, cells := 0, slots := 0, locals := 47 } s m args below meth c G 4 (vx_MQ below (QcN G (.ok (some (.int r.1))) r.2) (XcN G (.ok (some (.int r.1))) r.2) args s 0 0 (gA G)) h1 0 0 54 [(0, .ref a0), (1, .int a1), (2, .int a2)] [.int x8] := by
          refine r_istore_n O [(3, .int x8), (0, .ref a0), (1, .int a1), (2, .int a2)] dX9_where_54 (by decide) rfl ?_
          refine r_iload_n O 3 dX9_where_55 rfl ?_
          by_cases hc : a2 = 0
          · rw [if_pos hc] at hf
            refine r_table_in (off := 40) (tgt := 96) O dX9_where_56 (by (rw [hc]; decide)) (by (rw [hc]; decide)) (by (rw [hc]; rfl)) (by decide) ?_
            refine r_aload_n O 1 dX9_where_96 rfl (Or.inl rfl) ?_
            obtain ⟨x9, ex9, hf⟩ := bnd hf
            refine r_gP O cf9 10 (by decide) rfl fl_X9_33 ex9 dX9_where_97 ?_
            refine r_sipush O (v := 212) dX9_where_100 (by decide) ?_
            refine r_iload_n O 2 dX9_where_103 rfl ?_
            refine r_iadd O dX9_where_104 ?_
            obtain ⟨x10, ex10, hf⟩ := bnd hf
            refine r_ldI O ex10 dX9_where_105 ?_
            obtain rfl := Option.some.inj hf
            exact r_iret O hr rfl rfl (by decide) (by decide) dX9_where_106
          · rw [if_neg hc] at hf
            have hn96 := hc
            by_cases hc : a2 = 1
            · rw [if_pos hc] at hf
              refine r_table_in (off := 51) (tgt := 107) O dX9_where_56 (by (rw [hc]; decide)) (by (rw [hc]; decide)) (by (rw [hc]; rfl)) (by decide) ?_
              refine r_iload_n O 0 dX9_where_107 rfl ?_
              obtain ⟨x11, hg, hf⟩ := bnd hf
              have hJ : AW p l e { frames := 2, cells := 0, slots := 0, locals := 47 } s m args below meth c G 4 (vx_MQ below (QcN G (.ok (some (.int r.1))) r.2) (XcN G (.ok (some (.int r.1))) r.2) args s 0 0 (gA G)) h1 0 0 123 [] [.int x11] := by
                obtain rfl := Option.some.inj hf
                exact r_iret O hr rfl rfl (by decide) (by decide) dX9_where_123
              clear hf
              have hf := hg
              clear hg
              by_cases hc : x8 = 0
              · rw [if_pos hc] at hf
                refine r_if_eq_t (tgt := 122) O dX9_where_108 (by decide) hc ?_
                refine r_iconst O (v := -1) dX9_where_122 (by decide) ?_
                obtain rfl := oi1 hf
                refine AW.sub [] rfl ?_
                exact hJ
              · rw [if_neg hc] at hf
                refine r_if_eq_f (tgt := 122) O dX9_where_108 (by decide) hc ?_
                refine r_aload_n O 1 dX9_where_111 rfl (Or.inl rfl) ?_
                obtain ⟨x12, ex12, hf⟩ := bnd hf
                refine r_gP O cf9 10 (by decide) rfl fl_X9_33 ex12 dX9_where_112 ?_
                refine r_iload_n O 2 dX9_where_115 rfl ?_
                obtain ⟨x13, ex13, hf⟩ := bnd hf
                refine r_callS (av := [.ref x12, .int a1]) (st := []) O (c_X9_placeOf ex13) mf_X9_placeOf ml_X9_133 ms_X9_placeOf (by decide) (Nat.le_of_ble_eq_true rfl) (by decide) dX9_where_116 ?_
                refine r_goto (tgt := 123) O dX9_where_119 (by decide) ?_
                obtain rfl := oi1 hf
                refine AW.sub [] rfl ?_
                exact hJ
            · rw [if_neg hc] at hf
              have hn107 := hc
              by_cases hc : a2 = 2
              · rw [if_pos hc] at hf
                refine r_table_in (off := 68) (tgt := 124) O dX9_where_56 (by (rw [hc]; decide)) (by (rw [hc]; decide)) (by (rw [hc]; rfl)) (by decide) ?_
                refine r_iload_n O 0 dX9_where_124 rfl ?_
                obtain ⟨x15, hg, hf⟩ := bnd hf
                have hJ : AW p l e { frames := 2, cells := 0, slots := 0, locals := 47 } s m args below meth c G 4 (vx_MQ below (QcN G (.ok (some (.int r.1))) r.2) (XcN G (.ok (some (.int r.1))) r.2) args s 0 0 (gA G)) h1 0 0 141 [] [.int x15] := by
                  obtain rfl := Option.some.inj hf
                  exact r_iret O hr rfl rfl (by decide) (by decide) dX9_where_141
                clear hf
                have hf := hg
                clear hg
                by_cases hc : x8 = 0
                · rw [if_pos hc] at hf
                  refine r_if_eq_t (tgt := 140) O dX9_where_125 (by decide) hc ?_
                  refine r_iconst O (v := -1) dX9_where_140 (by decide) ?_
                  obtain rfl := oi1 hf
                  refine AW.sub [] rfl ?_
                  exact hJ
                · rw [if_neg hc] at hf
                  refine r_if_eq_f (tgt := 140) O dX9_where_125 (by decide) hc ?_
                  refine r_aload_n O 1 dX9_where_128 rfl (Or.inl rfl) ?_
                  obtain ⟨x16, ex16, hf⟩ := bnd hf
                  refine r_gP O cf9 10 (by decide) rfl fl_X9_33 ex16 dX9_where_129 ?_
                  refine r_iload_n O 2 dX9_where_132 rfl ?_
                  refine r_iconst O (v := -1) dX9_where_133 (by decide) ?_
                  obtain ⟨x17, ex17, hf⟩ := bnd hf
                  refine r_callS (av := [.ref x16, .int a1, .int (-1)]) (st := []) O (c_X9_neighbour ex17) mf_X9_neighbour ml_X9_151 ms_X9_neighbour (by decide) (Nat.le_of_ble_eq_true rfl) (by decide) dX9_where_134 ?_
                  refine r_goto (tgt := 141) O dX9_where_137 (by decide) ?_
                  obtain rfl := oi1 hf
                  refine AW.sub [] rfl ?_
                  exact hJ
              · rw [if_neg hc] at hf
                have hn124 := hc
                by_cases hc : a2 = 3
                · rw [if_pos hc] at hf
                  refine r_table_in (off := 86) (tgt := 142) O dX9_where_56 (by (rw [hc]; decide)) (by (rw [hc]; decide)) (by (rw [hc]; rfl)) (by decide) ?_
                  refine r_iload_n O 0 dX9_where_142 rfl ?_
                  obtain ⟨x19, hg, hf⟩ := bnd hf
                  have hJ : AW p l e { frames := 2, cells := 0, slots := 0, locals := 47 } s m args below meth c G 4 (vx_MQ below (QcN G (.ok (some (.int r.1))) r.2) (XcN G (.ok (some (.int r.1))) r.2) args s 0 0 (gA G)) h1 0 0 159 [] [.int x19] := by
                    obtain rfl := Option.some.inj hf
                    exact r_iret O hr rfl rfl (by decide) (by decide) dX9_where_159
                  clear hf
                  have hf := hg
                  clear hg
                  by_cases hc : x8 = 0
                  · rw [if_pos hc] at hf
                    refine r_if_eq_t (tgt := 158) O dX9_where_143 (by decide) hc ?_
                    refine r_iconst O (v := -1) dX9_where_158 (by decide) ?_
                    obtain rfl := oi1 hf
                    refine AW.sub [] rfl ?_
                    exact hJ
                  · rw [if_neg hc] at hf
                    refine r_if_eq_f (tgt := 158) O dX9_where_143 (by decide) hc ?_
                    refine r_aload_n O 1 dX9_where_146 rfl (Or.inl rfl) ?_
                    obtain ⟨x20, ex20, hf⟩ := bnd hf
                    refine r_gP O cf9 10 (by decide) rfl fl_X9_33 ex20 dX9_where_147 ?_
                    refine r_iload_n O 2 dX9_where_150 rfl ?_
                    refine r_iconst O (v := 1) dX9_where_151 (by decide) ?_
                    obtain ⟨x21, ex21, hf⟩ := bnd hf
                    refine r_callS (av := [.ref x20, .int a1, .int 1]) (st := []) O (c_X9_neighbour ex21) mf_X9_neighbour ml_X9_151 ms_X9_neighbour (by decide) (Nat.le_of_ble_eq_true rfl) (by decide) dX9_where_152 ?_
                    refine r_goto (tgt := 159) O dX9_where_155 (by decide) ?_
                    obtain rfl := oi1 hf
                    refine AW.sub [] rfl ?_
                    exact hJ
                · rw [if_neg hc] at hf
                  have hn142 := hc
                  by_cases hc : a2 = 4
                  · rw [if_pos hc] at hf
                    refine r_table_in (off := 104) (tgt := 160) O dX9_where_56 (by (rw [hc]; decide)) (by (rw [hc]; decide)) (by (rw [hc]; rfl)) (by decide) ?_
                    refine r_aload_n O 1 dX9_where_160 rfl (Or.inl rfl) ?_
                    obtain ⟨x23, ex23, hf⟩ := bnd hf
                    refine r_gP O cf9 10 (by decide) rfl fl_X9_33 ex23 dX9_where_161 ?_
                    refine r_sipush O (v := 172) dX9_where_164 (by decide) ?_
                    refine r_iload_n O 2 dX9_where_167 rfl ?_
                    refine r_iadd O dX9_where_168 ?_
                    obtain ⟨x24, ex24, hf⟩ := bnd hf
                    refine r_ldI O ex24 dX9_where_169 ?_
                    obtain rfl := Option.some.inj hf
                    exact r_iret O hr rfl rfl (by decide) (by decide) dX9_where_170
                  · rw [if_neg hc] at hf
                    have hn160 := hc
                    by_cases hc : a2 = 5
                    · rw [if_pos hc] at hf
                      refine r_table_in (off := 115) (tgt := 171) O dX9_where_56 (by (rw [hc]; decide)) (by (rw [hc]; decide)) (by (rw [hc]; rfl)) (by decide) ?_
                      refine r_aload_n O 1 dX9_where_171 rfl (Or.inl rfl) ?_
                      obtain ⟨x25, ex25, hf⟩ := bnd hf
                      refine r_gP O cf9 10 (by decide) rfl fl_X9_33 ex25 dX9_where_172 ?_
                      refine r_iload_n O 2 dX9_where_175 rfl ?_
                      obtain ⟨x26, ex26, hf⟩ := bnd hf
                      refine r_callS (av := [.ref x25, .int a1]) (st := []) O (c_X9_isFrozenThing ex26) mf_X9_isFrozenThing ml_X9_137 ms_X9_isFrozenThing (by decide) (Nat.le_of_ble_eq_true rfl) (by decide) dX9_where_176 ?_
                      obtain ⟨x28, hg, hf⟩ := bnd hf
                      have hJ : AW p l e { frames := 2, cells := 0, slots := 0, locals := 47 } s m args below meth c G 4 (vx_MQ below (QcN G (.ok (some (.int r.1))) r.2) (XcN G (.ok (some (.int r.1))) r.2) args s 0 0 (gA G)) h1 0 0 187 [] [.int x28] := by
                        obtain rfl := Option.some.inj hf
                        exact r_iret O hr rfl rfl (by decide) (by decide) dX9_where_187
                      clear hf
                      have hf := hg
                      clear hg
                      by_cases hc : x26 = 0
                      · rw [if_pos hc] at hf
                        refine r_if_eq_t (tgt := 186) O dX9_where_179 (by decide) hc ?_
                        refine r_iconst O (v := 0) dX9_where_186 (by decide) ?_
                        obtain rfl := oi1 hf
                        refine AW.sub [] rfl ?_
                        exact hJ
                      · rw [if_neg hc] at hf
                        refine r_if_eq_f (tgt := 186) O dX9_where_179 (by decide) hc ?_
                        refine r_iconst O (v := 1) dX9_where_182 (by decide) ?_
                        refine r_goto (tgt := 187) O dX9_where_183 (by decide) ?_
                        obtain rfl := oi1 hf
                        refine AW.sub [] rfl ?_
                        exact hJ
                    · rw [if_neg hc] at hf
                      have hn171 := hc
                      have hout := tb_out (x := a2) 0 6 (fun j hj => by
                        rcases (show j = 0 ∨ j = 1 ∨ j = 2 ∨ j = 3 ∨ j = 4 ∨ j = 5 by omega) with rfl | rfl | rfl | rfl | rfl | rfl
                        · exact fun q => hn96 (q.trans (by decide))
                        · exact fun q => hn107 (q.trans (by decide))
                        · exact fun q => hn124 (q.trans (by decide))
                        · exact fun q => hn142 (q.trans (by decide))
                        · exact fun q => hn160 (q.trans (by decide))
                        · exact fun q => hn171 (q.trans (by decide)))
                      refine r_table_out (tgt := 188) O dX9_where_56 hout (by decide) ?_
                      refine r_aload_n O 1 dX9_where_188 rfl (Or.inl rfl) ?_
                      obtain ⟨x29, ex29, hf⟩ := bnd hf
                      refine r_gP O cf9 10 (by decide) rfl fl_X9_33 ex29 dX9_where_189 ?_
                      refine r_iconst O (v := 0) dX9_where_192 (by decide) ?_
                      refine r_iconst O (v := 4) dX9_where_193 (by decide) ?_
                      refine r_iload_n O 2 dX9_where_194 rfl ?_
                      refine r_imul O dX9_where_195 ?_
                      refine r_iadd O dX9_where_196 ?_
                      refine r_iload_n O 3 dX9_where_197 rfl ?_
                      refine r_iadd O dX9_where_198 ?_
                      refine r_bipush O (v := 6) dX9_where_199 (by decide) ?_
                      refine r_isub O dX9_where_201 ?_
                      obtain ⟨x30, ex30, hf⟩ := bnd hf
                      refine r_ldI O ex30 dX9_where_202 ?_
                      obtain rfl := Option.some.inj hf
                      exact r_iret O hr rfl rfl (by decide) (by decide) dX9_where_203
        clear hf
        have hf := hg
        clear hg
        by_cases hc : x7 = (-1)
        · rw [if_pos hc] at hf
          refine r_icmp_eq_t (tgt := 53) O dX9_where_46 (by decide) hc ?_
          refine r_iconst O (v := 0) dX9_where_53 (by decide) ?_
          obtain rfl := oi1 hf
          refine AW.sub [0, 1, 2] rfl ?_
          exact hJ
        · rw [if_neg hc] at hf
          refine r_icmp_eq_f (tgt := 53) O dX9_where_46 (by decide) hc ?_
          refine r_iconst O (v := 1) dX9_where_49 (by decide) ?_
          refine r_goto (tgt := 54) O dX9_where_50 (by decide) ?_
          obtain rfl := oi1 hf
          refine AW.sub [0, 1, 2] rfl ?_
          exact hJ
      · rw [if_neg hc] at hf
        refine r_icmp_le_f (tgt := 35) O dX9_where_26 (by decide) hc ?_
        refine r_aload_n O 0 dX9_where_29 rfl (Or.inl rfl) ?_
        refine r_iconst O (v := 2) dX9_where_30 (by decide) ?_
        obtain ⟨⟨x31, h32⟩, ex31, hf⟩ := bnd hf
        dsimp only at hf
        refine r_callV (av := [.int 2]) (st := []) O (c_X9_fail ex31) mf_X9_fail cf9 (kd_X9_fail ex31) ml_X9_106 mi_X9_fail mv_X9_fail (by decide) (Nat.le_of_ble_eq_true rfl) (by decide) dX9_where_31 ?_
        obtain rfl := Option.some.inj hf
        exact r_iret O hr rfl rfl (by decide) (by decide) dX9_where_34
def f_X9_at (h : AH) (a0 : Nat) (a1 : Int32) (a2 : Int32) : Option (Int32 × AH) :=
if aK h a0 = 9 then
Option.bind (pI h 9 a0 0 0) fun h1 =>
Option.bind (f_X9_isList h1 a0 a1) fun x2 =>
if x2 = 0 then
Option.bind (f_X9_fail h1 a0 1) fun w => match w with
| (x9, h10) =>
some (x9, h10)
else
Option.bind (if a2 < 0 then
some ((-1) : Int32)
else
Option.bind (gP h1 9 a0 10) fun x5 =>
Option.bind (ldI h1 x5 (492 + a1)) fun x6 =>
if x6 ≤ a2 then
some ((-1) : Int32)
else
Option.bind (gP h1 9 a0 10) fun x7 =>
Option.bind (ldI h1 x7 ((252 + (a1 * 40)) + a2)) fun x8 =>
some x8) fun x4 =>
some (x4, h1)
else none
theorem kd_X9_at {h : AH} {a0 : Nat} {a1 : Int32} {a2 : Int32} {r : (Int32 × AH)} (hf : f_X9_at h a0 a1 a2 = some r) : aK h a0 = 9 := by
  unfold f_X9_at at hf
  exact (ifk hf).1
set_option maxRecDepth 100000 in
set_option maxHeartbeats 4000000 in
theorem c_X9_at {l : Launch} {G : GT} {h : AH} {a0 : Nat} {a1 : Int32} {a2 : Int32} {r : (Int32 × AH)} (hf : f_X9_at h a0 a1 a2 = some r) : Cn l yX9_at cX9_at 3 (some .int) 1 21 0 0 G h [.ref a0, .int a1, .int a2] (.ok (some (.int r.1))) r.2 := by
  refine Cn.of (by decide) (Nat.le_of_ble_eq_true rfl) ?_
  intro p e s m args below meth c O hr hx hin
  have O : OkC p l s m args meth c G cX9_at 3 RX9 := O
  unfold f_X9_at at hf
  obtain ⟨hk0, hf⟩ := ifk hf
  refine AW.sub (lv' := [(0, .ref a0), (1, .int a1), (2, .int a2)]) [0, 1, 2] rfl ?_
  refine r_aload_n O 0 dX9_at_0 rfl (Or.inl rfl) ?_
  refine r_iconst O (v := 0) dX9_at_1 (by decide) ?_
  obtain ⟨h1, eh1, hf⟩ := bnd hf
  refine r_pI O cf9 0 (by decide) rfl fl_X9_1 rfl eh1 dX9_at_2 ?_
  refine r_aload_n O 0 dX9_at_5 rfl (Or.inl rfl) ?_
  refine r_iload_n O 1 dX9_at_6 rfl ?_
  obtain ⟨x2, ex2, hf⟩ := bnd hf
  refine r_callV (av := [.int a1]) (st := []) O (c_X9_isList ex2) mf_X9_isList cf9 (kd_X9_isList ex2) ml_X9_257 mi_X9_isList mv_X9_isList (by decide) (Nat.le_of_ble_eq_true rfl) (by decide) dX9_at_7 ?_
  by_cases hc : x2 = 0
  · rw [if_pos hc] at hf
    refine r_if_ne_f (tgt := 19) O dX9_at_10 (by decide) hc ?_
    refine r_aload_n O 0 dX9_at_13 rfl (Or.inl rfl) ?_
    refine r_iconst O (v := 1) dX9_at_14 (by decide) ?_
    obtain ⟨⟨x9, h10⟩, ex9, hf⟩ := bnd hf
    dsimp only at hf
    refine r_callV (av := [.int 1]) (st := []) O (c_X9_fail ex9) mf_X9_fail cf9 (kd_X9_fail ex9) ml_X9_106 mi_X9_fail mv_X9_fail (by decide) (Nat.le_of_ble_eq_true rfl) (by decide) dX9_at_15 ?_
    obtain rfl := Option.some.inj hf
    exact r_iret O hr rfl rfl (by decide) (by decide) dX9_at_18
  · rw [if_neg hc] at hf
    refine r_if_ne_t (tgt := 19) O dX9_at_10 (by decide) hc ?_
    refine r_iload_n O 2 dX9_at_19 rfl ?_
    obtain ⟨x4, hg, hf⟩ := bnd hf
    have hJ : AW p l e { frames := 1, cells := 0, slots := 0, locals := 21 } s m args below meth c G 3 (vx_MQ below (QcN G (.ok (some (.int r.1))) r.2) (XcN G (.ok (some (.int r.1))) r.2) args s 0 0 (gA G)) h1 0 0 56 [] [.int x4] := by
      obtain rfl := Option.some.inj hf
      exact r_iret O hr rfl rfl (by decide) (by decide) dX9_at_56
    clear hf
    have hf := hg
    clear hg
    by_cases hc : a2 < 0
    · rw [if_pos hc] at hf
      refine r_if_lt_t (tgt := 55) O dX9_at_20 (by decide) hc ?_
      refine r_iconst O (v := -1) dX9_at_55 (by decide) ?_
      obtain rfl := oi1 hf
      refine AW.sub [] rfl ?_
      exact hJ
    · rw [if_neg hc] at hf
      refine r_if_lt_f (tgt := 55) O dX9_at_20 (by decide) hc ?_
      refine r_iload_n O 2 dX9_at_23 rfl ?_
      refine r_aload_n O 0 dX9_at_24 rfl (Or.inl rfl) ?_
      obtain ⟨x5, ex5, hf⟩ := bnd hf
      refine r_gP O cf9 10 (by decide) rfl fl_X9_33 ex5 dX9_at_25 ?_
      refine r_sipush O (v := 492) dX9_at_28 (by decide) ?_
      refine r_iload_n O 1 dX9_at_31 rfl ?_
      refine r_iadd O dX9_at_32 ?_
      obtain ⟨x6, ex6, hf⟩ := bnd hf
      refine r_ldI O ex6 dX9_at_33 ?_
      by_cases hc : x6 ≤ a2
      · rw [if_pos hc] at hf
        refine r_icmp_ge_t (tgt := 55) O dX9_at_34 (by decide) hc ?_
        refine r_iconst O (v := -1) dX9_at_55 (by decide) ?_
        obtain rfl := oi1 hf
        refine AW.sub [] rfl ?_
        exact hJ
      · rw [if_neg hc] at hf
        refine r_icmp_ge_f (tgt := 55) O dX9_at_34 (by decide) hc ?_
        refine r_aload_n O 0 dX9_at_37 rfl (Or.inl rfl) ?_
        obtain ⟨x7, ex7, hf⟩ := bnd hf
        refine r_gP O cf9 10 (by decide) rfl fl_X9_33 ex7 dX9_at_38 ?_
        refine r_sipush O (v := 252) dX9_at_41 (by decide) ?_
        refine r_iload_n O 1 dX9_at_44 rfl ?_
        refine r_bipush O (v := 40) dX9_at_45 (by decide) ?_
        refine r_imul O dX9_at_47 ?_
        refine r_iadd O dX9_at_48 ?_
        refine r_iload_n O 2 dX9_at_49 rfl ?_
        refine r_iadd O dX9_at_50 ?_
        obtain ⟨x8, ex8, hf⟩ := bnd hf
        refine r_ldI O ex8 dX9_at_51 ?_
        refine r_goto (tgt := 56) O dX9_at_52 (by decide) ?_
        obtain rfl := oi1 hf
        refine AW.sub [] rfl ?_
        exact hJ
def f_X9_worked (h : AH) (a0 : Nat) (a1 : Int32) : Option (Int32 × AH) :=
if aK h a0 = 9 then
Option.bind (pI h 9 a0 0 0) fun h1 =>
Option.bind (if a1 < 0 then
some ((-1) : Int32)
else
Option.bind (gI h1 9 a0 20) fun x3 =>
if x3 ≤ a1 then
some ((-1) : Int32)
else
Option.bind (gP h1 9 a0 21) fun x4 =>
Option.bind (ldI h1 x4 a1) fun x5 =>
some x5) fun x2 =>
some (x2, h1)
else none
theorem kd_X9_worked {h : AH} {a0 : Nat} {a1 : Int32} {r : (Int32 × AH)} (hf : f_X9_worked h a0 a1 = some r) : aK h a0 = 9 := by
  unfold f_X9_worked at hf
  exact (ifk hf).1
set_option maxRecDepth 100000 in
set_option maxHeartbeats 4000000 in
theorem c_X9_worked {l : Launch} {G : GT} {h : AH} {a0 : Nat} {a1 : Int32} {r : (Int32 × AH)} (hf : f_X9_worked h a0 a1 = some r) : Cn l yX9_worked cX9_worked 2 (some .int) 0 0 0 0 G h [.ref a0, .int a1] (.ok (some (.int r.1))) r.2 := by
  refine Cn.of (by decide) (Nat.le_of_ble_eq_true rfl) ?_
  intro p e s m args below meth c O hr hx hin
  have O : OkC p l s m args meth c G cX9_worked 2 RX9 := O
  unfold f_X9_worked at hf
  obtain ⟨hk0, hf⟩ := ifk hf
  refine AW.sub (lv' := [(0, .ref a0), (1, .int a1)]) [0, 1] rfl ?_
  refine r_aload_n O 0 dX9_worked_0 rfl (Or.inl rfl) ?_
  refine r_iconst O (v := 0) dX9_worked_1 (by decide) ?_
  obtain ⟨h1, eh1, hf⟩ := bnd hf
  refine r_pI O cf9 0 (by decide) rfl fl_X9_1 rfl eh1 dX9_worked_2 ?_
  refine r_iload_n O 1 dX9_worked_5 rfl ?_
  obtain ⟨x2, hg, hf⟩ := bnd hf
  have hJ : AW p l e { frames := 0, cells := 0, slots := 0, locals := 0 } s m args below meth c G 2 (vx_MQ below (QcN G (.ok (some (.int r.1))) r.2) (XcN G (.ok (some (.int r.1))) r.2) args s 0 0 (gA G)) h1 0 0 27 [] [.int x2] := by
    obtain rfl := Option.some.inj hf
    exact r_iret O hr rfl rfl (by decide) (by decide) dX9_worked_27
  clear hf
  have hf := hg
  clear hg
  by_cases hc : a1 < 0
  · rw [if_pos hc] at hf
    refine r_if_lt_t (tgt := 26) O dX9_worked_6 (by decide) hc ?_
    refine r_iconst O (v := -1) dX9_worked_26 (by decide) ?_
    obtain rfl := oi1 hf
    refine AW.sub [] rfl ?_
    exact hJ
  · rw [if_neg hc] at hf
    refine r_if_lt_f (tgt := 26) O dX9_worked_6 (by decide) hc ?_
    refine r_iload_n O 1 dX9_worked_9 rfl ?_
    refine r_aload_n O 0 dX9_worked_10 rfl (Or.inl rfl) ?_
    obtain ⟨x3, ex3, hf⟩ := bnd hf
    refine r_gI O cf9 20 (by decide) rfl fl_X9_235 ex3 dX9_worked_11 ?_
    by_cases hc : x3 ≤ a1
    · rw [if_pos hc] at hf
      refine r_icmp_ge_t (tgt := 26) O dX9_worked_14 (by decide) hc ?_
      refine r_iconst O (v := -1) dX9_worked_26 (by decide) ?_
      obtain rfl := oi1 hf
      refine AW.sub [] rfl ?_
      exact hJ
    · rw [if_neg hc] at hf
      refine r_icmp_ge_f (tgt := 26) O dX9_worked_14 (by decide) hc ?_
      refine r_aload_n O 0 dX9_worked_17 rfl (Or.inl rfl) ?_
      obtain ⟨x4, ex4, hf⟩ := bnd hf
      refine r_gP O cf9 21 (by decide) rfl fl_X9_55 ex4 dX9_worked_18 ?_
      refine r_iload_n O 1 dX9_worked_21 rfl ?_
      obtain ⟨x5, ex5, hf⟩ := bnd hf
      refine r_ldI O ex5 dX9_worked_22 ?_
      refine r_goto (tgt := 27) O dX9_worked_23 (by decide) ?_
      obtain rfl := oi1 hf
      refine AW.sub [] rfl ?_
      exact hJ
def f_X9_order (h : AH) (a0 : Nat) (a1 : Int32) : Option (Int32 × AH) :=
if aK h a0 = 9 then
Option.bind (pI h 9 a0 0 0) fun h1 =>
Option.bind (gI h1 9 a0 1) fun x2 =>
if x2 = 0 then
if 0 ≤ a1 then
Option.bind (gP h1 9 a0 11) fun x3 =>
Option.bind (f_X9_arrange h1 a0 x3) fun w => match w with
| (x4, h5) =>
Option.bind (if x4 = 0 then
some ((-1) : Int32)
else
Option.bind (gI h5 9 a0 36) fun x7 =>
if x7 ≤ a1 then
some ((-1) : Int32)
else
Option.bind (gP h5 9 a0 37) fun x8 =>
Option.bind (ldI h5 x8 a1) fun x9 =>
some x9) fun x6 =>
some (x6, h5)
else
some ((-1), h1)
else
some ((-1), h1)
else none
theorem kd_X9_order {h : AH} {a0 : Nat} {a1 : Int32} {r : (Int32 × AH)} (hf : f_X9_order h a0 a1 = some r) : aK h a0 = 9 := by
  unfold f_X9_order at hf
  exact (ifk hf).1
set_option maxRecDepth 100000 in
set_option maxHeartbeats 4000000 in
theorem c_X9_order {l : Launch} {G : GT} {h : AH} {a0 : Nat} {a1 : Int32} {r : (Int32 × AH)} (hf : f_X9_order h a0 a1 = some r) : Cn l yX9_order cX9_order 3 (some .int) 5 119 0 0 G h [.ref a0, .int a1] (.ok (some (.int r.1))) r.2 := by
  refine Cn.of (by decide) (Nat.le_of_ble_eq_true rfl) ?_
  intro p e s m args below meth c O hr hx hin
  have O : OkC p l s m args meth c G cX9_order 3 RX9 := O
  unfold f_X9_order at hf
  obtain ⟨hk0, hf⟩ := ifk hf
  refine AW.sub (lv' := [(0, .ref a0), (1, .int a1)]) [0, 1] rfl ?_
  refine r_aload_n O 0 dX9_order_0 rfl (Or.inl rfl) ?_
  refine r_iconst O (v := 0) dX9_order_1 (by decide) ?_
  obtain ⟨h1, eh1, hf⟩ := bnd hf
  refine r_pI O cf9 0 (by decide) rfl fl_X9_1 rfl eh1 dX9_order_2 ?_
  refine r_aload_n O 0 dX9_order_5 rfl (Or.inl rfl) ?_
  obtain ⟨x2, ex2, hf⟩ := bnd hf
  refine r_gI O cf9 1 (by decide) rfl fl_X9_13 ex2 dX9_order_6 ?_
  by_cases hc : x2 = 0
  · rw [if_pos hc] at hf
    refine r_if_ne_f (tgt := 16) O dX9_order_9 (by decide) hc ?_
    refine r_iload_n O 1 dX9_order_12 rfl ?_
    by_cases hc : 0 ≤ a1
    · rw [if_pos hc] at hf
      refine r_if_ge_t (tgt := 18) O dX9_order_13 (by decide) hc ?_
      refine r_aload_n O 0 dX9_order_18 rfl (Or.inl rfl) ?_
      refine r_aload_n O 0 dX9_order_19 rfl (Or.inl rfl) ?_
      obtain ⟨x3, ex3, hf⟩ := bnd hf
      refine r_gP O cf9 11 (by decide) rfl fl_X9_36 ex3 dX9_order_20 ?_
      obtain ⟨⟨x4, h5⟩, ex4, hf⟩ := bnd hf
      dsimp only at hf
      refine r_callV (av := [.ref x3]) (st := []) O (c_X9_arrange ex4) mf_X9_arrange cf9 (kd_X9_arrange ex4) ml_X9_209 mi_X9_arrange mv_X9_arrange (by decide) (Nat.le_of_ble_eq_true rfl) (by decide) dX9_order_23 ?_
      refine r_istore_n O [(2, .int x4), (0, .ref a0), (1, .int a1)] dX9_order_26 (by decide) rfl ?_
      refine r_iload_n O 0 dX9_order_27 rfl ?_
      obtain ⟨x6, hg, hf⟩ := bnd hf
      have hJ : AW p l e { frames := 5, cells := 0, slots := 0, locals := 119 } s m args below meth c G 3 (vx_MQ below (QcN G (.ok (some (.int r.1))) r.2) (XcN G (.ok (some (.int r.1))) r.2) args s 0 0 (gA G)) h5 0 0 49 [] [.int x6] := by
        obtain rfl := Option.some.inj hf
        exact r_iret O hr rfl rfl (by decide) (by decide) dX9_order_49
      clear hf
      have hf := hg
      clear hg
      by_cases hc : x4 = 0
      · rw [if_pos hc] at hf
        refine r_if_eq_t (tgt := 48) O dX9_order_28 (by decide) hc ?_
        refine r_iconst O (v := -1) dX9_order_48 (by decide) ?_
        obtain rfl := oi1 hf
        refine AW.sub [] rfl ?_
        exact hJ
      · rw [if_neg hc] at hf
        refine r_if_eq_f (tgt := 48) O dX9_order_28 (by decide) hc ?_
        refine r_iload_n O 2 dX9_order_31 rfl ?_
        refine r_aload_n O 1 dX9_order_32 rfl (Or.inl rfl) ?_
        obtain ⟨x7, ex7, hf⟩ := bnd hf
        refine r_gI O cf9 36 (by decide) rfl fl_X9_172 ex7 dX9_order_33 ?_
        by_cases hc : x7 ≤ a1
        · rw [if_pos hc] at hf
          refine r_icmp_ge_t (tgt := 48) O dX9_order_36 (by decide) hc ?_
          refine r_iconst O (v := -1) dX9_order_48 (by decide) ?_
          obtain rfl := oi1 hf
          refine AW.sub [] rfl ?_
          exact hJ
        · rw [if_neg hc] at hf
          refine r_icmp_ge_f (tgt := 48) O dX9_order_36 (by decide) hc ?_
          refine r_aload_n O 1 dX9_order_39 rfl (Or.inl rfl) ?_
          obtain ⟨x8, ex8, hf⟩ := bnd hf
          refine r_gP O cf9 37 (by decide) rfl fl_X9_79 ex8 dX9_order_40 ?_
          refine r_iload_n O 2 dX9_order_43 rfl ?_
          obtain ⟨x9, ex9, hf⟩ := bnd hf
          refine r_ldI O ex9 dX9_order_44 ?_
          refine r_goto (tgt := 49) O dX9_order_45 (by decide) ?_
          obtain rfl := oi1 hf
          refine AW.sub [] rfl ?_
          exact hJ
    · rw [if_neg hc] at hf
      refine r_if_ge_f (tgt := 18) O dX9_order_13 (by decide) hc ?_
      refine r_iconst O (v := -1) dX9_order_16 (by decide) ?_
      obtain rfl := Option.some.inj hf
      exact r_iret O hr rfl rfl (by decide) (by decide) dX9_order_17
  · rw [if_neg hc] at hf
    refine r_if_ne_t (tgt := 16) O dX9_order_9 (by decide) hc ?_
    refine r_iconst O (v := -1) dX9_order_16 (by decide) ?_
    obtain rfl := Option.some.inj hf
    exact r_iret O hr rfl rfl (by decide) (by decide) dX9_order_17
def f_X9_ring (h : AH) (a0 : Nat) (a1 : Int32) : Option (Int32 × AH) :=
if aK h a0 = 9 then
Option.bind (pI h 9 a0 0 0) fun h1 =>
Option.bind (if a1 < 0 then
some ((-1) : Int32)
else
Option.bind (gI h1 9 a0 24) fun x3 =>
if x3 ≤ a1 then
some ((-1) : Int32)
else
Option.bind (gP h1 9 a0 25) fun x4 =>
Option.bind (ldI h1 x4 a1) fun x5 =>
some x5) fun x2 =>
some (x2, h1)
else none
theorem kd_X9_ring {h : AH} {a0 : Nat} {a1 : Int32} {r : (Int32 × AH)} (hf : f_X9_ring h a0 a1 = some r) : aK h a0 = 9 := by
  unfold f_X9_ring at hf
  exact (ifk hf).1
set_option maxRecDepth 100000 in
set_option maxHeartbeats 4000000 in
theorem c_X9_ring {l : Launch} {G : GT} {h : AH} {a0 : Nat} {a1 : Int32} {r : (Int32 × AH)} (hf : f_X9_ring h a0 a1 = some r) : Cn l yX9_ring cX9_ring 2 (some .int) 0 0 0 0 G h [.ref a0, .int a1] (.ok (some (.int r.1))) r.2 := by
  refine Cn.of (by decide) (Nat.le_of_ble_eq_true rfl) ?_
  intro p e s m args below meth c O hr hx hin
  have O : OkC p l s m args meth c G cX9_ring 2 RX9 := O
  unfold f_X9_ring at hf
  obtain ⟨hk0, hf⟩ := ifk hf
  refine AW.sub (lv' := [(0, .ref a0), (1, .int a1)]) [0, 1] rfl ?_
  refine r_aload_n O 0 dX9_ring_0 rfl (Or.inl rfl) ?_
  refine r_iconst O (v := 0) dX9_ring_1 (by decide) ?_
  obtain ⟨h1, eh1, hf⟩ := bnd hf
  refine r_pI O cf9 0 (by decide) rfl fl_X9_1 rfl eh1 dX9_ring_2 ?_
  refine r_iload_n O 1 dX9_ring_5 rfl ?_
  obtain ⟨x2, hg, hf⟩ := bnd hf
  have hJ : AW p l e { frames := 0, cells := 0, slots := 0, locals := 0 } s m args below meth c G 2 (vx_MQ below (QcN G (.ok (some (.int r.1))) r.2) (XcN G (.ok (some (.int r.1))) r.2) args s 0 0 (gA G)) h1 0 0 27 [] [.int x2] := by
    obtain rfl := Option.some.inj hf
    exact r_iret O hr rfl rfl (by decide) (by decide) dX9_ring_27
  clear hf
  have hf := hg
  clear hg
  by_cases hc : a1 < 0
  · rw [if_pos hc] at hf
    refine r_if_lt_t (tgt := 26) O dX9_ring_6 (by decide) hc ?_
    refine r_iconst O (v := -1) dX9_ring_26 (by decide) ?_
    obtain rfl := oi1 hf
    refine AW.sub [] rfl ?_
    exact hJ
  · rw [if_neg hc] at hf
    refine r_if_lt_f (tgt := 26) O dX9_ring_6 (by decide) hc ?_
    refine r_iload_n O 1 dX9_ring_9 rfl ?_
    refine r_aload_n O 0 dX9_ring_10 rfl (Or.inl rfl) ?_
    obtain ⟨x3, ex3, hf⟩ := bnd hf
    refine r_gI O cf9 24 (by decide) rfl fl_X9_181 ex3 dX9_ring_11 ?_
    by_cases hc : x3 ≤ a1
    · rw [if_pos hc] at hf
      refine r_icmp_ge_t (tgt := 26) O dX9_ring_14 (by decide) hc ?_
      refine r_iconst O (v := -1) dX9_ring_26 (by decide) ?_
      obtain rfl := oi1 hf
      refine AW.sub [] rfl ?_
      exact hJ
    · rw [if_neg hc] at hf
      refine r_icmp_ge_f (tgt := 26) O dX9_ring_14 (by decide) hc ?_
      refine r_aload_n O 0 dX9_ring_17 rfl (Or.inl rfl) ?_
      obtain ⟨x4, ex4, hf⟩ := bnd hf
      refine r_gP O cf9 25 (by decide) rfl fl_X9_61 ex4 dX9_ring_18 ?_
      refine r_iload_n O 1 dX9_ring_21 rfl ?_
      obtain ⟨x5, ex5, hf⟩ := bnd hf
      refine r_ldI O ex5 dX9_ring_22 ?_
      refine r_goto (tgt := 27) O dX9_ring_23 (by decide) ?_
      obtain rfl := oi1 hf
      refine AW.sub [] rfl ?_
      exact hJ
def f_X9_cause (h : AH) (a0 : Nat) (a1 : Int32) : Option (Int32 × AH) :=
if aK h a0 = 9 then
Option.bind (pI h 9 a0 0 0) fun h1 =>
if a1 < 0 then
Option.bind (f_X9_fail h1 a0 1) fun w => match w with
| (x2, h3) =>
some (x2, h3)
else
if a1 ≤ 3 then
Option.bind (if a1 = 0 then
Option.bind (gI h1 9 a0 26) fun x8 =>
some x8
else
if a1 = 1 then
Option.bind (gI h1 9 a0 27) fun x7 =>
some x7
else
if a1 = 2 then
Option.bind (gI h1 9 a0 28) fun x6 =>
some x6
else
Option.bind (gI h1 9 a0 29) fun x5 =>
some x5) fun x4 =>
some (x4, h1)
else
Option.bind (f_X9_fail h1 a0 1) fun w => match w with
| (x9, h10) =>
some (x9, h10)
else none
theorem kd_X9_cause {h : AH} {a0 : Nat} {a1 : Int32} {r : (Int32 × AH)} (hf : f_X9_cause h a0 a1 = some r) : aK h a0 = 9 := by
  unfold f_X9_cause at hf
  exact (ifk hf).1
set_option maxRecDepth 100000 in
set_option maxHeartbeats 4000000 in
theorem c_X9_cause {l : Launch} {G : GT} {h : AH} {a0 : Nat} {a1 : Int32} {r : (Int32 × AH)} (hf : f_X9_cause h a0 a1 = some r) : Cn l yX9_cause cX9_cause 2 (some .int) 1 21 0 0 G h [.ref a0, .int a1] (.ok (some (.int r.1))) r.2 := by
  refine Cn.of (by decide) (Nat.le_of_ble_eq_true rfl) ?_
  intro p e s m args below meth c O hr hx hin
  have O : OkC p l s m args meth c G cX9_cause 2 RX9 := O
  unfold f_X9_cause at hf
  obtain ⟨hk0, hf⟩ := ifk hf
  refine AW.sub (lv' := [(0, .ref a0), (1, .int a1)]) [0, 1] rfl ?_
  refine r_aload_n O 0 dX9_cause_0 rfl (Or.inl rfl) ?_
  refine r_iconst O (v := 0) dX9_cause_1 (by decide) ?_
  obtain ⟨h1, eh1, hf⟩ := bnd hf
  refine r_pI O cf9 0 (by decide) rfl fl_X9_1 rfl eh1 dX9_cause_2 ?_
  refine r_iload_n O 1 dX9_cause_5 rfl ?_
  by_cases hc : a1 < 0
  · rw [if_pos hc] at hf
    refine r_if_lt_t (tgt := 14) O dX9_cause_6 (by decide) hc ?_
    refine r_aload_n O 0 dX9_cause_14 rfl (Or.inl rfl) ?_
    refine r_iconst O (v := 1) dX9_cause_15 (by decide) ?_
    obtain ⟨⟨x2, h3⟩, ex2, hf⟩ := bnd hf
    dsimp only at hf
    refine r_callV (av := [.int 1]) (st := []) O (c_X9_fail ex2) mf_X9_fail cf9 (kd_X9_fail ex2) ml_X9_106 mi_X9_fail mv_X9_fail (by decide) (Nat.le_of_ble_eq_true rfl) (by decide) dX9_cause_16 ?_
    obtain rfl := Option.some.inj hf
    exact r_iret O hr rfl rfl (by decide) (by decide) dX9_cause_19
  · rw [if_neg hc] at hf
    refine r_if_lt_f (tgt := 14) O dX9_cause_6 (by decide) hc ?_
    refine r_iload_n O 1 dX9_cause_9 rfl ?_
    refine r_iconst O (v := 3) dX9_cause_10 (by decide) ?_
    by_cases hc : a1 ≤ 3
    · rw [if_pos hc] at hf
      refine r_icmp_le_t (tgt := 20) O dX9_cause_11 (by decide) hc ?_
      refine r_iload_n O 1 dX9_cause_20 rfl ?_
      obtain ⟨x4, hg, hf⟩ := bnd hf
      have hJ : AW p l e { frames := 1, cells := 0, slots := 0, locals := 21 } s m args below meth c G 2 (vx_MQ below (QcN G (.ok (some (.int r.1))) r.2) (XcN G (.ok (some (.int r.1))) r.2) args s 0 0 (gA G)) h1 0 0 59 [] [.int x4] := by
        obtain rfl := Option.some.inj hf
        exact r_iret O hr rfl rfl (by decide) (by decide) dX9_cause_59
      clear hf
      have hf := hg
      clear hg
      by_cases hc : a1 = 0
      · rw [if_pos hc] at hf
        refine r_if_ne_f (tgt := 31) O dX9_cause_21 (by decide) hc ?_
        refine r_aload_n O 0 dX9_cause_24 rfl (Or.inl rfl) ?_
        obtain ⟨x8, ex8, hf⟩ := bnd hf
        refine r_gI O cf9 26 (by decide) rfl fl_X9_203 ex8 dX9_cause_25 ?_
        refine r_goto (tgt := 59) O dX9_cause_28 (by decide) ?_
        obtain rfl := oi1 hf
        refine AW.sub [] rfl ?_
        exact hJ
      · rw [if_neg hc] at hf
        refine r_if_ne_t (tgt := 31) O dX9_cause_21 (by decide) hc ?_
        refine r_iload_n O 1 dX9_cause_31 rfl ?_
        refine r_iconst O (v := 1) dX9_cause_32 (by decide) ?_
        by_cases hc : a1 = 1
        · rw [if_pos hc] at hf
          refine r_icmp_ne_f (tgt := 43) O dX9_cause_33 (by decide) hc ?_
          refine r_aload_n O 0 dX9_cause_36 rfl (Or.inl rfl) ?_
          obtain ⟨x7, ex7, hf⟩ := bnd hf
          refine r_gI O cf9 27 (by decide) rfl fl_X9_64 ex7 dX9_cause_37 ?_
          refine r_goto (tgt := 59) O dX9_cause_40 (by decide) ?_
          obtain rfl := oi1 hf
          refine AW.sub [] rfl ?_
          exact hJ
        · rw [if_neg hc] at hf
          refine r_icmp_ne_t (tgt := 43) O dX9_cause_33 (by decide) hc ?_
          refine r_iload_n O 1 dX9_cause_43 rfl ?_
          refine r_iconst O (v := 2) dX9_cause_44 (by decide) ?_
          by_cases hc : a1 = 2
          · rw [if_pos hc] at hf
            refine r_icmp_ne_f (tgt := 55) O dX9_cause_45 (by decide) hc ?_
            refine r_aload_n O 0 dX9_cause_48 rfl (Or.inl rfl) ?_
            obtain ⟨x6, ex6, hf⟩ := bnd hf
            refine r_gI O cf9 28 (by decide) rfl fl_X9_67 ex6 dX9_cause_49 ?_
            refine r_goto (tgt := 59) O dX9_cause_52 (by decide) ?_
            obtain rfl := oi1 hf
            refine AW.sub [] rfl ?_
            exact hJ
          · rw [if_neg hc] at hf
            refine r_icmp_ne_t (tgt := 55) O dX9_cause_45 (by decide) hc ?_
            refine r_aload_n O 0 dX9_cause_55 rfl (Or.inl rfl) ?_
            obtain ⟨x5, ex5, hf⟩ := bnd hf
            refine r_gI O cf9 29 (by decide) rfl fl_X9_70 ex5 dX9_cause_56 ?_
            obtain rfl := oi1 hf
            refine AW.sub [] rfl ?_
            exact hJ
    · rw [if_neg hc] at hf
      refine r_icmp_le_f (tgt := 20) O dX9_cause_11 (by decide) hc ?_
      refine r_aload_n O 0 dX9_cause_14 rfl (Or.inl rfl) ?_
      refine r_iconst O (v := 1) dX9_cause_15 (by decide) ?_
      obtain ⟨⟨x9, h10⟩, ex9, hf⟩ := bnd hf
      dsimp only at hf
      refine r_callV (av := [.int 1]) (st := []) O (c_X9_fail ex9) mf_X9_fail cf9 (kd_X9_fail ex9) ml_X9_106 mi_X9_fail mv_X9_fail (by decide) (Nat.le_of_ble_eq_true rfl) (by decide) dX9_cause_16 ?_
      obtain rfl := Option.some.inj hf
      exact r_iret O hr rfl rfl (by decide) (by decide) dX9_cause_19
def f_X9_count_25 (l0 : Nat) (l1 : Int32) (n : Nat) (h : AH) (l2 : Int32) (l3 : Int32) : Option Int32 := match n with
| 0 => none
| n + 1 =>
if 258 ≤ l3 then
some l2
else
Option.bind (gI h 9 l0 1) fun x4 =>
Option.bind (if x4 = 0 then
Option.bind (gP h 9 l0 11) fun x6 =>
Option.bind (f_X9_isCell h l0 x6 l3) fun x7 =>
if x7 = 0 then
some (0 : Int32)
else
some (1 : Int32)
else
some (0 : Int32)) fun x5 =>
f_X9_count_25 l0 l1 n h (l2 + x5) (l3 + 1)
def f_X9_count (h : AH) (a0 : Nat) (a1 : Int32) : Option (Int32 × AH) :=
if aK h a0 = 9 then
Option.bind (pI h 9 a0 0 0) fun h1 =>
if a1 < 0 then
Option.bind (f_X9_fail h1 a0 1) fun w => match w with
| (x2, h3) =>
some (x2, h3)
else
if a1 ≤ 6 then
Option.bind (f_X9_count_25 a0 a1 FU h1 0 0) fun x9 =>
Option.bind (if a1 = 0 then
Option.bind (gI h1 9 a0 2) fun x17 =>
some x17
else
if a1 = 1 then
Option.bind (gI h1 9 a0 3) fun x16 =>
some x16
else
if a1 = 2 then
some x9
else
if a1 = 3 then
Option.bind (gI h1 9 a0 17) fun x15 =>
some x15
else
if a1 = 4 then
Option.bind (gI h1 9 a0 30) fun x14 =>
some x14
else
if a1 = 5 then
Option.bind (gI h1 9 a0 31) fun x13 =>
some x13
else
Option.bind (gI h1 9 a0 15) fun x11 =>
if x11 = 0 then
some (0 : Int32)
else
Option.bind (gI h1 9 a0 16) fun x12 =>
some x12) fun x10 =>
some (x10, h1)
else
Option.bind (f_X9_fail h1 a0 1) fun w => match w with
| (x18, h19) =>
some (x18, h19)
else none
set_option maxRecDepth 100000 in
set_option maxHeartbeats 4000000 in
theorem s_X9_count_25 {p : Program} {l : Launch} {e : Env} {s : State} {m : MethodId} {args : Array Value} {below : List Frame} {meth : Method} {c : Code} {G : GT} {Q : State → Prop} (O : OkC p l s m args meth c G cX9_count 4 RX9) {l0 : Nat} {l1 : Int32} {h : AH} {w2 : Int32} (kk : AW p l e { frames := 2, cells := 0, slots := 0, locals := 42 } s m args below meth c G 4 Q h 0 0 65 [(0, .ref l0), (1, .int l1), (2, .int w2)] []) : ∀ (n : Nat), ∀ (l2 : Int32) (l3 : Int32), f_X9_count_25 l0 l1 n h l2 l3 = some w2 → AW p l e { frames := 2, cells := 0, slots := 0, locals := 42 } s m args below meth c G 4 Q h 0 0 25 [(0, .ref l0), (1, .int l1), (2, .int l2), (3, .int l3)] [] := by
  intro n
  induction n with
  | zero =>
    intro l2 l3 hf
    simp [f_X9_count_25] at hf
  | succ n ih =>
    intro l2 l3 hf
    unfold f_X9_count_25 at hf
    refine r_iload_n O 3 dX9_count_25 rfl ?_
    refine r_sipush O (v := 258) dX9_count_26 (by decide) ?_
    by_cases hc : 258 ≤ l3
    · rw [if_pos hc] at hf
      refine r_icmp_ge_t (tgt := 65) O dX9_count_29 (by decide) hc ?_
      obtain rfl := oi1 hf
      refine AW.sub [0, 1, 2] rfl ?_
      exact kk
    · rw [if_neg hc] at hf
      refine r_icmp_ge_f (tgt := 65) O dX9_count_29 (by decide) hc ?_
      refine r_iload_n O 2 dX9_count_32 rfl ?_
      refine r_aload_n O 0 dX9_count_33 rfl (Or.inl rfl) ?_
      obtain ⟨x4, ex4, hf⟩ := bnd hf
      refine r_gI O cf9 1 (by decide) rfl fl_X9_13 ex4 dX9_count_34 ?_
      obtain ⟨x5, hg, hf⟩ := bnd hf
      have hJ : AW p l e { frames := 2, cells := 0, slots := 0, locals := 42 } s m args below meth c G 4 Q h 0 0 57 [(0, .ref l0), (1, .int l1), (3, .int l3)] [.int x5, .int l2] := by
        refine r_iadd O dX9_count_57 ?_
        refine r_istore_n O [(2, .int (l2 + x5)), (0, .ref l0), (1, .int l1), (3, .int l3)] dX9_count_58 (by decide) rfl ?_
        refine r_iinc O 3 [(3, .int (l3 + 1)), (2, .int (l2 + x5)), (0, .ref l0), (1, .int l1)] dX9_count_59 rfl rfl (by decide) rfl ?_
        refine r_goto (tgt := 25) O dX9_count_62 (by decide) ?_
        refine AW.sub [2, 3, 1, 0] rfl ?_
        exact ih _ _ hf
      clear hf
      have hf := hg
      clear hg
      by_cases hc : x4 = 0
      · rw [if_pos hc] at hf
        refine r_if_ne_f (tgt := 56) O dX9_count_37 (by decide) hc ?_
        refine r_aload_n O 0 dX9_count_40 rfl (Or.inl rfl) ?_
        refine r_aload_n O 0 dX9_count_41 rfl (Or.inl rfl) ?_
        obtain ⟨x6, ex6, hf⟩ := bnd hf
        refine r_gP O cf9 11 (by decide) rfl fl_X9_36 ex6 dX9_count_42 ?_
        refine r_iload_n O 3 dX9_count_45 rfl ?_
        obtain ⟨x7, ex7, hf⟩ := bnd hf
        refine r_callV (av := [.ref x6, .int l3]) (st := [.int l2]) O (c_X9_isCell ex7) mf_X9_isCell cf9 (kd_X9_isCell ex7) ml_X9_162 mi_X9_isCell mv_X9_isCell (by decide) (Nat.le_of_ble_eq_true rfl) (by decide) dX9_count_46 ?_
        by_cases hc : x7 = 0
        · rw [if_pos hc] at hf
          refine r_if_eq_t (tgt := 56) O dX9_count_49 (by decide) hc ?_
          refine r_iconst O (v := 0) dX9_count_56 (by decide) ?_
          obtain rfl := oi1 hf
          refine AW.sub [0, 1, 3] rfl ?_
          exact hJ
        · rw [if_neg hc] at hf
          refine r_if_eq_f (tgt := 56) O dX9_count_49 (by decide) hc ?_
          refine r_iconst O (v := 1) dX9_count_52 (by decide) ?_
          refine r_goto (tgt := 57) O dX9_count_53 (by decide) ?_
          obtain rfl := oi1 hf
          refine AW.sub [0, 1, 3] rfl ?_
          exact hJ
      · rw [if_neg hc] at hf
        refine r_if_ne_t (tgt := 56) O dX9_count_37 (by decide) hc ?_
        refine r_iconst O (v := 0) dX9_count_56 (by decide) ?_
        obtain rfl := oi1 hf
        refine AW.sub [0, 1, 3] rfl ?_
        exact hJ
theorem kd_X9_count {h : AH} {a0 : Nat} {a1 : Int32} {r : (Int32 × AH)} (hf : f_X9_count h a0 a1 = some r) : aK h a0 = 9 := by
  unfold f_X9_count at hf
  exact (ifk hf).1
set_option maxRecDepth 100000 in
set_option maxHeartbeats 4000000 in
theorem c_X9_count {l : Launch} {G : GT} {h : AH} {a0 : Nat} {a1 : Int32} {r : (Int32 × AH)} (hf : f_X9_count h a0 a1 = some r) : Cn l yX9_count cX9_count 4 (some .int) 2 42 0 0 G h [.ref a0, .int a1] (.ok (some (.int r.1))) r.2 := by
  refine Cn.of (by decide) (Nat.le_of_ble_eq_true rfl) ?_
  intro p e s m args below meth c O hr hx hin
  have O : OkC p l s m args meth c G cX9_count 4 RX9 := O
  unfold f_X9_count at hf
  obtain ⟨hk0, hf⟩ := ifk hf
  refine AW.sub (lv' := [(0, .ref a0), (1, .int a1)]) [0, 1] rfl ?_
  refine r_aload_n O 0 dX9_count_0 rfl (Or.inl rfl) ?_
  refine r_iconst O (v := 0) dX9_count_1 (by decide) ?_
  obtain ⟨h1, eh1, hf⟩ := bnd hf
  refine r_pI O cf9 0 (by decide) rfl fl_X9_1 rfl eh1 dX9_count_2 ?_
  refine r_iload_n O 1 dX9_count_5 rfl ?_
  by_cases hc : a1 < 0
  · rw [if_pos hc] at hf
    refine r_if_lt_t (tgt := 15) O dX9_count_6 (by decide) hc ?_
    refine r_aload_n O 0 dX9_count_15 rfl (Or.inl rfl) ?_
    refine r_iconst O (v := 1) dX9_count_16 (by decide) ?_
    obtain ⟨⟨x2, h3⟩, ex2, hf⟩ := bnd hf
    dsimp only at hf
    refine r_callV (av := [.int 1]) (st := []) O (c_X9_fail ex2) mf_X9_fail cf9 (kd_X9_fail ex2) ml_X9_106 mi_X9_fail mv_X9_fail (by decide) (Nat.le_of_ble_eq_true rfl) (by decide) dX9_count_17 ?_
    obtain rfl := Option.some.inj hf
    exact r_iret O hr rfl rfl (by decide) (by decide) dX9_count_20
  · rw [if_neg hc] at hf
    refine r_if_lt_f (tgt := 15) O dX9_count_6 (by decide) hc ?_
    refine r_iload_n O 1 dX9_count_9 rfl ?_
    refine r_bipush O (v := 6) dX9_count_10 (by decide) ?_
    by_cases hc : a1 ≤ 6
    · rw [if_pos hc] at hf
      refine r_icmp_le_t (tgt := 21) O dX9_count_12 (by decide) hc ?_
      refine r_iconst O (v := 0) dX9_count_21 (by decide) ?_
      refine r_istore_n O [(2, .int 0), (0, .ref a0), (1, .int a1)] dX9_count_22 (by decide) rfl ?_
      refine r_iconst O (v := 0) dX9_count_23 (by decide) ?_
      refine r_istore_n O [(3, .int 0), (2, .int 0), (0, .ref a0), (1, .int a1)] dX9_count_24 (by decide) rfl ?_
      obtain ⟨x9, hw, hf⟩ := bnd hf
      refine AW.sub [2, 3, 1, 0] rfl ?_
      refine s_X9_count_25 O ?_ _ _ _ hw
      refine r_iload_n O 1 dX9_count_65 rfl ?_
      obtain ⟨x10, hg, hf⟩ := bnd hf
      have hJ : AW p l e { frames := 2, cells := 0, slots := 0, locals := 42 } s m args below meth c G 4 (vx_MQ below (QcN G (.ok (some (.int r.1))) r.2) (XcN G (.ok (some (.int r.1))) r.2) args s 0 0 (gA G)) h1 0 0 148 [] [.int x10] := by
        obtain rfl := Option.some.inj hf
        exact r_iret O hr rfl rfl (by decide) (by decide) dX9_count_148
      clear hf
      have hf := hg
      clear hg
      by_cases hc : a1 = 0
      · rw [if_pos hc] at hf
        refine r_if_ne_f (tgt := 76) O dX9_count_66 (by decide) hc ?_
        refine r_aload_n O 0 dX9_count_69 rfl (Or.inl rfl) ?_
        obtain ⟨x17, ex17, hf⟩ := bnd hf
        refine r_gI O cf9 2 (by decide) rfl fl_X9_100 ex17 dX9_count_70 ?_
        refine r_goto (tgt := 148) O dX9_count_73 (by decide) ?_
        obtain rfl := oi1 hf
        refine AW.sub [] rfl ?_
        exact hJ
      · rw [if_neg hc] at hf
        refine r_if_ne_t (tgt := 76) O dX9_count_66 (by decide) hc ?_
        refine r_iload_n O 1 dX9_count_76 rfl ?_
        refine r_iconst O (v := 1) dX9_count_77 (by decide) ?_
        by_cases hc : a1 = 1
        · rw [if_pos hc] at hf
          refine r_icmp_ne_f (tgt := 88) O dX9_count_78 (by decide) hc ?_
          refine r_aload_n O 0 dX9_count_81 rfl (Or.inl rfl) ?_
          obtain ⟨x16, ex16, hf⟩ := bnd hf
          refine r_gI O cf9 3 (by decide) rfl fl_X9_103 ex16 dX9_count_82 ?_
          refine r_goto (tgt := 148) O dX9_count_85 (by decide) ?_
          obtain rfl := oi1 hf
          refine AW.sub [] rfl ?_
          exact hJ
        · rw [if_neg hc] at hf
          refine r_icmp_ne_t (tgt := 88) O dX9_count_78 (by decide) hc ?_
          refine r_iload_n O 1 dX9_count_88 rfl ?_
          refine r_iconst O (v := 2) dX9_count_89 (by decide) ?_
          by_cases hc : a1 = 2
          · rw [if_pos hc] at hf
            refine r_icmp_ne_f (tgt := 97) O dX9_count_90 (by decide) hc ?_
            refine r_iload_n O 2 dX9_count_93 rfl ?_
            refine r_goto (tgt := 148) O dX9_count_94 (by decide) ?_
            obtain rfl := oi1 hf
            refine AW.sub [] rfl ?_
            exact hJ
          · rw [if_neg hc] at hf
            refine r_icmp_ne_t (tgt := 97) O dX9_count_90 (by decide) hc ?_
            refine r_iload_n O 1 dX9_count_97 rfl ?_
            refine r_iconst O (v := 3) dX9_count_98 (by decide) ?_
            by_cases hc : a1 = 3
            · rw [if_pos hc] at hf
              refine r_icmp_ne_f (tgt := 109) O dX9_count_99 (by decide) hc ?_
              refine r_aload_n O 0 dX9_count_102 rfl (Or.inl rfl) ?_
              obtain ⟨x15, ex15, hf⟩ := bnd hf
              refine r_gI O cf9 17 (by decide) rfl fl_X9_244 ex15 dX9_count_103 ?_
              refine r_goto (tgt := 148) O dX9_count_106 (by decide) ?_
              obtain rfl := oi1 hf
              refine AW.sub [] rfl ?_
              exact hJ
            · rw [if_neg hc] at hf
              refine r_icmp_ne_t (tgt := 109) O dX9_count_99 (by decide) hc ?_
              refine r_iload_n O 1 dX9_count_109 rfl ?_
              refine r_iconst O (v := 4) dX9_count_110 (by decide) ?_
              by_cases hc : a1 = 4
              · rw [if_pos hc] at hf
                refine r_icmp_ne_f (tgt := 121) O dX9_count_111 (by decide) hc ?_
                refine r_aload_n O 0 dX9_count_114 rfl (Or.inl rfl) ?_
                obtain ⟨x14, ex14, hf⟩ := bnd hf
                refine r_gI O cf9 30 (by decide) rfl fl_X9_238 ex14 dX9_count_115 ?_
                refine r_goto (tgt := 148) O dX9_count_118 (by decide) ?_
                obtain rfl := oi1 hf
                refine AW.sub [] rfl ?_
                exact hJ
              · rw [if_neg hc] at hf
                refine r_icmp_ne_t (tgt := 121) O dX9_count_111 (by decide) hc ?_
                refine r_iload_n O 1 dX9_count_121 rfl ?_
                refine r_iconst O (v := 5) dX9_count_122 (by decide) ?_
                by_cases hc : a1 = 5
                · rw [if_pos hc] at hf
                  refine r_icmp_ne_f (tgt := 133) O dX9_count_123 (by decide) hc ?_
                  refine r_aload_n O 0 dX9_count_126 rfl (Or.inl rfl) ?_
                  obtain ⟨x13, ex13, hf⟩ := bnd hf
                  refine r_gI O cf9 31 (by decide) rfl fl_X9_241 ex13 dX9_count_127 ?_
                  refine r_goto (tgt := 148) O dX9_count_130 (by decide) ?_
                  obtain rfl := oi1 hf
                  refine AW.sub [] rfl ?_
                  exact hJ
                · rw [if_neg hc] at hf
                  refine r_icmp_ne_t (tgt := 133) O dX9_count_123 (by decide) hc ?_
                  refine r_aload_n O 0 dX9_count_133 rfl (Or.inl rfl) ?_
                  obtain ⟨x11, ex11, hf⟩ := bnd hf
                  refine r_gI O cf9 15 (by decide) rfl fl_X9_247 ex11 dX9_count_134 ?_
                  by_cases hc : x11 = 0
                  · rw [if_pos hc] at hf
                    refine r_if_eq_t (tgt := 147) O dX9_count_137 (by decide) hc ?_
                    refine r_iconst O (v := 0) dX9_count_147 (by decide) ?_
                    obtain rfl := oi1 hf
                    refine AW.sub [] rfl ?_
                    exact hJ
                  · rw [if_neg hc] at hf
                    refine r_if_eq_f (tgt := 147) O dX9_count_137 (by decide) hc ?_
                    refine r_aload_n O 0 dX9_count_140 rfl (Or.inl rfl) ?_
                    obtain ⟨x12, ex12, hf⟩ := bnd hf
                    refine r_gI O cf9 16 (by decide) rfl fl_X9_250 ex12 dX9_count_141 ?_
                    refine r_goto (tgt := 148) O dX9_count_144 (by decide) ?_
                    obtain rfl := oi1 hf
                    refine AW.sub [] rfl ?_
                    exact hJ
    · rw [if_neg hc] at hf
      refine r_icmp_le_f (tgt := 21) O dX9_count_12 (by decide) hc ?_
      refine r_aload_n O 0 dX9_count_15 rfl (Or.inl rfl) ?_
      refine r_iconst O (v := 1) dX9_count_16 (by decide) ?_
      obtain ⟨⟨x18, h19⟩, ex18, hf⟩ := bnd hf
      dsimp only at hf
      refine r_callV (av := [.int 1]) (st := []) O (c_X9_fail ex18) mf_X9_fail cf9 (kd_X9_fail ex18) ml_X9_106 mi_X9_fail mv_X9_fail (by decide) (Nat.le_of_ble_eq_true rfl) (by decide) dX9_count_17 ?_
      obtain rfl := Option.some.inj hf
      exact r_iret O hr rfl rfl (by decide) (by decide) dX9_count_20
