def f_X9_refuse (h : AH) (a0 : Nat) (a1 : Int32) : Option (Int32 × AH) :=
if aK h a0 = 9 then
Option.bind (gP h 9 a0 11) fun x1 =>
Option.bind (gP h 9 a0 10) fun x2 =>
Option.bind (f_X9_copyInts h x1 0 x2 0 504) fun h4 =>
Option.bind (gI h4 9 a0 31) fun x5 =>
Option.bind (pI h4 9 a0 31 (x5 + 1)) fun h6 =>
some (a1, h6)
else none
theorem kd_X9_refuse {h : AH} {a0 : Nat} {a1 : Int32} {r : (Int32 × AH)} (hf : f_X9_refuse h a0 a1 = some r) : aK h a0 = 9 := by
  unfold f_X9_refuse at hf
  exact (ifk hf).1
set_option maxRecDepth 100000 in
set_option maxHeartbeats 4000000 in
theorem c_X9_refuse {l : Launch} {G : GT} {h : AH} {a0 : Nat} {a1 : Int32} {r : (Int32 × AH)} (hf : f_X9_refuse h a0 a1 = some r) : Cn l yX9_refuse cX9_refuse 2 (some .int) 1 25 0 0 G h [.ref a0, .int a1] (.ok (some (.int r.1))) r.2 := by
  refine Cn.of (by decide) (Nat.le_of_ble_eq_true rfl) ?_
  intro p e s m args below meth c O hr hx hin
  have O : OkC p l s m args meth c G cX9_refuse 2 RX9 := O
  unfold f_X9_refuse at hf
  obtain ⟨hk0, hf⟩ := ifk hf
  refine AW.sub (lv' := [(0, .ref a0), (1, .int a1)]) [0, 1] rfl ?_
  refine r_aload_n O 0 dX9_refuse_0 rfl (Or.inl rfl) ?_
  obtain ⟨x1, ex1, hf⟩ := bnd hf
  refine r_gP O cf9 11 (by decide) rfl fl_X9_36 ex1 dX9_refuse_1 ?_
  refine r_iconst O (v := 0) dX9_refuse_4 (by decide) ?_
  refine r_aload_n O 0 dX9_refuse_5 rfl (Or.inl rfl) ?_
  obtain ⟨x2, ex2, hf⟩ := bnd hf
  refine r_gP O cf9 10 (by decide) rfl fl_X9_33 ex2 dX9_refuse_6 ?_
  refine r_iconst O (v := 0) dX9_refuse_9 (by decide) ?_
  refine r_sipush O (v := 504) dX9_refuse_10 (by decide) ?_
  obtain ⟨h4, eh4, hf⟩ := bnd hf
  refine r_callS (av := [.ref x1, .int 0, .ref x2, .int 0, .int 504]) (st := []) O (c_X9_copyInts eh4) mf_X9_copyInts ml_X9_96 ms_X9_copyInts (by decide) (Nat.le_of_ble_eq_true rfl) (by decide) dX9_refuse_13 ?_
  refine r_aload_n O 0 dX9_refuse_16 rfl (Or.inl rfl) ?_
  refine r_dup O dX9_refuse_17 rfl ?_
  obtain ⟨x5, ex5, hf⟩ := bnd hf
  refine r_gI O cf9 31 (by decide) rfl fl_X9_241 ex5 dX9_refuse_18 ?_
  refine r_iconst O (v := 1) dX9_refuse_21 (by decide) ?_
  refine r_iadd O dX9_refuse_22 ?_
  obtain ⟨h6, eh6, hf⟩ := bnd hf
  refine r_pI O cf9 31 (by decide) rfl fl_X9_241 rfl eh6 dX9_refuse_23 ?_
  refine r_iload_n O 1 dX9_refuse_26 rfl ?_
  obtain rfl := Option.some.inj hf
  exact r_iret O hr rfl rfl (by decide) (by decide) dX9_refuse_27
def f_X9_valueOf (h : AH) (a0 : Nat) (a1 : Nat) (a2 : Nat) (a3 : Int32) (a4 : Int32) : Option Int64 :=
if aK h a0 = 9 then
if a3 < 5000 then
if a3 < 4000 then
if a3 < 3000 then
if a3 < 2000 then
Option.bind (if a3 < 1000 then
some (0 : Int64)
else
Option.bind (ldI h a1 ((0 + a3) - 1000)) fun x2 =>
some x2.toInt64) fun x1 =>
some x1
else
Option.bind (ldI h a1 ((160 + a3) - 2000)) fun x3 =>
some x3.toInt64
else
Option.bind (f_X9_placeOf h a1 a4) fun x4 =>
some x4.toInt64
else
Option.bind (ldI h a1 ((492 + a3) - 4000)) fun x6 =>
some x6.toInt64
else
Option.bind (f_X9_isCell h a0 a1 (a3 - 5000)) fun x7 =>
Option.bind (if x7 = 0 then
some (0 : Int64)
else
Option.bind (ldJ h a2 (a3 - 5000)) fun x10 =>
some x10) fun x9 =>
some x9
else none
theorem kd_X9_valueOf {h : AH} {a0 : Nat} {a1 : Nat} {a2 : Nat} {a3 : Int32} {a4 : Int32} {r : Int64} (hf : f_X9_valueOf h a0 a1 a2 a3 a4 = some r) : aK h a0 = 9 := by
  unfold f_X9_valueOf at hf
  exact (ifk hf).1
set_option maxRecDepth 100000 in
set_option maxHeartbeats 4000000 in
theorem c_X9_valueOf {l : Launch} {G : GT} {h : AH} {a0 : Nat} {a1 : Nat} {a2 : Nat} {a3 : Int32} {a4 : Int32} {r : Int64} (hf : f_X9_valueOf h a0 a1 a2 a3 a4 = some r) : Cn l yX9_valueOf cX9_valueOf 5 (some .long) 2 42 0 0 G h [.ref a0, .ref a1, .ref a2, .int a3, .int a4] (.ok (some (.long r))) h := by
  refine Cn.of (by decide) (Nat.le_of_ble_eq_true rfl) ?_
  intro p e s m args below meth c O hr hx hin
  have O : OkC p l s m args meth c G cX9_valueOf 5 RX9 := O
  unfold f_X9_valueOf at hf
  obtain ⟨hk0, hf⟩ := ifk hf
  refine AW.sub (lv' := [(0, .ref a0), (1, .ref a1), (2, .ref a2), (3, .int a3), (4, .int a4)]) [0, 1, 2, 3, 4] rfl ?_
  refine r_iload_n O 3 dX9_valueOf_0 rfl ?_
  refine r_sipush O (v := 5000) dX9_valueOf_1 (by decide) ?_
  by_cases hc : a3 < 5000
  · rw [if_pos hc] at hf
    refine r_icmp_lt_t (tgt := 32) O dX9_valueOf_4 (by decide) hc ?_
    refine r_iload_n O 3 dX9_valueOf_32 rfl ?_
    refine r_sipush O (v := 4000) dX9_valueOf_33 (by decide) ?_
    by_cases hc : a3 < 4000
    · rw [if_pos hc] at hf
      refine r_icmp_lt_t (tgt := 52) O dX9_valueOf_36 (by decide) hc ?_
      refine r_iload_n O 3 dX9_valueOf_52 rfl ?_
      refine r_sipush O (v := 3000) dX9_valueOf_53 (by decide) ?_
      by_cases hc : a3 < 3000
      · rw [if_pos hc] at hf
        refine r_icmp_lt_t (tgt := 67) O dX9_valueOf_56 (by decide) hc ?_
        refine r_iload_n O 3 dX9_valueOf_67 rfl ?_
        refine r_sipush O (v := 2000) dX9_valueOf_68 (by decide) ?_
        by_cases hc : a3 < 2000
        · rw [if_pos hc] at hf
          refine r_icmp_lt_t (tgt := 87) O dX9_valueOf_71 (by decide) hc ?_
          refine r_iload_n O 3 dX9_valueOf_87 rfl ?_
          refine r_sipush O (v := 1000) dX9_valueOf_88 (by decide) ?_
          obtain ⟨x1, hg, hf⟩ := bnd hf
          have hJ : AW p l e { frames := 2, cells := 0, slots := 0, locals := 42 } s m args below meth c G 5 (vx_MQ below (QcN G (.ok (some (.long r))) h) (XcN G (.ok (some (.long r))) h) args s 0 0 (gA G)) h 0 0 108 [] [.long x1] := by
            obtain rfl := Option.some.inj hf
            exact r_lret O hr rfl rfl (by decide) (by decide) dX9_valueOf_108
          clear hf
          have hf := hg
          clear hg
          by_cases hc : a3 < 1000
          · rw [if_pos hc] at hf
            refine r_icmp_lt_t (tgt := 107) O dX9_valueOf_91 (by decide) hc ?_
            refine r_lconst O (v := 0) dX9_valueOf_107 (by decide) ?_
            obtain rfl := oi1 hf
            refine AW.sub [] rfl ?_
            exact hJ
          · rw [if_neg hc] at hf
            refine r_icmp_lt_f (tgt := 107) O dX9_valueOf_91 (by decide) hc ?_
            refine r_aload_n O 1 dX9_valueOf_94 rfl (Or.inl rfl) ?_
            refine r_iconst O (v := 0) dX9_valueOf_95 (by decide) ?_
            refine r_iload_n O 3 dX9_valueOf_96 rfl ?_
            refine r_iadd O dX9_valueOf_97 ?_
            refine r_sipush O (v := 1000) dX9_valueOf_98 (by decide) ?_
            refine r_isub O dX9_valueOf_101 ?_
            obtain ⟨x2, ex2, hf⟩ := bnd hf
            refine r_ldI O ex2 dX9_valueOf_102 ?_
            refine r_i2l O dX9_valueOf_103 ?_
            refine r_goto (tgt := 108) O dX9_valueOf_104 (by decide) ?_
            obtain rfl := oi1 hf
            refine AW.sub [] rfl ?_
            exact hJ
        · rw [if_neg hc] at hf
          refine r_icmp_lt_f (tgt := 87) O dX9_valueOf_71 (by decide) hc ?_
          refine r_aload_n O 1 dX9_valueOf_74 rfl (Or.inl rfl) ?_
          refine r_sipush O (v := 160) dX9_valueOf_75 (by decide) ?_
          refine r_iload_n O 3 dX9_valueOf_78 rfl ?_
          refine r_iadd O dX9_valueOf_79 ?_
          refine r_sipush O (v := 2000) dX9_valueOf_80 (by decide) ?_
          refine r_isub O dX9_valueOf_83 ?_
          obtain ⟨x3, ex3, hf⟩ := bnd hf
          refine r_ldI O ex3 dX9_valueOf_84 ?_
          refine r_i2l O dX9_valueOf_85 ?_
          obtain rfl := Option.some.inj hf
          exact r_lret O hr rfl rfl (by decide) (by decide) dX9_valueOf_86
      · rw [if_neg hc] at hf
        refine r_icmp_lt_f (tgt := 67) O dX9_valueOf_56 (by decide) hc ?_
        refine r_aload_n O 1 dX9_valueOf_59 rfl (Or.inl rfl) ?_
        refine r_iload O 4 dX9_valueOf_60 rfl ?_
        obtain ⟨x4, ex4, hf⟩ := bnd hf
        refine r_callS (av := [.ref a1, .int a4]) (st := []) O (c_X9_placeOf ex4) mf_X9_placeOf ml_X9_133 ms_X9_placeOf (by decide) (Nat.le_of_ble_eq_true rfl) (by decide) dX9_valueOf_62 ?_
        refine r_i2l O dX9_valueOf_65 ?_
        obtain rfl := Option.some.inj hf
        exact r_lret O hr rfl rfl (by decide) (by decide) dX9_valueOf_66
    · rw [if_neg hc] at hf
      refine r_icmp_lt_f (tgt := 52) O dX9_valueOf_36 (by decide) hc ?_
      refine r_aload_n O 1 dX9_valueOf_39 rfl (Or.inl rfl) ?_
      refine r_sipush O (v := 492) dX9_valueOf_40 (by decide) ?_
      refine r_iload_n O 3 dX9_valueOf_43 rfl ?_
      refine r_iadd O dX9_valueOf_44 ?_
      refine r_sipush O (v := 4000) dX9_valueOf_45 (by decide) ?_
      refine r_isub O dX9_valueOf_48 ?_
      obtain ⟨x6, ex6, hf⟩ := bnd hf
      refine r_ldI O ex6 dX9_valueOf_49 ?_
      refine r_i2l O dX9_valueOf_50 ?_
      obtain rfl := Option.some.inj hf
      exact r_lret O hr rfl rfl (by decide) (by decide) dX9_valueOf_51
  · rw [if_neg hc] at hf
    refine r_icmp_lt_f (tgt := 32) O dX9_valueOf_4 (by decide) hc ?_
    refine r_aload_n O 0 dX9_valueOf_7 rfl (Or.inl rfl) ?_
    refine r_aload_n O 1 dX9_valueOf_8 rfl (Or.inl rfl) ?_
    refine r_iload_n O 3 dX9_valueOf_9 rfl ?_
    refine r_sipush O (v := 5000) dX9_valueOf_10 (by decide) ?_
    refine r_isub O dX9_valueOf_13 ?_
    obtain ⟨x7, ex7, hf⟩ := bnd hf
    refine r_callV (av := [.ref a1, .int (a3 - 5000)]) (st := []) O (c_X9_isCell ex7) mf_X9_isCell cf9 (kd_X9_isCell ex7) ml_X9_162 mi_X9_isCell mv_X9_isCell (by decide) (Nat.le_of_ble_eq_true rfl) (by decide) dX9_valueOf_14 ?_
    obtain ⟨x9, hg, hf⟩ := bnd hf
    have hJ : AW p l e { frames := 2, cells := 0, slots := 0, locals := 42 } s m args below meth c G 5 (vx_MQ below (QcN G (.ok (some (.long r))) h) (XcN G (.ok (some (.long r))) h) args s 0 0 (gA G)) h 0 0 31 [] [.long x9] := by
      obtain rfl := Option.some.inj hf
      exact r_lret O hr rfl rfl (by decide) (by decide) dX9_valueOf_31
    clear hf
    have hf := hg
    clear hg
    by_cases hc : x7 = 0
    · rw [if_pos hc] at hf
      refine r_if_eq_t (tgt := 30) O dX9_valueOf_17 (by decide) hc ?_
      refine r_lconst O (v := 0) dX9_valueOf_30 (by decide) ?_
      obtain rfl := oi1 hf
      refine AW.sub [] rfl ?_
      exact hJ
    · rw [if_neg hc] at hf
      refine r_if_eq_f (tgt := 30) O dX9_valueOf_17 (by decide) hc ?_
      refine r_aload_n O 2 dX9_valueOf_20 rfl (Or.inl rfl) ?_
      refine r_iload_n O 3 dX9_valueOf_21 rfl ?_
      refine r_sipush O (v := 5000) dX9_valueOf_22 (by decide) ?_
      refine r_isub O dX9_valueOf_25 ?_
      obtain ⟨x10, ex10, hf⟩ := bnd hf
      refine r_ldJ O ex10 dX9_valueOf_26 ?_
      refine r_goto (tgt := 31) O dX9_valueOf_27 (by decide) ?_
      obtain rfl := oi1 hf
      refine AW.sub [] rfl ?_
      exact hJ
def f_X9_isTouched_93 (l0 : Nat) (l3 : Int32) (n : Nat) (h : AH) (l4 : Int32) : Option ((Int32 × AH) ⊕ Unit) := match n with
| 0 => none
| n + 1 =>
Option.bind (gI h 9 l0 32) fun x24 =>
if x24 ≤ l4 then
some (.inr ())
else
Option.bind (gP h 9 l0 33) fun x25 =>
Option.bind (ldI h x25 l4) fun x26 =>
Option.bind (gP h 9 l0 35) fun x27 =>
Option.bind (ldI h x27 l4) fun x28 =>
if x26 = x28 then
Option.bind (gP h 9 l0 10) fun x29 =>
Option.bind (gP h 9 l0 14) fun x30 =>
Option.bind (gP h 9 l0 33) fun x31 =>
Option.bind (ldI h x31 l4) fun x32 =>
Option.bind (f_X9_valueOf h l0 x29 x30 x32 l3) fun x33 =>
Option.bind (gP h 9 l0 11) fun x35 =>
Option.bind (gP h 9 l0 13) fun x36 =>
Option.bind (gP h 9 l0 33) fun x37 =>
Option.bind (ldI h x37 l4) fun x38 =>
Option.bind (f_X9_valueOf h l0 x35 x36 x38 l3) fun x39 =>
if (lg_cmp x33 x39) = 0 then
f_X9_isTouched_93 l0 l3 n h (l4 + 1)
else
some (.inl (1, h))
else
some (.inl (1, h))
def f_X9_isTouched (h : AH) (a0 : Nat) (a1 : Int32) (a2 : Int32) : Option (Int32 × AH) :=
if aK h a0 = 9 then
if a2 = 0 then
Option.bind (gP h 9 a0 11) fun x1 =>
Option.bind (f_X9_isCell h a0 x1 a1) fun x2 =>
if x2 = 0 then
some (1, h)
else
Option.bind (gP h 9 a0 11) fun x4 =>
Option.bind (f_X9_isFrozen h x4 a1) fun x5 =>
if x5 = 0 then
Option.bind (gP h 9 a0 11) fun x7 =>
Option.bind (f_X9_lookAt h a0 x7 a1) fun h9 =>
Option.bind (gI h9 9 a0 32) fun x10 =>
Option.bind (pI h9 9 a0 34 x10) fun h11 =>
Option.bind (gP h11 9 a0 33) fun x12 =>
Option.bind (gP h11 9 a0 35) fun x13 =>
Option.bind (gI h11 9 a0 32) fun x14 =>
Option.bind (f_X9_copyInts h11 x12 0 x13 0 x14) fun h16 =>
Option.bind (gP h16 9 a0 10) fun x17 =>
Option.bind (f_X9_lookAt h16 a0 x17 a1) fun h19 =>
Option.bind (gI h19 9 a0 32) fun x20 =>
Option.bind (gI h19 9 a0 34) fun x21 =>
if x20 = x21 then
Option.bind (f_X9_ownerOf h19 a1) fun x22 =>
Option.bind (f_X9_isTouched_93 a0 x22 FU h19 0) fun w => match w with
| .inl r9 => some r9
| .inr () =>
some (0, h19)
else
some (1, h19)
else
some (1, h)
else
some (1, h)
else none
set_option maxRecDepth 100000 in
set_option maxHeartbeats 4000000 in
theorem s_X9_isTouched_93 {p : Program} {l : Launch} {e : Env} {s : State} {m : MethodId} {args : Array Value} {below : List Frame} {meth : Method} {c : Code} {G : GT} {o : Except Nat (Option Value)} {h9 : AH} (O : OkC p l s m args meth c G cX9_isTouched 5 RX9) (hr : meth.sig.returnType = (some .boolean)) {l0 : Nat} {l3 : Int32} {h : AH} {w : ((Int32 × AH) ⊕ Unit)} (he : ∀ r, w = .inl r → o = (.ok (some (.int r.1))) ∧ h9 = r.2) (kk : w = .inr () → AW p l e { frames := 4, cells := 0, slots := 0, locals := 93 } s m args below meth c G 5 (vx_MQ below (QcN G o h9) (XcN G o h9) args s 0 0 (gA G)) h 0 0 171 [] []) : ∀ (n : Nat), ∀ (l4 : Int32), f_X9_isTouched_93 l0 l3 n h l4 = some w → AW p l e { frames := 4, cells := 0, slots := 0, locals := 93 } s m args below meth c G 5 (vx_MQ below (QcN G o h9) (XcN G o h9) args s 0 0 (gA G)) h 0 0 93 [(0, .ref l0), (3, .int l3), (4, .int l4)] [] := by
  intro n
  induction n with
  | zero =>
    intro l4 hf
    simp [f_X9_isTouched_93] at hf
  | succ n ih =>
    intro l4 hf
    unfold f_X9_isTouched_93 at hf
    refine r_iload O 2 dX9_isTouched_93 rfl ?_
    refine r_aload_n O 0 dX9_isTouched_95 rfl (Or.inl rfl) ?_
    obtain ⟨x24, ex24, hf⟩ := bnd hf
    refine r_gI O cf9 32 (by decide) rfl fl_X9_141 ex24 dX9_isTouched_96 ?_
    by_cases hc : x24 ≤ l4
    · rw [if_pos hc] at hf
      refine r_icmp_ge_t (tgt := 171) O dX9_isTouched_99 (by decide) hc ?_
      obtain rfl := Option.some.inj hf
      refine AW.sub [] rfl ?_
      exact kk  rfl
    · rw [if_neg hc] at hf
      refine r_icmp_ge_f (tgt := 171) O dX9_isTouched_99 (by decide) hc ?_
      refine r_aload_n O 0 dX9_isTouched_102 rfl (Or.inl rfl) ?_
      obtain ⟨x25, ex25, hf⟩ := bnd hf
      refine r_gP O cf9 33 (by decide) rfl fl_X9_73 ex25 dX9_isTouched_103 ?_
      refine r_iload O 2 dX9_isTouched_106 rfl ?_
      obtain ⟨x26, ex26, hf⟩ := bnd hf
      refine r_ldI O ex26 dX9_isTouched_108 ?_
      refine r_aload_n O 0 dX9_isTouched_109 rfl (Or.inl rfl) ?_
      obtain ⟨x27, ex27, hf⟩ := bnd hf
      refine r_gP O cf9 35 (by decide) rfl fl_X9_76 ex27 dX9_isTouched_110 ?_
      refine r_iload O 2 dX9_isTouched_113 rfl ?_
      obtain ⟨x28, ex28, hf⟩ := bnd hf
      refine r_ldI O ex28 dX9_isTouched_115 ?_
      by_cases hc : x26 = x28
      · rw [if_pos hc] at hf
        refine r_icmp_ne_f (tgt := 163) O dX9_isTouched_116 (by decide) hc ?_
        refine r_aload_n O 0 dX9_isTouched_119 rfl (Or.inl rfl) ?_
        refine r_aload_n O 0 dX9_isTouched_120 rfl (Or.inl rfl) ?_
        obtain ⟨x29, ex29, hf⟩ := bnd hf
        refine r_gP O cf9 10 (by decide) rfl fl_X9_33 ex29 dX9_isTouched_121 ?_
        refine r_aload_n O 0 dX9_isTouched_124 rfl (Or.inl rfl) ?_
        obtain ⟨x30, ex30, hf⟩ := bnd hf
        refine r_gP O cf9 14 (by decide) rfl fl_X9_46 ex30 dX9_isTouched_125 ?_
        refine r_aload_n O 0 dX9_isTouched_128 rfl (Or.inl rfl) ?_
        obtain ⟨x31, ex31, hf⟩ := bnd hf
        refine r_gP O cf9 33 (by decide) rfl fl_X9_73 ex31 dX9_isTouched_129 ?_
        refine r_iload O 2 dX9_isTouched_132 rfl ?_
        obtain ⟨x32, ex32, hf⟩ := bnd hf
        refine r_ldI O ex32 dX9_isTouched_134 ?_
        refine r_iload_n O 1 dX9_isTouched_135 rfl ?_
        obtain ⟨x33, ex33, hf⟩ := bnd hf
        refine r_callV (av := [.ref x29, .ref x30, .int x32, .int l3]) (st := []) O (c_X9_valueOf ex33) mf_X9_valueOf cf9 (kd_X9_valueOf ex33) ml_X9_188 mi_X9_valueOf mv_X9_valueOf (by decide) (Nat.le_of_ble_eq_true rfl) (by decide) dX9_isTouched_136 ?_
        refine r_aload_n O 0 dX9_isTouched_139 rfl (Or.inl rfl) ?_
        refine r_aload_n O 0 dX9_isTouched_140 rfl (Or.inl rfl) ?_
        obtain ⟨x35, ex35, hf⟩ := bnd hf
        refine r_gP O cf9 11 (by decide) rfl fl_X9_36 ex35 dX9_isTouched_141 ?_
        refine r_aload_n O 0 dX9_isTouched_144 rfl (Or.inl rfl) ?_
        obtain ⟨x36, ex36, hf⟩ := bnd hf
        refine r_gP O cf9 13 (by decide) rfl fl_X9_42 ex36 dX9_isTouched_145 ?_
        refine r_aload_n O 0 dX9_isTouched_148 rfl (Or.inl rfl) ?_
        obtain ⟨x37, ex37, hf⟩ := bnd hf
        refine r_gP O cf9 33 (by decide) rfl fl_X9_73 ex37 dX9_isTouched_149 ?_
        refine r_iload O 2 dX9_isTouched_152 rfl ?_
        obtain ⟨x38, ex38, hf⟩ := bnd hf
        refine r_ldI O ex38 dX9_isTouched_154 ?_
        refine r_iload_n O 1 dX9_isTouched_155 rfl ?_
        obtain ⟨x39, ex39, hf⟩ := bnd hf
        refine r_callV (av := [.ref x35, .ref x36, .int x38, .int l3]) (st := [.long x33]) O (c_X9_valueOf ex39) mf_X9_valueOf cf9 (kd_X9_valueOf ex39) ml_X9_188 mi_X9_valueOf mv_X9_valueOf (by decide) (Nat.le_of_ble_eq_true rfl) (by decide) dX9_isTouched_156 ?_
        refine r_lcmp O dX9_isTouched_159 ?_
        by_cases hc : (lg_cmp x33 x39) = 0
        · rw [if_pos hc] at hf
          refine r_if_eq_t (tgt := 165) O dX9_isTouched_160 (by decide) hc ?_
          refine r_iinc O 2 [(4, .int (l4 + 1)), (0, .ref l0), (3, .int l3)] dX9_isTouched_165 rfl rfl (by decide) rfl ?_
          refine r_goto (tgt := 93) O dX9_isTouched_168 (by decide) ?_
          refine AW.sub [1, 2, 0] rfl ?_
          exact ih _ hf
        · rw [if_neg hc] at hf
          refine r_if_eq_f (tgt := 165) O dX9_isTouched_160 (by decide) hc ?_
          refine r_iconst O (v := 1) dX9_isTouched_163 (by decide) ?_
          obtain rfl := Option.some.inj hf
          obtain ⟨ho, hh⟩ := he _ rfl
          exact r_zret O hr (by decide) ho hh.symm (by decide) (by decide) dX9_isTouched_164
      · rw [if_neg hc] at hf
        refine r_icmp_ne_t (tgt := 163) O dX9_isTouched_116 (by decide) hc ?_
        refine r_iconst O (v := 1) dX9_isTouched_163 (by decide) ?_
        obtain rfl := Option.some.inj hf
        obtain ⟨ho, hh⟩ := he _ rfl
        exact r_zret O hr (by decide) ho hh.symm (by decide) (by decide) dX9_isTouched_164
theorem kd_X9_isTouched {h : AH} {a0 : Nat} {a1 : Int32} {a2 : Int32} {r : (Int32 × AH)} (hf : f_X9_isTouched h a0 a1 a2 = some r) : aK h a0 = 9 := by
  unfold f_X9_isTouched at hf
  exact (ifk hf).1
set_option maxRecDepth 100000 in
set_option maxHeartbeats 4000000 in
theorem c_X9_isTouched {l : Launch} {G : GT} {h : AH} {a0 : Nat} {a1 : Int32} {a2 : Int32} {r : (Int32 × AH)} (hf : f_X9_isTouched h a0 a1 a2 = some r) : Cn l yX9_isTouched cX9_isTouched 5 (some .boolean) 4 93 0 0 G h [.ref a0, .int a1, .int a2] (.ok (some (.int r.1))) r.2 := by
  refine Cn.of (by decide) (Nat.le_of_ble_eq_true rfl) ?_
  intro p e s m args below meth c O hr hx hin
  have O : OkC p l s m args meth c G cX9_isTouched 5 RX9 := O
  unfold f_X9_isTouched at hf
  obtain ⟨hk0, hf⟩ := ifk hf
  refine AW.sub (lv' := [(0, .ref a0), (1, .int a1), (2, .int a2)]) [0, 1, 2] rfl ?_
  refine r_iload_n O 2 dX9_isTouched_0 rfl ?_
  by_cases hc : a2 = 0
  · rw [if_pos hc] at hf
    refine r_if_ne_f (tgt := 27) O dX9_isTouched_1 (by decide) hc ?_
    refine r_aload_n O 0 dX9_isTouched_4 rfl (Or.inl rfl) ?_
    refine r_aload_n O 0 dX9_isTouched_5 rfl (Or.inl rfl) ?_
    obtain ⟨x1, ex1, hf⟩ := bnd hf
    refine r_gP O cf9 11 (by decide) rfl fl_X9_36 ex1 dX9_isTouched_6 ?_
    refine r_iload_n O 1 dX9_isTouched_9 rfl ?_
    obtain ⟨x2, ex2, hf⟩ := bnd hf
    refine r_callV (av := [.ref x1, .int a1]) (st := []) O (c_X9_isCell ex2) mf_X9_isCell cf9 (kd_X9_isCell ex2) ml_X9_162 mi_X9_isCell mv_X9_isCell (by decide) (Nat.le_of_ble_eq_true rfl) (by decide) dX9_isTouched_10 ?_
    by_cases hc : x2 = 0
    · rw [if_pos hc] at hf
      refine r_if_eq_t (tgt := 27) O dX9_isTouched_13 (by decide) hc ?_
      refine r_iconst O (v := 1) dX9_isTouched_27 (by decide) ?_
      obtain rfl := Option.some.inj hf
      exact r_zret O hr (by decide) rfl rfl (by decide) (by decide) dX9_isTouched_28
    · rw [if_neg hc] at hf
      refine r_if_eq_f (tgt := 27) O dX9_isTouched_13 (by decide) hc ?_
      refine r_aload_n O 0 dX9_isTouched_16 rfl (Or.inl rfl) ?_
      obtain ⟨x4, ex4, hf⟩ := bnd hf
      refine r_gP O cf9 11 (by decide) rfl fl_X9_36 ex4 dX9_isTouched_17 ?_
      refine r_iload_n O 1 dX9_isTouched_20 rfl ?_
      obtain ⟨x5, ex5, hf⟩ := bnd hf
      refine r_callS (av := [.ref x4, .int a1]) (st := []) O (c_X9_isFrozen ex5) mf_X9_isFrozen ml_X9_148 ms_X9_isFrozen (by decide) (Nat.le_of_ble_eq_true rfl) (by decide) dX9_isTouched_21 ?_
      by_cases hc : x5 = 0
      · rw [if_pos hc] at hf
        refine r_if_eq_t (tgt := 29) O dX9_isTouched_24 (by decide) hc ?_
        refine r_aload_n O 0 dX9_isTouched_29 rfl (Or.inl rfl) ?_
        refine r_aload_n O 0 dX9_isTouched_30 rfl (Or.inl rfl) ?_
        obtain ⟨x7, ex7, hf⟩ := bnd hf
        refine r_gP O cf9 11 (by decide) rfl fl_X9_36 ex7 dX9_isTouched_31 ?_
        refine r_iload_n O 1 dX9_isTouched_34 rfl ?_
        obtain ⟨h9, eh9, hf⟩ := bnd hf
        refine r_callV (av := [.ref x7, .int a1]) (st := []) O (c_X9_lookAt eh9) mf_X9_lookAt cf9 (kd_X9_lookAt eh9) ml_X9_165 mi_X9_lookAt mv_X9_lookAt (by decide) (Nat.le_of_ble_eq_true rfl) (by decide) dX9_isTouched_35 ?_
        refine r_aload_n O 0 dX9_isTouched_38 rfl (Or.inl rfl) ?_
        refine r_aload_n O 0 dX9_isTouched_39 rfl (Or.inl rfl) ?_
        obtain ⟨x10, ex10, hf⟩ := bnd hf
        refine r_gI O cf9 32 (by decide) rfl fl_X9_141 ex10 dX9_isTouched_40 ?_
        obtain ⟨h11, eh11, hf⟩ := bnd hf
        refine r_pI O cf9 34 (by decide) rfl fl_X9_200 rfl eh11 dX9_isTouched_43 ?_
        refine r_aload_n O 0 dX9_isTouched_46 rfl (Or.inl rfl) ?_
        obtain ⟨x12, ex12, hf⟩ := bnd hf
        refine r_gP O cf9 33 (by decide) rfl fl_X9_73 ex12 dX9_isTouched_47 ?_
        refine r_iconst O (v := 0) dX9_isTouched_50 (by decide) ?_
        refine r_aload_n O 0 dX9_isTouched_51 rfl (Or.inl rfl) ?_
        obtain ⟨x13, ex13, hf⟩ := bnd hf
        refine r_gP O cf9 35 (by decide) rfl fl_X9_76 ex13 dX9_isTouched_52 ?_
        refine r_iconst O (v := 0) dX9_isTouched_55 (by decide) ?_
        refine r_aload_n O 0 dX9_isTouched_56 rfl (Or.inl rfl) ?_
        obtain ⟨x14, ex14, hf⟩ := bnd hf
        refine r_gI O cf9 32 (by decide) rfl fl_X9_141 ex14 dX9_isTouched_57 ?_
        obtain ⟨h16, eh16, hf⟩ := bnd hf
        refine r_callS (av := [.ref x12, .int 0, .ref x13, .int 0, .int x14]) (st := []) O (c_X9_copyInts eh16) mf_X9_copyInts ml_X9_96 ms_X9_copyInts (by decide) (Nat.le_of_ble_eq_true rfl) (by decide) dX9_isTouched_60 ?_
        refine r_aload_n O 0 dX9_isTouched_63 rfl (Or.inl rfl) ?_
        refine r_aload_n O 0 dX9_isTouched_64 rfl (Or.inl rfl) ?_
        obtain ⟨x17, ex17, hf⟩ := bnd hf
        refine r_gP O cf9 10 (by decide) rfl fl_X9_33 ex17 dX9_isTouched_65 ?_
        refine r_iload_n O 1 dX9_isTouched_68 rfl ?_
        obtain ⟨h19, eh19, hf⟩ := bnd hf
        refine r_callV (av := [.ref x17, .int a1]) (st := []) O (c_X9_lookAt eh19) mf_X9_lookAt cf9 (kd_X9_lookAt eh19) ml_X9_165 mi_X9_lookAt mv_X9_lookAt (by decide) (Nat.le_of_ble_eq_true rfl) (by decide) dX9_isTouched_69 ?_
        refine r_aload_n O 0 dX9_isTouched_72 rfl (Or.inl rfl) ?_
        obtain ⟨x20, ex20, hf⟩ := bnd hf
        refine r_gI O cf9 32 (by decide) rfl fl_X9_141 ex20 dX9_isTouched_73 ?_
        refine r_aload_n O 0 dX9_isTouched_76 rfl (Or.inl rfl) ?_
        obtain ⟨x21, ex21, hf⟩ := bnd hf
        refine r_gI O cf9 34 (by decide) rfl fl_X9_200 ex21 dX9_isTouched_77 ?_
        by_cases hc : x20 = x21
        · rw [if_pos hc] at hf
          refine r_icmp_eq_t (tgt := 85) O dX9_isTouched_80 (by decide) hc ?_
          refine r_iload_n O 1 dX9_isTouched_85 rfl ?_
          obtain ⟨x22, ex22, hf⟩ := bnd hf
          refine r_callS (av := [.int a1]) (st := []) O (c_X9_ownerOf ex22) mf_X9_ownerOf ml_X9_130 ms_X9_ownerOf (by decide) (Nat.le_of_ble_eq_true rfl) (by decide) dX9_isTouched_86 ?_
          refine r_istore_n O [(3, .int x22), (0, .ref a0), (1, .int a1), (2, .int a2)] dX9_isTouched_89 (by decide) rfl ?_
          refine r_iconst O (v := 0) dX9_isTouched_90 (by decide) ?_
          refine r_istore O [(4, .int 0), (3, .int x22), (0, .ref a0), (1, .int a1), (2, .int a2)] dX9_isTouched_91 (by decide) rfl ?_
          obtain ⟨w9, hw, hf⟩ := bnd hf
          refine AW.sub [2, 1, 0] rfl ?_
          refine s_X9_isTouched_93 O hr (w := w9) ?_ ?_ _ _ hw
          · intro r9 hr9
            subst hr9
            dsimp only at hf
            obtain rfl := Option.some.inj hf
            exact ⟨rfl, rfl⟩
          · intro hw9
            subst hw9
            dsimp only at hf
            refine r_iconst O (v := 0) dX9_isTouched_171 (by decide) ?_
            obtain rfl := Option.some.inj hf
            exact r_zret O hr (by decide) rfl rfl (by decide) (by decide) dX9_isTouched_172
        · rw [if_neg hc] at hf
          refine r_icmp_eq_f (tgt := 85) O dX9_isTouched_80 (by decide) hc ?_
          refine r_iconst O (v := 1) dX9_isTouched_83 (by decide) ?_
          obtain rfl := Option.some.inj hf
          exact r_zret O hr (by decide) rfl rfl (by decide) (by decide) dX9_isTouched_84
      · rw [if_neg hc] at hf
        refine r_if_eq_f (tgt := 29) O dX9_isTouched_24 (by decide) hc ?_
        refine r_iconst O (v := 1) dX9_isTouched_27 (by decide) ?_
        obtain rfl := Option.some.inj hf
        exact r_zret O hr (by decide) rfl rfl (by decide) (by decide) dX9_isTouched_28
  · rw [if_neg hc] at hf
    refine r_if_ne_t (tgt := 27) O dX9_isTouched_1 (by decide) hc ?_
    refine r_iconst O (v := 1) dX9_isTouched_27 (by decide) ?_
    obtain rfl := Option.some.inj hf
    exact r_zret O hr (by decide) rfl rfl (by decide) (by decide) dX9_isTouched_28
def f_X9_bounded (h : AH) (a0 : Nat) (a1 : Int64) : Option (Int64 × AH) :=
if aK h a0 = 9 then
Option.bind (if (lg_cmp a1 (-1000000000000000)) < 0 then
Option.bind (pI h 9 a0 28 3) fun h2 =>
some h2
else
if (lg_cmp a1 1000000000000000) ≤ 0 then
some h
else
Option.bind (pI h 9 a0 28 3) fun h3 =>
some h3) fun h1 =>
some (a1, h1)
else none
theorem kd_X9_bounded {h : AH} {a0 : Nat} {a1 : Int64} {r : (Int64 × AH)} (hf : f_X9_bounded h a0 a1 = some r) : aK h a0 = 9 := by
  unfold f_X9_bounded at hf
  exact (ifk hf).1
set_option maxRecDepth 100000 in
set_option maxHeartbeats 4000000 in
theorem c_X9_bounded {l : Launch} {G : GT} {h : AH} {a0 : Nat} {a1 : Int64} {r : (Int64 × AH)} (hf : f_X9_bounded h a0 a1 = some r) : Cn l yX9_bounded cX9_bounded 3 (some .long) 0 0 0 0 G h [.ref a0, .long a1] (.ok (some (.long r.1))) r.2 := by
  refine Cn.of (by decide) (Nat.le_of_ble_eq_true rfl) ?_
  intro p e s m args below meth c O hr hx hin
  have O : OkC p l s m args meth c G cX9_bounded 3 RX9 := O
  unfold f_X9_bounded at hf
  obtain ⟨hk0, hf⟩ := ifk hf
  refine AW.sub (lv' := [(0, .ref a0), (1, .long a1)]) [0, 1] rfl ?_
  refine r_lload_n O 1 dX9_bounded_0 rfl ?_
  refine r_ldc2 O cl_X9_184 dX9_bounded_1 ?_
  refine r_lcmp O dX9_bounded_4 ?_
  obtain ⟨h1, hg, hf⟩ := bnd hf
  have hJ : AW p l e { frames := 0, cells := 0, slots := 0, locals := 0 } s m args below meth c G 3 (vx_MQ below (QcN G (.ok (some (.long r.1))) r.2) (XcN G (.ok (some (.long r.1))) r.2) args s 0 0 (gA G)) h1 0 0 21 [(1, .long a1)] [] := by
    refine r_lload_n O 0 dX9_bounded_21 rfl ?_
    obtain rfl := Option.some.inj hf
    exact r_lret O hr rfl rfl (by decide) (by decide) dX9_bounded_22
  clear hf
  have hf := hg
  clear hg
  by_cases hc : (lg_cmp a1 (-1000000000000000)) < 0
  · rw [if_pos hc] at hf
    refine r_if_lt_t (tgt := 16) O dX9_bounded_5 (by decide) hc ?_
    refine r_aload_n O 0 dX9_bounded_16 rfl (Or.inl rfl) ?_
    refine r_iconst O (v := 3) dX9_bounded_17 (by decide) ?_
    obtain ⟨h2, eh2, hf⟩ := bnd hf
    refine r_pI O cf9 28 (by decide) rfl fl_X9_67 rfl eh2 dX9_bounded_18 ?_
    obtain rfl := oi1 hf
    refine AW.sub [1] rfl ?_
    exact hJ
  · rw [if_neg hc] at hf
    refine r_if_lt_f (tgt := 16) O dX9_bounded_5 (by decide) hc ?_
    refine r_lload_n O 1 dX9_bounded_8 rfl ?_
    refine r_ldc2 O cl_X9_186 dX9_bounded_9 ?_
    refine r_lcmp O dX9_bounded_12 ?_
    by_cases hc : (lg_cmp a1 1000000000000000) ≤ 0
    · rw [if_pos hc] at hf
      refine r_if_le_t (tgt := 21) O dX9_bounded_13 (by decide) hc ?_
      obtain rfl := oi1 hf
      refine AW.sub [1] rfl ?_
      exact hJ
    · rw [if_neg hc] at hf
      refine r_if_le_f (tgt := 21) O dX9_bounded_13 (by decide) hc ?_
      refine r_aload_n O 0 dX9_bounded_16 rfl (Or.inl rfl) ?_
      refine r_iconst O (v := 3) dX9_bounded_17 (by decide) ?_
      obtain ⟨h3, eh3, hf⟩ := bnd hf
      refine r_pI O cf9 28 (by decide) rfl fl_X9_67 rfl eh3 dX9_bounded_18 ?_
      obtain rfl := oi1 hf
      refine AW.sub [1] rfl ?_
      exact hJ
def f_X9_times (h : AH) (a0 : Nat) (a1 : Int64) (a3 : Int64) : Option (Int64 × AH) :=
if aK h a0 = 9 then
Option.bind (if 0 ≤ (lg_cmp a1 0) then
some a1
else
some (0 - a1)) fun x1 =>
Option.bind (if 0 ≤ (lg_cmp a3 0) then
some a3
else
some (0 - a3)) fun x2 =>
Option.bind (if (lg_cmp x1 0) = 0 then
some h
else
Option.bind (dvJ 1000000000000000 x1) fun x4 =>
if (lg_cmp x2 x4) ≤ 0 then
some h
else
Option.bind (pI h 9 a0 28 3) fun h5 =>
some h5) fun h3 =>
some (a1 * a3, h3)
else none
theorem kd_X9_times {h : AH} {a0 : Nat} {a1 : Int64} {a3 : Int64} {r : (Int64 × AH)} (hf : f_X9_times h a0 a1 a3 = some r) : aK h a0 = 9 := by
  unfold f_X9_times at hf
  exact (ifk hf).1
set_option maxRecDepth 100000 in
set_option maxHeartbeats 4000000 in
theorem c_X9_times {l : Launch} {G : GT} {h : AH} {a0 : Nat} {a1 : Int64} {a3 : Int64} {r : (Int64 × AH)} (hf : f_X9_times h a0 a1 a3 = some r) : Cn l yX9_times cX9_times 9 (some .long) 0 0 0 0 G h [.ref a0, .long a1, .long a3] (.ok (some (.long r.1))) r.2 := by
  refine Cn.of (by decide) (Nat.le_of_ble_eq_true rfl) ?_
  intro p e s m args below meth c O hr hx hin
  have O : OkC p l s m args meth c G cX9_times 9 RX9 := O
  unfold f_X9_times at hf
  obtain ⟨hk0, hf⟩ := ifk hf
  refine AW.sub (lv' := [(0, .ref a0), (1, .long a1), (3, .long a3)]) [0, 1, 2] rfl ?_
  refine r_lload_n O 1 dX9_times_0 rfl ?_
  refine r_lconst O (v := 0) dX9_times_1 (by decide) ?_
  refine r_lcmp O dX9_times_2 ?_
  obtain ⟨x1, hg, hf⟩ := bnd hf
  have hJ : AW p l e { frames := 0, cells := 0, slots := 0, locals := 0 } s m args below meth c G 9 (vx_MQ below (QcN G (.ok (some (.long r.1))) r.2) (XcN G (.ok (some (.long r.1))) r.2) args s 0 0 (gA G)) h 0 0 12 [(0, .ref a0), (1, .long a1), (3, .long a3)] [.long x1] := by
    refine r_lstore O [(5, .long x1), (0, .ref a0), (1, .long a1), (3, .long a3)] dX9_times_12 (by decide) rfl ?_
    refine r_lload_n O 3 dX9_times_14 rfl ?_
    refine r_lconst O (v := 0) dX9_times_15 (by decide) ?_
    refine r_lcmp O dX9_times_16 ?_
    obtain ⟨x2, hg, hf⟩ := bnd hf
    have hJ : AW p l e { frames := 0, cells := 0, slots := 0, locals := 0 } s m args below meth c G 9 (vx_MQ below (QcN G (.ok (some (.long r.1))) r.2) (XcN G (.ok (some (.long r.1))) r.2) args s 0 0 (gA G)) h 0 0 26 [(0, .ref a0), (1, .long a1), (3, .long a3), (5, .long x1)] [.long x2] := by
      refine r_lstore O [(7, .long x2), (0, .ref a0), (1, .long a1), (3, .long a3), (5, .long x1)] dX9_times_26 (by decide) rfl ?_
      refine r_lload O 4 dX9_times_28 rfl ?_
      refine r_lconst O (v := 0) dX9_times_30 (by decide) ?_
      refine r_lcmp O dX9_times_31 ?_
      obtain ⟨h3, hg, hf⟩ := bnd hf
      have hJ : AW p l e { frames := 0, cells := 0, slots := 0, locals := 0 } s m args below meth c G 9 (vx_MQ below (QcN G (.ok (some (.long r.1))) r.2) (XcN G (.ok (some (.long r.1))) r.2) args s 0 0 (gA G)) h3 0 0 52 [(1, .long a1), (3, .long a3)] [] := by
        refine r_lload_n O 0 dX9_times_52 rfl ?_
        refine r_lload_n O 1 dX9_times_53 rfl ?_
        refine r_lmul O dX9_times_54 ?_
        obtain rfl := Option.some.inj hf
        exact r_lret O hr rfl rfl (by decide) (by decide) dX9_times_55
      clear hf
      have hf := hg
      clear hg
      by_cases hc : (lg_cmp x1 0) = 0
      · rw [if_pos hc] at hf
        refine r_if_eq_t (tgt := 52) O dX9_times_32 (by decide) hc ?_
        obtain rfl := oi1 hf
        refine AW.sub [2, 3] rfl ?_
        exact hJ
      · rw [if_neg hc] at hf
        refine r_if_eq_f (tgt := 52) O dX9_times_32 (by decide) hc ?_
        refine r_lload O 0 dX9_times_35 rfl ?_
        refine r_ldc2 O cl_X9_186 dX9_times_37 ?_
        refine r_lload O 4 dX9_times_40 rfl ?_
        obtain ⟨x4, ex4, hf⟩ := bnd hf
        refine r_dvJ O ex4 dX9_times_42 ?_
        refine r_lcmp O dX9_times_43 ?_
        by_cases hc : (lg_cmp x2 x4) ≤ 0
        · rw [if_pos hc] at hf
          refine r_if_le_t (tgt := 52) O dX9_times_44 (by decide) hc ?_
          obtain rfl := oi1 hf
          refine AW.sub [2, 3] rfl ?_
          exact hJ
        · rw [if_neg hc] at hf
          refine r_if_le_f (tgt := 52) O dX9_times_44 (by decide) hc ?_
          refine r_aload_n O 1 dX9_times_47 rfl (Or.inl rfl) ?_
          refine r_iconst O (v := 3) dX9_times_48 (by decide) ?_
          obtain ⟨h5, eh5, hf⟩ := bnd hf
          refine r_pI O cf9 28 (by decide) rfl fl_X9_67 rfl eh5 dX9_times_49 ?_
          obtain rfl := oi1 hf
          refine AW.sub [2, 3] rfl ?_
          exact hJ
    clear hf
    have hf := hg
    clear hg
    by_cases hc : 0 ≤ (lg_cmp a3 0)
    · rw [if_pos hc] at hf
      refine r_if_ge_t (tgt := 25) O dX9_times_17 (by decide) hc ?_
      refine r_lload_n O 3 dX9_times_25 rfl ?_
      obtain rfl := oi1 hf
      refine AW.sub [1, 2, 3, 0] rfl ?_
      exact hJ
    · rw [if_neg hc] at hf
      refine r_if_ge_f (tgt := 25) O dX9_times_17 (by decide) hc ?_
      refine r_lload_n O 3 dX9_times_20 rfl ?_
      refine r_lneg O dX9_times_21 ?_
      refine r_goto (tgt := 26) O dX9_times_22 (by decide) ?_
      obtain rfl := oi1 hf
      refine AW.sub [1, 2, 3, 0] rfl ?_
      exact hJ
  clear hf
  have hf := hg
  clear hg
  by_cases hc : 0 ≤ (lg_cmp a1 0)
  · rw [if_pos hc] at hf
    refine r_if_ge_t (tgt := 11) O dX9_times_3 (by decide) hc ?_
    refine r_lload_n O 1 dX9_times_11 rfl ?_
    obtain rfl := oi1 hf
    refine AW.sub [0, 1, 2] rfl ?_
    exact hJ
  · rw [if_neg hc] at hf
    refine r_if_ge_f (tgt := 11) O dX9_times_3 (by decide) hc ?_
    refine r_lload_n O 1 dX9_times_6 rfl ?_
    refine r_lneg O dX9_times_7 ?_
    refine r_goto (tgt := 12) O dX9_times_8 (by decide) ?_
    obtain rfl := oi1 hf
    refine AW.sub [0, 1, 2] rfl ?_
    exact hJ
def f_X9_work_197 (l0 : Nat) (l1 : Nat) (l2 : Int32) (l3 : Int32) (l4 : Int32) (l5 : Int32) (l6 : Int32) (l7 : Int32) (l8 : Int32) (l9 : Int32) (l10 : Int64) (l12 : Int64) (l15 : Int32) (n : Nat) (h : AH) (l16 : Int64) (l18 : Int64) (l20 : Int32) : Option (Int64 × Int64) := match n with
| 0 => none
| n + 1 =>
if l15 ≤ l20 then
some (l16, l18)
else
Option.bind (gP h 9 l0 14) fun x25 =>
Option.bind (gP h 9 l0 33) fun x26 =>
Option.bind (ldI h x26 (l6 + l20)) fun x27 =>
Option.bind (f_X9_valueOf h l0 l1 x25 x27 l4) fun x28 =>
Option.bind (if l20 = 0 then
some x28
else
if l8 = 10 then
if (lg_cmp x28 l18) ≤ 0 then
some l18
else
some x28
else
if 0 ≤ (lg_cmp x28 l18) then
some l18
else
some x28) fun x30 =>
f_X9_work_197 l0 l1 l2 l3 l4 l5 l6 l7 l8 l9 l10 l12 l15 n h (l16 + x28) x30 (l20 + 1)
def f_X9_work_26 (l0 : Nat) (l1 : Nat) (l2 : Int32) (l3 : Int32) (l4 : Int32) (n : Nat) (h : AH) (l5 : Int32) (l6 : Int32) (l7 : Int32) : Option AH := match n with
| 0 => none
| n + 1 =>
Option.bind (gP h 9 l0 7) fun x7 =>
Option.bind (ldI h x7 l3) fun x8 =>
if x8 ≤ l7 then
some h
else
Option.bind (gI h 9 l0 28) fun x9 =>
if x9 = (-1) then
Option.bind (pI h 9 l0 29 l7) fun h10 =>
Option.bind (gP h10 9 l0 8) fun x11 =>
Option.bind (ldI h10 x11 ((l3 * 24) + l7)) fun x12 =>
Option.bind (gP h10 9 l0 9) fun x13 =>
Option.bind (ldI h10 x13 ((l3 * 24) + l7)) fun x14 =>
Option.bind (if l5 ≤ 0 then
some (0 : Int64)
else
Option.bind (gP h10 9 l0 41) fun x16 =>
Option.bind (ldJ h10 x16 (l5 - 1)) fun x17 =>
some x17) fun x15 =>
Option.bind (if l5 ≤ 1 then
some (0 : Int64)
else
Option.bind (gP h10 9 l0 41) fun x19 =>
Option.bind (ldJ h10 x19 (l5 - 2)) fun x20 =>
some x20) fun x18 =>
Option.bind (if 240 ≤ l2 then
some l4
else
Option.bind (ldI h10 l1 (212 + l4)) fun x22 =>
some x22) fun x21 =>
Option.bind (if x12 < 9 then
if x12 < 1 then
some (0 : Int32)
else
if 13 < x12 then
some (0 : Int32)
else
some (1 : Int32)
else
if 11 < x12 then
if x12 < 1 then
some (0 : Int32)
else
if 13 < x12 then
some (0 : Int32)
else
some (1 : Int32)
else
Option.bind (ldI h10 l1 (492 + x21)) fun x24 =>
some x24) fun x23 =>
Option.bind (f_X9_work_197 l0 l1 l2 l3 l4 l5 l6 l7 x12 x14 x15 x18 x23 FU h10 0 x15 0) fun w => match w with
| (x31, x32) =>
Option.bind (if x23 ≤ 0 then
some (0 : Int32)
else
Option.bind (gP h10 9 l0 33) fun x34 =>
Option.bind (ldI h10 x34 l6) fun x35 =>
if x35 = 0 then
some (1 : Int32)
else
some (0 : Int32)) fun x33 =>
Option.bind (if x12 = 0 then
Option.bind (gP h10 9 l0 41) fun x38 =>
Option.bind (stJ h10 x38 l5 x14.toInt64) fun h39 =>
some (l5 + 1, h39)
else
if x12 = 1 ∨ x12 = 2 ∨ x12 = 3 ∨ x12 = 4 ∨ x12 = 8 ∨ x12 = 9 then
Option.bind (gP h10 9 l0 41) fun x40 =>
Option.bind (f_X9_bounded h10 l0 x31) fun w => match w with
| (x41, h42) =>
Option.bind (stJ h42 x40 l5 x41) fun h43 =>
some (l5 + 1, h43)
else
if x12 = 5 ∨ x12 = 6 ∨ x12 = 7 ∨ x12 = 12 ∨ x12 = 13 then
Option.bind (gP h10 9 l0 41) fun x44 =>
Option.bind (if x33 = 0 then
some x31
else
some x15) fun x45 =>
Option.bind (stJ h10 x44 (l5 - 1) x45) fun h46 =>
some (l5, h46)
else
if x12 = 10 ∨ x12 = 11 then
Option.bind (gP h10 9 l0 41) fun x47 =>
Option.bind (if x23 = 0 then
some x15
else
some x32) fun x48 =>
Option.bind (stJ h10 x47 (l5 - 1) x48) fun h49 =>
some (l5, h49)
else
if x12 = 14 then
Option.bind (gP h10 9 l0 41) fun x50 =>
Option.bind (f_X9_bounded h10 l0 (x18 + x15)) fun w => match w with
| (x51, h52) =>
Option.bind (stJ h52 x50 ((l5 + (-1)) - 1) x51) fun h53 =>
some (l5 + (-1), h53)
else
if x12 = 15 then
Option.bind (gP h10 9 l0 41) fun x54 =>
Option.bind (f_X9_bounded h10 l0 (x18 - x15)) fun w => match w with
| (x55, h56) =>
Option.bind (stJ h56 x54 ((l5 + (-1)) - 1) x55) fun h57 =>
some (l5 + (-1), h57)
else
if x12 = 16 then
Option.bind (gP h10 9 l0 41) fun x58 =>
Option.bind (f_X9_times h10 l0 x18 x15) fun w => match w with
| (x59, h60) =>
Option.bind (stJ h60 x58 ((l5 + (-1)) - 1) x59) fun h61 =>
some (l5 + (-1), h61)
else
if x12 = 17 then
if (lg_cmp x15 0) = 0 then
Option.bind (pI h10 9 l0 28 1) fun h65 =>
some (l5 + (-1), h65)
else
Option.bind (gP h10 9 l0 41) fun x62 =>
Option.bind (dvJ x18 x15) fun x63 =>
Option.bind (stJ h10 x62 ((l5 + (-1)) - 1) x63) fun h64 =>
some (l5 + (-1), h64)
else
if x12 = 18 then
Option.bind (gP h10 9 l0 41) fun x66 =>
Option.bind (if 0 ≤ (lg_cmp x15 x18) then
some x18
else
some x15) fun x67 =>
Option.bind (stJ h10 x66 ((l5 + (-1)) - 1) x67) fun h68 =>
some (l5 + (-1), h68)
else
if x12 = 19 then
Option.bind (gP h10 9 l0 41) fun x69 =>
Option.bind (if (lg_cmp x15 x18) ≤ 0 then
some x18
else
some x15) fun x70 =>
Option.bind (stJ h10 x69 ((l5 + (-1)) - 1) x70) fun h71 =>
some (l5 + (-1), h71)
else
if x12 = 20 then
Option.bind (gP h10 9 l0 41) fun x72 =>
Option.bind (gP h10 9 l0 41) fun x73 =>
Option.bind (ldJ h10 x73 ((l5 + (-2)) - 1)) fun x74 =>
Option.bind (if (lg_cmp x74 0) ≤ 0 then
some x15
else
some x18) fun x75 =>
Option.bind (stJ h10 x72 ((l5 + (-2)) - 1) x75) fun h76 =>
some (l5 + (-2), h76)
else
if x12 = 21 then
if (lg_cmp x15 0) = 0 then
some (l5 + (-1), h10)
else
Option.bind (pI h10 9 l0 28 2) fun h77 =>
some (l5 + (-1), h77)
else
if x12 = 22 then
Option.bind (gP h10 9 l0 41) fun x78 =>
Option.bind (stJ h10 x78 l5 x15) fun h79 =>
some (l5 + 1, h79)
else
if x12 = 23 then
Option.bind (gP h10 9 l0 41) fun x80 =>
Option.bind (stJ h10 x80 (l5 - 1) x18) fun h81 =>
Option.bind (gP h81 9 l0 41) fun x82 =>
Option.bind (stJ h81 x82 (l5 - 2) x15) fun h83 =>
some (l5, h83)
else
some (l5 + (-1), h10)) fun w => match w with
| (x36, h37) =>
f_X9_work_26 l0 l1 l2 l3 l4 n h37 x36 (l6 + x23) (l7 + 1)
else
some h
def f_X9_work (h : AH) (a0 : Nat) (a1 : Nat) (a2 : Int32) : Option (Int64 × AH) :=
if aK h a0 = 9 then
Option.bind (f_X9_kindOf h a2) fun x1 =>
Option.bind (f_X9_ownerOf h a2) fun x3 =>
Option.bind (f_X9_lookAt h a0 a1 a2) fun h6 =>
Option.bind (f_X9_work_26 a0 a1 a2 x1 x3 FU h6 0 0 0) fun h84 =>
Option.bind (gP h84 9 a0 41) fun x85 =>
Option.bind (ldJ h84 x85 0) fun x86 =>
some (x86, h84)
else none
set_option maxRecDepth 100000 in
set_option maxHeartbeats 4000000 in
theorem s_X9_work_197 {p : Program} {l : Launch} {e : Env} {s : State} {m : MethodId} {args : Array Value} {below : List Frame} {meth : Method} {c : Code} {G : GT} {Q : State → Prop} (O : OkC p l s m args meth c G cX9_work 23 RX9) {l0 : Nat} {l1 : Nat} {l2 : Int32} {l3 : Int32} {l4 : Int32} {l5 : Int32} {l6 : Int32} {l7 : Int32} {l8 : Int32} {l9 : Int32} {l10 : Int64} {l12 : Int64} {l15 : Int32} {h : AH} {w16 : Int64} {w18 : Int64} (kk : AW p l e { frames := 4, cells := 0, slots := 0, locals := 93 } s m args below meth c G 23 Q h 0 0 280 [(0, .ref l0), (1, .ref l1), (2, .int l2), (3, .int l3), (4, .int l4), (5, .int l5), (6, .int l6), (7, .int l7), (8, .int l8), (9, .int l9), (10, .long l10), (12, .long l12), (15, .int l15), (16, .long w16), (18, .long w18)] []) : ∀ (n : Nat), ∀ (l16 : Int64) (l18 : Int64) (l20 : Int32), f_X9_work_197 l0 l1 l2 l3 l4 l5 l6 l7 l8 l9 l10 l12 l15 n h l16 l18 l20 = some (w16, w18) → AW p l e { frames := 4, cells := 0, slots := 0, locals := 93 } s m args below meth c G 23 Q h 0 0 197 [(0, .ref l0), (1, .ref l1), (2, .int l2), (3, .int l3), (4, .int l4), (5, .int l5), (6, .int l6), (7, .int l7), (8, .int l8), (9, .int l9), (10, .long l10), (12, .long l12), (15, .int l15), (16, .long l16), (18, .long l18), (20, .int l20)] [] := by
  intro n
  induction n with
  | zero =>
    intro l16 l18 l20 hf
    simp [f_X9_work_197] at hf
  | succ n ih =>
    intro l16 l18 l20 hf
    unfold f_X9_work_197 at hf
    refine r_iload O 15 dX9_work_197 rfl ?_
    refine r_iload O 12 dX9_work_199 rfl ?_
    by_cases hc : l15 ≤ l20
    · rw [if_pos hc] at hf
      refine r_icmp_ge_t (tgt := 280) O dX9_work_201 (by decide) hc ?_
      obtain ⟨rfl, rfl⟩ := oi2 hf
      refine AW.sub [0, 1, 2, 3, 4, 5, 6, 7, 8, 9, 10, 11, 12, 13, 14] rfl ?_
      exact kk
    · rw [if_neg hc] at hf
      refine r_icmp_ge_f (tgt := 280) O dX9_work_201 (by decide) hc ?_
      refine r_aload_n O 0 dX9_work_204 rfl (Or.inl rfl) ?_
      refine r_aload_n O 1 dX9_work_205 rfl (Or.inl rfl) ?_
      refine r_aload_n O 0 dX9_work_206 rfl (Or.inl rfl) ?_
      obtain ⟨x25, ex25, hf⟩ := bnd hf
      refine r_gP O cf9 14 (by decide) rfl fl_X9_46 ex25 dX9_work_207 ?_
      refine r_aload_n O 0 dX9_work_210 rfl (Or.inl rfl) ?_
      obtain ⟨x26, ex26, hf⟩ := bnd hf
      refine r_gP O cf9 33 (by decide) rfl fl_X9_73 ex26 dX9_work_211 ?_
      refine r_iload O 6 dX9_work_214 rfl ?_
      refine r_iload O 15 dX9_work_216 rfl ?_
      refine r_iadd O dX9_work_218 ?_
      obtain ⟨x27, ex27, hf⟩ := bnd hf
      refine r_ldI O ex27 dX9_work_219 ?_
      refine r_iload O 4 dX9_work_220 rfl ?_
      obtain ⟨x28, ex28, hf⟩ := bnd hf
      refine r_callV (av := [.ref l1, .ref x25, .int x27, .int l4]) (st := []) O (c_X9_valueOf ex28) mf_X9_valueOf cf9 (kd_X9_valueOf ex28) ml_X9_188 mi_X9_valueOf mv_X9_valueOf (by decide) (Nat.le_of_ble_eq_true rfl) (by decide) dX9_work_222 ?_
      refine r_lstore O [(21, .long x28), (0, .ref l0), (1, .ref l1), (2, .int l2), (3, .int l3), (4, .int l4), (5, .int l5), (6, .int l6), (7, .int l7), (8, .int l8), (9, .int l9), (10, .long l10), (12, .long l12), (15, .int l15), (16, .long l16), (18, .long l18), (20, .int l20)] dX9_work_225 (by decide) rfl ?_
      refine r_lload O 14 dX9_work_227 rfl ?_
      refine r_lload O 0 dX9_work_229 rfl ?_
      refine r_ladd O dX9_work_231 ?_
      refine r_lstore O [(16, .long (l16 + x28)), (21, .long x28), (0, .ref l0), (1, .ref l1), (2, .int l2), (3, .int l3), (4, .int l4), (5, .int l5), (6, .int l6), (7, .int l7), (8, .int l8), (9, .int l9), (10, .long l10), (12, .long l12), (15, .int l15), (18, .long l18), (20, .int l20)] dX9_work_232 (by decide) rfl ?_
      refine r_iload O 16 dX9_work_234 rfl ?_
      obtain ⟨x30, hg, hf⟩ := bnd hf
      have hJ : AW p l e { frames := 4, cells := 0, slots := 0, locals := 93 } s m args below meth c G 23 Q h 0 0 272 [(0, .ref l0), (1, .ref l1), (2, .int l2), (3, .int l3), (4, .int l4), (5, .int l5), (6, .int l6), (7, .int l7), (8, .int l8), (9, .int l9), (10, .long l10), (12, .long l12), (15, .int l15), (16, .long (l16 + x28)), (20, .int l20)] [.long x30] := by
        refine r_lstore O [(18, .long x30), (0, .ref l0), (1, .ref l1), (2, .int l2), (3, .int l3), (4, .int l4), (5, .int l5), (6, .int l6), (7, .int l7), (8, .int l8), (9, .int l9), (10, .long l10), (12, .long l12), (15, .int l15), (16, .long (l16 + x28)), (20, .int l20)] dX9_work_272 (by decide) rfl ?_
        refine r_iinc O 15 [(20, .int (l20 + 1)), (18, .long x30), (0, .ref l0), (1, .ref l1), (2, .int l2), (3, .int l3), (4, .int l4), (5, .int l5), (6, .int l6), (7, .int l7), (8, .int l8), (9, .int l9), (10, .long l10), (12, .long l12), (15, .int l15), (16, .long (l16 + x28))] dX9_work_274 rfl rfl (by decide) rfl ?_
        refine r_goto (tgt := 197) O dX9_work_277 (by decide) ?_
        refine AW.sub [2, 3, 4, 5, 6, 7, 8, 9, 10, 11, 12, 13, 14, 15, 1, 0] rfl ?_
        exact ih _ _ _ hf
      clear hf
      have hf := hg
      clear hg
      by_cases hc : l20 = 0
      · rw [if_pos hc] at hf
        refine r_if_eq_t (tgt := 265) O dX9_work_236 (by decide) hc ?_
        refine r_lload O 1 dX9_work_265 rfl ?_
        refine r_goto (tgt := 272) O dX9_work_267 (by decide) ?_
        obtain rfl := oi1 hf
        refine AW.sub [2, 3, 4, 5, 6, 7, 8, 9, 10, 11, 12, 13, 14, 0, 16] rfl ?_
        exact hJ
      · rw [if_neg hc] at hf
        refine r_if_eq_f (tgt := 265) O dX9_work_236 (by decide) hc ?_
        refine r_iload O 10 dX9_work_239 rfl ?_
        refine r_bipush O (v := 10) dX9_work_241 (by decide) ?_
        by_cases hc : l8 = 10
        · rw [if_pos hc] at hf
          refine r_icmp_ne_f (tgt := 257) O dX9_work_243 (by decide) hc ?_
          refine r_lload O 1 dX9_work_246 rfl ?_
          refine r_lload O 15 dX9_work_248 rfl ?_
          refine r_lcmp O dX9_work_250 ?_
          by_cases hc : (lg_cmp x28 l18) ≤ 0
          · rw [if_pos hc] at hf
            refine r_if_le_t (tgt := 270) O dX9_work_251 (by decide) hc ?_
            refine r_lload O 15 dX9_work_270 rfl ?_
            obtain rfl := oi1 hf
            refine AW.sub [2, 3, 4, 5, 6, 7, 8, 9, 10, 11, 12, 13, 14, 0, 16] rfl ?_
            exact hJ
          · rw [if_neg hc] at hf
            refine r_if_le_f (tgt := 270) O dX9_work_251 (by decide) hc ?_
            refine r_goto (tgt := 265) O dX9_work_254 (by decide) ?_
            refine r_lload O 1 dX9_work_265 rfl ?_
            refine r_goto (tgt := 272) O dX9_work_267 (by decide) ?_
            obtain rfl := oi1 hf
            refine AW.sub [2, 3, 4, 5, 6, 7, 8, 9, 10, 11, 12, 13, 14, 0, 16] rfl ?_
            exact hJ
        · rw [if_neg hc] at hf
          refine r_icmp_ne_t (tgt := 257) O dX9_work_243 (by decide) hc ?_
          refine r_lload O 1 dX9_work_257 rfl ?_
          refine r_lload O 15 dX9_work_259 rfl ?_
          refine r_lcmp O dX9_work_261 ?_
          by_cases hc : 0 ≤ (lg_cmp x28 l18)
          · rw [if_pos hc] at hf
            refine r_if_ge_t (tgt := 270) O dX9_work_262 (by decide) hc ?_
            refine r_lload O 15 dX9_work_270 rfl ?_
            obtain rfl := oi1 hf
            refine AW.sub [2, 3, 4, 5, 6, 7, 8, 9, 10, 11, 12, 13, 14, 0, 16] rfl ?_
            exact hJ
          · rw [if_neg hc] at hf
            refine r_if_ge_f (tgt := 270) O dX9_work_262 (by decide) hc ?_
            refine r_lload O 1 dX9_work_265 rfl ?_
            refine r_goto (tgt := 272) O dX9_work_267 (by decide) ?_
            obtain rfl := oi1 hf
            refine AW.sub [2, 3, 4, 5, 6, 7, 8, 9, 10, 11, 12, 13, 14, 0, 16] rfl ?_
            exact hJ
set_option maxRecDepth 100000 in
set_option maxHeartbeats 4000000 in
theorem s_X9_work_26 {p : Program} {l : Launch} {e : Env} {s : State} {m : MethodId} {args : Array Value} {below : List Frame} {meth : Method} {c : Code} {G : GT} {Q : State → Prop} (O : OkC p l s m args meth c G cX9_work 23 RX9) {l0 : Nat} {l1 : Nat} {l2 : Int32} {l3 : Int32} {l4 : Int32} {wh : AH} (kk : AW p l e { frames := 4, cells := 0, slots := 0, locals := 93 } s m args below meth c G 23 Q wh 0 0 772 [(0, .ref l0)] []) : ∀ (n : Nat), ∀ (h : AH) (l5 : Int32) (l6 : Int32) (l7 : Int32), f_X9_work_26 l0 l1 l2 l3 l4 n h l5 l6 l7 = some wh → AW p l e { frames := 4, cells := 0, slots := 0, locals := 93 } s m args below meth c G 23 Q h 0 0 26 [(0, .ref l0), (1, .ref l1), (2, .int l2), (3, .int l3), (4, .int l4), (5, .int l5), (6, .int l6), (7, .int l7)] [] := by
  intro n
  induction n with
  | zero =>
    intro h l5 l6 l7 hf
    simp [f_X9_work_26] at hf
  | succ n ih =>
    intro h l5 l6 l7 hf
    unfold f_X9_work_26 at hf
    refine r_iload O 7 dX9_work_26 rfl ?_
    refine r_aload_n O 0 dX9_work_28 rfl (Or.inl rfl) ?_
    obtain ⟨x7, ex7, hf⟩ := bnd hf
    refine r_gP O cf9 7 (by decide) rfl fl_X9_24 ex7 dX9_work_29 ?_
    refine r_iload_n O 3 dX9_work_32 rfl ?_
    obtain ⟨x8, ex8, hf⟩ := bnd hf
    refine r_ldI O ex8 dX9_work_33 ?_
    by_cases hc : x8 ≤ l7
    · rw [if_pos hc] at hf
      refine r_icmp_ge_t (tgt := 772) O dX9_work_34 (by decide) hc ?_
      obtain rfl := oi1 hf
      refine AW.sub [0] rfl ?_
      exact kk
    · rw [if_neg hc] at hf
      refine r_icmp_ge_f (tgt := 772) O dX9_work_34 (by decide) hc ?_
      refine r_aload_n O 0 dX9_work_37 rfl (Or.inl rfl) ?_
      obtain ⟨x9, ex9, hf⟩ := bnd hf
      refine r_gI O cf9 28 (by decide) rfl fl_X9_67 ex9 dX9_work_38 ?_
      refine r_iconst O (v := -1) dX9_work_41 (by decide) ?_
      by_cases hc : x9 = (-1)
      · rw [if_pos hc] at hf
        refine r_icmp_ne_f (tgt := 772) O dX9_work_42 (by decide) hc ?_
        refine r_aload_n O 0 dX9_work_45 rfl (Or.inl rfl) ?_
        refine r_iload O 7 dX9_work_46 rfl ?_
        obtain ⟨h10, eh10, hf⟩ := bnd hf
        refine r_pI O cf9 29 (by decide) rfl fl_X9_70 rfl eh10 dX9_work_48 ?_
        refine r_aload_n O 0 dX9_work_51 rfl (Or.inl rfl) ?_
        obtain ⟨x11, ex11, hf⟩ := bnd hf
        refine r_gP O cf9 8 (by decide) rfl fl_X9_27 ex11 dX9_work_52 ?_
        refine r_iload_n O 3 dX9_work_55 rfl ?_
        refine r_bipush O (v := 24) dX9_work_56 (by decide) ?_
        refine r_imul O dX9_work_58 ?_
        refine r_iload O 7 dX9_work_59 rfl ?_
        refine r_iadd O dX9_work_61 ?_
        obtain ⟨x12, ex12, hf⟩ := bnd hf
        refine r_ldI O ex12 dX9_work_62 ?_
        refine r_istore O [(8, .int x12), (0, .ref l0), (1, .ref l1), (2, .int l2), (3, .int l3), (4, .int l4), (5, .int l5), (6, .int l6), (7, .int l7)] dX9_work_63 (by decide) rfl ?_
        refine r_aload_n O 1 dX9_work_65 rfl (Or.inl rfl) ?_
        obtain ⟨x13, ex13, hf⟩ := bnd hf
        refine r_gP O cf9 9 (by decide) rfl fl_X9_30 ex13 dX9_work_66 ?_
        refine r_iload_n O 4 dX9_work_69 rfl ?_
        refine r_bipush O (v := 24) dX9_work_70 (by decide) ?_
        refine r_imul O dX9_work_72 ?_
        refine r_iload O 8 dX9_work_73 rfl ?_
        refine r_iadd O dX9_work_75 ?_
        obtain ⟨x14, ex14, hf⟩ := bnd hf
        refine r_ldI O ex14 dX9_work_76 ?_
        refine r_istore O [(9, .int x14), (8, .int x12), (0, .ref l0), (1, .ref l1), (2, .int l2), (3, .int l3), (4, .int l4), (5, .int l5), (6, .int l6), (7, .int l7)] dX9_work_77 (by decide) rfl ?_
        refine r_iload O 7 dX9_work_79 rfl ?_
        obtain ⟨x15, hg, hf⟩ := bnd hf
        have hJ : AW p l e { frames := 4, cells := 0, slots := 0, locals := 93 } s m args below meth c G 23 Q h10 0 0 97 [(0, .ref l0), (1, .ref l1), (2, .int l2), (3, .int l3), (4, .int l4), (5, .int l5), (6, .int l6), (7, .int l7), (8, .int x12), (9, .int x14)] [.long x15] := by
          refine r_lstore O [(10, .long x15), (0, .ref l0), (1, .ref l1), (2, .int l2), (3, .int l3), (4, .int l4), (5, .int l5), (6, .int l6), (7, .int l7), (8, .int x12), (9, .int x14)] dX9_work_97 (by decide) rfl ?_
          refine r_iload O 6 dX9_work_99 rfl ?_
          refine r_iconst O (v := 1) dX9_work_101 (by decide) ?_
          obtain ⟨x18, hg, hf⟩ := bnd hf
          have hJ : AW p l e { frames := 4, cells := 0, slots := 0, locals := 93 } s m args below meth c G 23 Q h10 0 0 118 [(0, .ref l0), (1, .ref l1), (2, .int l2), (3, .int l3), (4, .int l4), (5, .int l5), (6, .int l6), (7, .int l7), (8, .int x12), (9, .int x14), (10, .long x15)] [.long x18] := by
            refine r_lstore O [(12, .long x18), (0, .ref l0), (1, .ref l1), (2, .int l2), (3, .int l3), (4, .int l4), (5, .int l5), (6, .int l6), (7, .int l7), (8, .int x12), (9, .int x14), (10, .long x15)] dX9_work_118 (by decide) rfl ?_
            refine r_iload_n O 3 dX9_work_120 rfl ?_
            refine r_sipush O (v := 240) dX9_work_121 (by decide) ?_
            obtain ⟨x21, hg, hf⟩ := bnd hf
            have hJ : AW p l e { frames := 4, cells := 0, slots := 0, locals := 93 } s m args below meth c G 23 Q h10 0 0 140 [(0, .ref l0), (1, .ref l1), (2, .int l2), (3, .int l3), (4, .int l4), (5, .int l5), (6, .int l6), (7, .int l7), (8, .int x12), (9, .int x14), (10, .long x15), (12, .long x18)] [.int x21] := by
              refine r_istore O [(14, .int x21), (0, .ref l0), (1, .ref l1), (2, .int l2), (3, .int l3), (4, .int l4), (5, .int l5), (6, .int l6), (7, .int l7), (8, .int x12), (9, .int x14), (10, .long x15), (12, .long x18)] dX9_work_140 (by decide) rfl ?_
              refine r_iload O 9 dX9_work_142 rfl ?_
              refine r_bipush O (v := 9) dX9_work_144 (by decide) ?_
              obtain ⟨x23, hg, hf⟩ := bnd hf
              have hJ : AW p l e { frames := 4, cells := 0, slots := 0, locals := 93 } s m args below meth c G 23 Q h10 0 0 185 [(0, .ref l0), (1, .ref l1), (2, .int l2), (3, .int l3), (4, .int l4), (5, .int l5), (6, .int l6), (7, .int l7), (8, .int x12), (9, .int x14), (10, .long x15), (12, .long x18)] [.int x23] := by
                refine r_istore O [(15, .int x23), (0, .ref l0), (1, .ref l1), (2, .int l2), (3, .int l3), (4, .int l4), (5, .int l5), (6, .int l6), (7, .int l7), (8, .int x12), (9, .int x14), (10, .long x15), (12, .long x18)] dX9_work_185 (by decide) rfl ?_
                refine r_lconst O (v := 0) dX9_work_187 (by decide) ?_
                refine r_lstore O [(16, .long 0), (15, .int x23), (0, .ref l0), (1, .ref l1), (2, .int l2), (3, .int l3), (4, .int l4), (5, .int l5), (6, .int l6), (7, .int l7), (8, .int x12), (9, .int x14), (10, .long x15), (12, .long x18)] dX9_work_188 (by decide) rfl ?_
                refine r_lload O 12 dX9_work_190 rfl ?_
                refine r_lstore O [(18, .long x15), (16, .long 0), (15, .int x23), (0, .ref l0), (1, .ref l1), (2, .int l2), (3, .int l3), (4, .int l4), (5, .int l5), (6, .int l6), (7, .int l7), (8, .int x12), (9, .int x14), (10, .long x15), (12, .long x18)] dX9_work_192 (by decide) rfl ?_
                refine r_iconst O (v := 0) dX9_work_194 (by decide) ?_
                refine r_istore O [(20, .int 0), (18, .long x15), (16, .long 0), (15, .int x23), (0, .ref l0), (1, .ref l1), (2, .int l2), (3, .int l3), (4, .int l4), (5, .int l5), (6, .int l6), (7, .int l7), (8, .int x12), (9, .int x14), (10, .long x15), (12, .long x18)] dX9_work_195 (by decide) rfl ?_
                obtain ⟨⟨x31, x32⟩, hw, hf⟩ := bnd hf
                dsimp only at hf
                refine AW.sub [4, 5, 6, 7, 8, 9, 10, 11, 12, 13, 14, 15, 3, 2, 1, 0] rfl ?_
                refine s_X9_work_197 O ?_ _ _ _ _ hw
                refine r_iload O 12 dX9_work_280 rfl ?_
                obtain ⟨x33, hg, hf⟩ := bnd hf
                have hJ : AW p l e { frames := 4, cells := 0, slots := 0, locals := 93 } s m args below meth c G 23 Q h10 0 0 300 [(0, .ref l0), (1, .ref l1), (2, .int l2), (3, .int l3), (4, .int l4), (5, .int l5), (6, .int l6), (7, .int l7), (8, .int x12), (9, .int x14), (10, .long x15), (12, .long x18), (15, .int x23), (16, .long x31), (18, .long x32)] [.int x33] := by
                  refine r_istore O [(20, .int x33), (0, .ref l0), (1, .ref l1), (2, .int l2), (3, .int l3), (4, .int l4), (5, .int l5), (6, .int l6), (7, .int l7), (8, .int x12), (9, .int x14), (10, .long x15), (12, .long x18), (15, .int x23), (16, .long x31), (18, .long x32)] dX9_work_300 (by decide) rfl ?_
                  refine r_iload O 7 dX9_work_302 rfl ?_
                  refine r_iload O 13 dX9_work_304 rfl ?_
                  refine r_iadd O dX9_work_306 ?_
                  refine r_istore O [(6, .int (l6 + x23)), (20, .int x33), (0, .ref l0), (1, .ref l1), (2, .int l2), (3, .int l3), (4, .int l4), (5, .int l5), (7, .int l7), (8, .int x12), (9, .int x14), (10, .long x15), (12, .long x18), (15, .int x23), (16, .long x31), (18, .long x32)] dX9_work_307 (by decide) rfl ?_
                  refine r_iload O 9 dX9_work_309 rfl ?_
                  obtain ⟨⟨x36, h37⟩, hg, hf⟩ := bnd hf
                  dsimp only at hf
                  have hJ : AW p l e { frames := 4, cells := 0, slots := 0, locals := 93 } s m args below meth c G 23 Q h37 0 0 766 [(0, .ref l0), (1, .ref l1), (2, .int l2), (3, .int l3), (4, .int l4), (5, .int x36), (6, .int (l6 + x23)), (7, .int l7)] [] := by
                    refine r_iinc O 7 [(7, .int (l7 + 1)), (0, .ref l0), (1, .ref l1), (2, .int l2), (3, .int l3), (4, .int l4), (5, .int x36), (6, .int (l6 + x23))] dX9_work_766 rfl rfl (by decide) rfl ?_
                    refine r_goto (tgt := 26) O dX9_work_769 (by decide) ?_
                    refine AW.sub [1, 2, 3, 4, 5, 6, 7, 0] rfl ?_
                    exact ih _ _ _ _ hf
                  clear hf
                  have hf := hg
                  clear hg
                  by_cases hc : x12 = 0
                  · rw [if_pos hc] at hf
                    refine r_table_in (off := 109) (tgt := 420) O dX9_work_311 (by (rw [hc]; decide)) (by (rw [hc]; decide)) (by (rw [hc]; rfl)) (by decide) ?_
                    refine r_aload_n O 2 dX9_work_420 rfl (Or.inl rfl) ?_
                    obtain ⟨x38, ex38, hf⟩ := bnd hf
                    refine r_gP O cf9 41 (by decide) rfl fl_X9_93 ex38 dX9_work_421 ?_
                    refine r_iload O 7 dX9_work_424 rfl ?_
                    refine r_iinc O 7 [(5, .int (l5 + 1)), (6, .int (l6 + x23)), (20, .int x33), (0, .ref l0), (1, .ref l1), (2, .int l2), (3, .int l3), (4, .int l4), (7, .int l7), (8, .int x12), (9, .int x14), (10, .long x15), (12, .long x18), (15, .int x23), (16, .long x31), (18, .long x32)] dX9_work_426 rfl rfl (by decide) rfl ?_
                    refine r_iload O 10 dX9_work_429 rfl ?_
                    refine r_i2l O dX9_work_431 ?_
                    obtain ⟨h39, eh39, hf⟩ := bnd hf
                    refine r_stJ O eh39 dX9_work_432 ?_
                    refine r_goto (tgt := 766) O dX9_work_433 (by decide) ?_
                    obtain ⟨rfl, rfl⟩ := oi2 hf
                    refine AW.sub [3, 4, 5, 6, 7, 0, 1, 8] rfl ?_
                    exact hJ
                  · rw [if_neg hc] at hf
                    have hn420 := hc
                    by_cases hc : x12 = 1 ∨ x12 = 2 ∨ x12 = 3 ∨ x12 = 4 ∨ x12 = 8 ∨ x12 = 9
                    · rw [if_pos hc] at hf
                      refine r_table_in (off := 125) (tgt := 436) O dX9_work_311 (by rcases hc with hc | hc | hc | hc | hc | hc <;> (rw [hc]; decide)) (by rcases hc with hc | hc | hc | hc | hc | hc <;> (rw [hc]; decide)) (by rcases hc with hc | hc | hc | hc | hc | hc <;> (rw [hc]; rfl)) (by decide) ?_
                      refine r_aload_n O 2 dX9_work_436 rfl (Or.inl rfl) ?_
                      obtain ⟨x40, ex40, hf⟩ := bnd hf
                      refine r_gP O cf9 41 (by decide) rfl fl_X9_93 ex40 dX9_work_437 ?_
                      refine r_iload O 7 dX9_work_440 rfl ?_
                      refine r_iinc O 7 [(5, .int (l5 + 1)), (6, .int (l6 + x23)), (20, .int x33), (0, .ref l0), (1, .ref l1), (2, .int l2), (3, .int l3), (4, .int l4), (7, .int l7), (8, .int x12), (9, .int x14), (10, .long x15), (12, .long x18), (15, .int x23), (16, .long x31), (18, .long x32)] dX9_work_442 rfl rfl (by decide) rfl ?_
                      refine r_aload_n O 3 dX9_work_445 rfl (Or.inl rfl) ?_
                      refine r_lload O 14 dX9_work_446 rfl ?_
                      obtain ⟨⟨x41, h42⟩, ex41, hf⟩ := bnd hf
                      dsimp only at hf
                      refine r_callV (av := [.long x31]) (st := [.int l5, .ref x40]) O (c_X9_bounded ex41) mf_X9_bounded cf9 (kd_X9_bounded ex41) ml_X9_192 mi_X9_bounded mv_X9_bounded (by decide) (Nat.le_of_ble_eq_true rfl) (by decide) dX9_work_448 ?_
                      obtain ⟨h43, eh43, hf⟩ := bnd hf
                      refine r_stJ O eh43 dX9_work_451 ?_
                      refine r_goto (tgt := 766) O dX9_work_452 (by decide) ?_
                      obtain ⟨rfl, rfl⟩ := oi2 hf
                      refine AW.sub [3, 4, 5, 6, 7, 0, 1, 8] rfl ?_
                      exact hJ
                    · rw [if_neg hc] at hf
                      have hn436 := hc
                      by_cases hc : x12 = 5 ∨ x12 = 6 ∨ x12 = 7 ∨ x12 = 12 ∨ x12 = 13
                      · rw [if_pos hc] at hf
                        refine r_table_in (off := 144) (tgt := 455) O dX9_work_311 (by rcases hc with hc | hc | hc | hc | hc <;> (rw [hc]; decide)) (by rcases hc with hc | hc | hc | hc | hc <;> (rw [hc]; decide)) (by rcases hc with hc | hc | hc | hc | hc <;> (rw [hc]; rfl)) (by decide) ?_
                        refine r_aload_n O 2 dX9_work_455 rfl (Or.inl rfl) ?_
                        obtain ⟨x44, ex44, hf⟩ := bnd hf
                        refine r_gP O cf9 41 (by decide) rfl fl_X9_93 ex44 dX9_work_456 ?_
                        refine r_iload O 7 dX9_work_459 rfl ?_
                        refine r_iconst O (v := 1) dX9_work_461 (by decide) ?_
                        refine r_isub O dX9_work_462 ?_
                        refine r_iload O 1 dX9_work_463 rfl ?_
                        obtain ⟨x45, hg, hf⟩ := bnd hf
                        have hJ : AW p l e { frames := 4, cells := 0, slots := 0, locals := 93 } s m args below meth c G 23 Q h10 0 0 475 [(0, .ref l0), (1, .ref l1), (2, .int l2), (3, .int l3), (4, .int l4), (5, .int l5), (6, .int (l6 + x23)), (7, .int l7)] [.long x45, .int (l5 - 1), .ref x44] := by
                          obtain ⟨h46, eh46, hf⟩ := bnd hf
                          refine r_stJ O eh46 dX9_work_475 ?_
                          refine r_goto (tgt := 766) O dX9_work_476 (by decide) ?_
                          obtain ⟨rfl, rfl⟩ := oi2 hf
                          refine AW.sub [0, 1, 2, 3, 4, 5, 6, 7] rfl ?_
                          exact hJ
                        clear hf
                        have hf := hg
                        clear hg
                        by_cases hc : x33 = 0
                        · rw [if_pos hc] at hf
                          refine r_if_eq_t (tgt := 473) O dX9_work_465 (by decide) hc ?_
                          refine r_lload O 14 dX9_work_473 rfl ?_
                          obtain rfl := oi1 hf
                          refine AW.sub [2, 3, 4, 5, 6, 7, 0, 8] rfl ?_
                          exact hJ
                        · rw [if_neg hc] at hf
                          refine r_if_eq_f (tgt := 473) O dX9_work_465 (by decide) hc ?_
                          refine r_lload O 11 dX9_work_468 rfl ?_
                          refine r_goto (tgt := 475) O dX9_work_470 (by decide) ?_
                          obtain rfl := oi1 hf
                          refine AW.sub [2, 3, 4, 5, 6, 7, 0, 8] rfl ?_
                          exact hJ
                      · rw [if_neg hc] at hf
                        have hn455 := hc
                        by_cases hc : x12 = 10 ∨ x12 = 11
                        · rw [if_pos hc] at hf
                          refine r_table_in (off := 168) (tgt := 479) O dX9_work_311 (by rcases hc with hc | hc <;> (rw [hc]; decide)) (by rcases hc with hc | hc <;> (rw [hc]; decide)) (by rcases hc with hc | hc <;> (rw [hc]; rfl)) (by decide) ?_
                          refine r_aload_n O 2 dX9_work_479 rfl (Or.inl rfl) ?_
                          obtain ⟨x47, ex47, hf⟩ := bnd hf
                          refine r_gP O cf9 41 (by decide) rfl fl_X9_93 ex47 dX9_work_480 ?_
                          refine r_iload O 7 dX9_work_483 rfl ?_
                          refine r_iconst O (v := 1) dX9_work_485 (by decide) ?_
                          refine r_isub O dX9_work_486 ?_
                          refine r_iload O 13 dX9_work_487 rfl ?_
                          obtain ⟨x48, hg, hf⟩ := bnd hf
                          have hJ : AW p l e { frames := 4, cells := 0, slots := 0, locals := 93 } s m args below meth c G 23 Q h10 0 0 499 [(0, .ref l0), (1, .ref l1), (2, .int l2), (3, .int l3), (4, .int l4), (5, .int l5), (6, .int (l6 + x23)), (7, .int l7)] [.long x48, .int (l5 - 1), .ref x47] := by
                            obtain ⟨h49, eh49, hf⟩ := bnd hf
                            refine r_stJ O eh49 dX9_work_499 ?_
                            refine r_goto (tgt := 766) O dX9_work_500 (by decide) ?_
                            obtain ⟨rfl, rfl⟩ := oi2 hf
                            refine AW.sub [0, 1, 2, 3, 4, 5, 6, 7] rfl ?_
                            exact hJ
                          clear hf
                          have hf := hg
                          clear hg
                          by_cases hc : x23 = 0
                          · rw [if_pos hc] at hf
                            refine r_if_ne_f (tgt := 497) O dX9_work_489 (by decide) hc ?_
                            refine r_lload O 11 dX9_work_492 rfl ?_
                            refine r_goto (tgt := 499) O dX9_work_494 (by decide) ?_
                            obtain rfl := oi1 hf
                            refine AW.sub [2, 3, 4, 5, 6, 7, 0, 8] rfl ?_
                            exact hJ
                          · rw [if_neg hc] at hf
                            refine r_if_ne_t (tgt := 497) O dX9_work_489 (by decide) hc ?_
                            refine r_lload O 15 dX9_work_497 rfl ?_
                            obtain rfl := oi1 hf
                            refine AW.sub [2, 3, 4, 5, 6, 7, 0, 8] rfl ?_
                            exact hJ
                        · rw [if_neg hc] at hf
                          have hn479 := hc
                          by_cases hc : x12 = 14
                          · rw [if_pos hc] at hf
                            refine r_table_in (off := 192) (tgt := 503) O dX9_work_311 (by (rw [hc]; decide)) (by (rw [hc]; decide)) (by (rw [hc]; rfl)) (by decide) ?_
                            refine r_iinc O 7 [(5, .int (l5 + (-1))), (6, .int (l6 + x23)), (20, .int x33), (0, .ref l0), (1, .ref l1), (2, .int l2), (3, .int l3), (4, .int l4), (7, .int l7), (8, .int x12), (9, .int x14), (10, .long x15), (12, .long x18), (15, .int x23), (16, .long x31), (18, .long x32)] dX9_work_503 rfl rfl (by decide) rfl ?_
                            refine r_aload_n O 3 dX9_work_506 rfl (Or.inl rfl) ?_
                            obtain ⟨x50, ex50, hf⟩ := bnd hf
                            refine r_gP O cf9 41 (by decide) rfl fl_X9_93 ex50 dX9_work_507 ?_
                            refine r_iload O 0 dX9_work_510 rfl ?_
                            refine r_iconst O (v := 1) dX9_work_512 (by decide) ?_
                            refine r_isub O dX9_work_513 ?_
                            refine r_aload_n O 3 dX9_work_514 rfl (Or.inl rfl) ?_
                            refine r_lload O 12 dX9_work_515 rfl ?_
                            refine r_lload O 11 dX9_work_517 rfl ?_
                            refine r_ladd O dX9_work_519 ?_
                            obtain ⟨⟨x51, h52⟩, ex51, hf⟩ := bnd hf
                            dsimp only at hf
                            refine r_callV (av := [.long (x18 + x15)]) (st := [.int ((l5 + (-1)) - 1), .ref x50]) O (c_X9_bounded ex51) mf_X9_bounded cf9 (kd_X9_bounded ex51) ml_X9_192 mi_X9_bounded mv_X9_bounded (by decide) (Nat.le_of_ble_eq_true rfl) (by decide) dX9_work_520 ?_
                            obtain ⟨h53, eh53, hf⟩ := bnd hf
                            refine r_stJ O eh53 dX9_work_523 ?_
                            refine r_goto (tgt := 766) O dX9_work_524 (by decide) ?_
                            obtain ⟨rfl, rfl⟩ := oi2 hf
                            refine AW.sub [3, 4, 5, 6, 7, 0, 1, 8] rfl ?_
                            exact hJ
                          · rw [if_neg hc] at hf
                            have hn503 := hc
                            by_cases hc : x12 = 15
                            · rw [if_pos hc] at hf
                              refine r_table_in (off := 216) (tgt := 527) O dX9_work_311 (by (rw [hc]; decide)) (by (rw [hc]; decide)) (by (rw [hc]; rfl)) (by decide) ?_
                              refine r_iinc O 7 [(5, .int (l5 + (-1))), (6, .int (l6 + x23)), (20, .int x33), (0, .ref l0), (1, .ref l1), (2, .int l2), (3, .int l3), (4, .int l4), (7, .int l7), (8, .int x12), (9, .int x14), (10, .long x15), (12, .long x18), (15, .int x23), (16, .long x31), (18, .long x32)] dX9_work_527 rfl rfl (by decide) rfl ?_
                              refine r_aload_n O 3 dX9_work_530 rfl (Or.inl rfl) ?_
                              obtain ⟨x54, ex54, hf⟩ := bnd hf
                              refine r_gP O cf9 41 (by decide) rfl fl_X9_93 ex54 dX9_work_531 ?_
                              refine r_iload O 0 dX9_work_534 rfl ?_
                              refine r_iconst O (v := 1) dX9_work_536 (by decide) ?_
                              refine r_isub O dX9_work_537 ?_
                              refine r_aload_n O 3 dX9_work_538 rfl (Or.inl rfl) ?_
                              refine r_lload O 12 dX9_work_539 rfl ?_
                              refine r_lload O 11 dX9_work_541 rfl ?_
                              refine r_lsub O dX9_work_543 ?_
                              obtain ⟨⟨x55, h56⟩, ex55, hf⟩ := bnd hf
                              dsimp only at hf
                              refine r_callV (av := [.long (x18 - x15)]) (st := [.int ((l5 + (-1)) - 1), .ref x54]) O (c_X9_bounded ex55) mf_X9_bounded cf9 (kd_X9_bounded ex55) ml_X9_192 mi_X9_bounded mv_X9_bounded (by decide) (Nat.le_of_ble_eq_true rfl) (by decide) dX9_work_544 ?_
                              obtain ⟨h57, eh57, hf⟩ := bnd hf
                              refine r_stJ O eh57 dX9_work_547 ?_
                              refine r_goto (tgt := 766) O dX9_work_548 (by decide) ?_
                              obtain ⟨rfl, rfl⟩ := oi2 hf
                              refine AW.sub [3, 4, 5, 6, 7, 0, 1, 8] rfl ?_
                              exact hJ
                            · rw [if_neg hc] at hf
                              have hn527 := hc
                              by_cases hc : x12 = 16
                              · rw [if_pos hc] at hf
                                refine r_table_in (off := 240) (tgt := 551) O dX9_work_311 (by (rw [hc]; decide)) (by (rw [hc]; decide)) (by (rw [hc]; rfl)) (by decide) ?_
                                refine r_iinc O 7 [(5, .int (l5 + (-1))), (6, .int (l6 + x23)), (20, .int x33), (0, .ref l0), (1, .ref l1), (2, .int l2), (3, .int l3), (4, .int l4), (7, .int l7), (8, .int x12), (9, .int x14), (10, .long x15), (12, .long x18), (15, .int x23), (16, .long x31), (18, .long x32)] dX9_work_551 rfl rfl (by decide) rfl ?_
                                refine r_aload_n O 3 dX9_work_554 rfl (Or.inl rfl) ?_
                                obtain ⟨x58, ex58, hf⟩ := bnd hf
                                refine r_gP O cf9 41 (by decide) rfl fl_X9_93 ex58 dX9_work_555 ?_
                                refine r_iload O 0 dX9_work_558 rfl ?_
                                refine r_iconst O (v := 1) dX9_work_560 (by decide) ?_
                                refine r_isub O dX9_work_561 ?_
                                refine r_aload_n O 3 dX9_work_562 rfl (Or.inl rfl) ?_
                                refine r_lload O 12 dX9_work_563 rfl ?_
                                refine r_lload O 11 dX9_work_565 rfl ?_
                                obtain ⟨⟨x59, h60⟩, ex59, hf⟩ := bnd hf
                                dsimp only at hf
                                refine r_callV (av := [.long x18, .long x15]) (st := [.int ((l5 + (-1)) - 1), .ref x58]) O (c_X9_times ex59) mf_X9_times cf9 (kd_X9_times ex59) ml_X9_196 mi_X9_times mv_X9_times (by decide) (Nat.le_of_ble_eq_true rfl) (by decide) dX9_work_567 ?_
                                obtain ⟨h61, eh61, hf⟩ := bnd hf
                                refine r_stJ O eh61 dX9_work_570 ?_
                                refine r_goto (tgt := 766) O dX9_work_571 (by decide) ?_
                                obtain ⟨rfl, rfl⟩ := oi2 hf
                                refine AW.sub [3, 4, 5, 6, 7, 0, 1, 8] rfl ?_
                                exact hJ
                              · rw [if_neg hc] at hf
                                have hn551 := hc
                                by_cases hc : x12 = 17
                                · rw [if_pos hc] at hf
                                  refine r_table_in (off := 263) (tgt := 574) O dX9_work_311 (by (rw [hc]; decide)) (by (rw [hc]; decide)) (by (rw [hc]; rfl)) (by decide) ?_
                                  refine r_iinc O 7 [(5, .int (l5 + (-1))), (6, .int (l6 + x23)), (20, .int x33), (0, .ref l0), (1, .ref l1), (2, .int l2), (3, .int l3), (4, .int l4), (7, .int l7), (8, .int x12), (9, .int x14), (10, .long x15), (12, .long x18), (15, .int x23), (16, .long x31), (18, .long x32)] dX9_work_574 rfl rfl (by decide) rfl ?_
                                  refine r_lload O 11 dX9_work_577 rfl ?_
                                  refine r_lconst O (v := 0) dX9_work_579 (by decide) ?_
                                  refine r_lcmp O dX9_work_580 ?_
                                  by_cases hc : (lg_cmp x15 0) = 0
                                  · rw [if_pos hc] at hf
                                    refine r_if_ne_f (tgt := 592) O dX9_work_581 (by decide) hc ?_
                                    refine r_aload_n O 3 dX9_work_584 rfl (Or.inl rfl) ?_
                                    refine r_iconst O (v := 1) dX9_work_585 (by decide) ?_
                                    obtain ⟨h65, eh65, hf⟩ := bnd hf
                                    refine r_pI O cf9 28 (by decide) rfl fl_X9_67 rfl eh65 dX9_work_586 ?_
                                    refine r_goto (tgt := 766) O dX9_work_589 (by decide) ?_
                                    obtain ⟨rfl, rfl⟩ := oi2 hf
                                    refine AW.sub [3, 4, 5, 6, 7, 0, 1, 8] rfl ?_
                                    exact hJ
                                  · rw [if_neg hc] at hf
                                    refine r_if_ne_t (tgt := 592) O dX9_work_581 (by decide) hc ?_
                                    refine r_aload_n O 3 dX9_work_592 rfl (Or.inl rfl) ?_
                                    obtain ⟨x62, ex62, hf⟩ := bnd hf
                                    refine r_gP O cf9 41 (by decide) rfl fl_X9_93 ex62 dX9_work_593 ?_
                                    refine r_iload O 0 dX9_work_596 rfl ?_
                                    refine r_iconst O (v := 1) dX9_work_598 (by decide) ?_
                                    refine r_isub O dX9_work_599 ?_
                                    refine r_lload O 12 dX9_work_600 rfl ?_
                                    refine r_lload O 11 dX9_work_602 rfl ?_
                                    obtain ⟨x63, ex63, hf⟩ := bnd hf
                                    refine r_dvJ O ex63 dX9_work_604 ?_
                                    obtain ⟨h64, eh64, hf⟩ := bnd hf
                                    refine r_stJ O eh64 dX9_work_605 ?_
                                    refine r_goto (tgt := 766) O dX9_work_606 (by decide) ?_
                                    obtain ⟨rfl, rfl⟩ := oi2 hf
                                    refine AW.sub [3, 4, 5, 6, 7, 0, 1, 8] rfl ?_
                                    exact hJ
                                · rw [if_neg hc] at hf
                                  have hn574 := hc
                                  by_cases hc : x12 = 18
                                  · rw [if_pos hc] at hf
                                    refine r_table_in (off := 298) (tgt := 609) O dX9_work_311 (by (rw [hc]; decide)) (by (rw [hc]; decide)) (by (rw [hc]; rfl)) (by decide) ?_
                                    refine r_iinc O 7 [(5, .int (l5 + (-1))), (6, .int (l6 + x23)), (20, .int x33), (0, .ref l0), (1, .ref l1), (2, .int l2), (3, .int l3), (4, .int l4), (7, .int l7), (8, .int x12), (9, .int x14), (10, .long x15), (12, .long x18), (15, .int x23), (16, .long x31), (18, .long x32)] dX9_work_609 rfl rfl (by decide) rfl ?_
                                    refine r_aload_n O 3 dX9_work_612 rfl (Or.inl rfl) ?_
                                    obtain ⟨x66, ex66, hf⟩ := bnd hf
                                    refine r_gP O cf9 41 (by decide) rfl fl_X9_93 ex66 dX9_work_613 ?_
                                    refine r_iload O 0 dX9_work_616 rfl ?_
                                    refine r_iconst O (v := 1) dX9_work_618 (by decide) ?_
                                    refine r_isub O dX9_work_619 ?_
                                    refine r_lload O 11 dX9_work_620 rfl ?_
                                    refine r_lload O 12 dX9_work_622 rfl ?_
                                    refine r_lcmp O dX9_work_624 ?_
                                    obtain ⟨x67, hg, hf⟩ := bnd hf
                                    have hJ : AW p l e { frames := 4, cells := 0, slots := 0, locals := 93 } s m args below meth c G 23 Q h10 0 0 635 [(0, .ref l0), (1, .ref l1), (2, .int l2), (3, .int l3), (4, .int l4), (5, .int (l5 + (-1))), (6, .int (l6 + x23)), (7, .int l7)] [.long x67, .int ((l5 + (-1)) - 1), .ref x66] := by
                                      obtain ⟨h68, eh68, hf⟩ := bnd hf
                                      refine r_stJ O eh68 dX9_work_635 ?_
                                      refine r_goto (tgt := 766) O dX9_work_636 (by decide) ?_
                                      obtain ⟨rfl, rfl⟩ := oi2 hf
                                      refine AW.sub [0, 1, 2, 3, 4, 5, 6, 7] rfl ?_
                                      exact hJ
                                    clear hf
                                    have hf := hg
                                    clear hg
                                    by_cases hc : 0 ≤ (lg_cmp x15 x18)
                                    · rw [if_pos hc] at hf
                                      refine r_if_ge_t (tgt := 633) O dX9_work_625 (by decide) hc ?_
                                      refine r_lload O 12 dX9_work_633 rfl ?_
                                      obtain rfl := oi1 hf
                                      refine AW.sub [3, 4, 5, 6, 7, 0, 1, 8] rfl ?_
                                      exact hJ
                                    · rw [if_neg hc] at hf
                                      refine r_if_ge_f (tgt := 633) O dX9_work_625 (by decide) hc ?_
                                      refine r_lload O 11 dX9_work_628 rfl ?_
                                      refine r_goto (tgt := 635) O dX9_work_630 (by decide) ?_
                                      obtain rfl := oi1 hf
                                      refine AW.sub [3, 4, 5, 6, 7, 0, 1, 8] rfl ?_
                                      exact hJ
                                  · rw [if_neg hc] at hf
                                    have hn609 := hc
                                    by_cases hc : x12 = 19
                                    · rw [if_pos hc] at hf
                                      refine r_table_in (off := 328) (tgt := 639) O dX9_work_311 (by (rw [hc]; decide)) (by (rw [hc]; decide)) (by (rw [hc]; rfl)) (by decide) ?_
                                      refine r_iinc O 7 [(5, .int (l5 + (-1))), (6, .int (l6 + x23)), (20, .int x33), (0, .ref l0), (1, .ref l1), (2, .int l2), (3, .int l3), (4, .int l4), (7, .int l7), (8, .int x12), (9, .int x14), (10, .long x15), (12, .long x18), (15, .int x23), (16, .long x31), (18, .long x32)] dX9_work_639 rfl rfl (by decide) rfl ?_
                                      refine r_aload_n O 3 dX9_work_642 rfl (Or.inl rfl) ?_
                                      obtain ⟨x69, ex69, hf⟩ := bnd hf
                                      refine r_gP O cf9 41 (by decide) rfl fl_X9_93 ex69 dX9_work_643 ?_
                                      refine r_iload O 0 dX9_work_646 rfl ?_
                                      refine r_iconst O (v := 1) dX9_work_648 (by decide) ?_
                                      refine r_isub O dX9_work_649 ?_
                                      refine r_lload O 11 dX9_work_650 rfl ?_
                                      refine r_lload O 12 dX9_work_652 rfl ?_
                                      refine r_lcmp O dX9_work_654 ?_
                                      obtain ⟨x70, hg, hf⟩ := bnd hf
                                      have hJ : AW p l e { frames := 4, cells := 0, slots := 0, locals := 93 } s m args below meth c G 23 Q h10 0 0 665 [(0, .ref l0), (1, .ref l1), (2, .int l2), (3, .int l3), (4, .int l4), (5, .int (l5 + (-1))), (6, .int (l6 + x23)), (7, .int l7)] [.long x70, .int ((l5 + (-1)) - 1), .ref x69] := by
                                        obtain ⟨h71, eh71, hf⟩ := bnd hf
                                        refine r_stJ O eh71 dX9_work_665 ?_
                                        refine r_goto (tgt := 766) O dX9_work_666 (by decide) ?_
                                        obtain ⟨rfl, rfl⟩ := oi2 hf
                                        refine AW.sub [0, 1, 2, 3, 4, 5, 6, 7] rfl ?_
                                        exact hJ
                                      clear hf
                                      have hf := hg
                                      clear hg
                                      by_cases hc : (lg_cmp x15 x18) ≤ 0
                                      · rw [if_pos hc] at hf
                                        refine r_if_le_t (tgt := 663) O dX9_work_655 (by decide) hc ?_
                                        refine r_lload O 12 dX9_work_663 rfl ?_
                                        obtain rfl := oi1 hf
                                        refine AW.sub [3, 4, 5, 6, 7, 0, 1, 8] rfl ?_
                                        exact hJ
                                      · rw [if_neg hc] at hf
                                        refine r_if_le_f (tgt := 663) O dX9_work_655 (by decide) hc ?_
                                        refine r_lload O 11 dX9_work_658 rfl ?_
                                        refine r_goto (tgt := 665) O dX9_work_660 (by decide) ?_
                                        obtain rfl := oi1 hf
                                        refine AW.sub [3, 4, 5, 6, 7, 0, 1, 8] rfl ?_
                                        exact hJ
                                    · rw [if_neg hc] at hf
                                      have hn639 := hc
                                      by_cases hc : x12 = 20
                                      · rw [if_pos hc] at hf
                                        refine r_table_in (off := 358) (tgt := 669) O dX9_work_311 (by (rw [hc]; decide)) (by (rw [hc]; decide)) (by (rw [hc]; rfl)) (by decide) ?_
                                        refine r_iinc O 7 [(5, .int (l5 + (-2))), (6, .int (l6 + x23)), (20, .int x33), (0, .ref l0), (1, .ref l1), (2, .int l2), (3, .int l3), (4, .int l4), (7, .int l7), (8, .int x12), (9, .int x14), (10, .long x15), (12, .long x18), (15, .int x23), (16, .long x31), (18, .long x32)] dX9_work_669 rfl rfl (by decide) rfl ?_
                                        refine r_aload_n O 3 dX9_work_672 rfl (Or.inl rfl) ?_
                                        obtain ⟨x72, ex72, hf⟩ := bnd hf
                                        refine r_gP O cf9 41 (by decide) rfl fl_X9_93 ex72 dX9_work_673 ?_
                                        refine r_iload O 0 dX9_work_676 rfl ?_
                                        refine r_iconst O (v := 1) dX9_work_678 (by decide) ?_
                                        refine r_isub O dX9_work_679 ?_
                                        refine r_aload_n O 3 dX9_work_680 rfl (Or.inl rfl) ?_
                                        obtain ⟨x73, ex73, hf⟩ := bnd hf
                                        refine r_gP O cf9 41 (by decide) rfl fl_X9_93 ex73 dX9_work_681 ?_
                                        refine r_iload O 0 dX9_work_684 rfl ?_
                                        refine r_iconst O (v := 1) dX9_work_686 (by decide) ?_
                                        refine r_isub O dX9_work_687 ?_
                                        obtain ⟨x74, ex74, hf⟩ := bnd hf
                                        refine r_ldJ O ex74 dX9_work_688 ?_
                                        refine r_lconst O (v := 0) dX9_work_689 (by decide) ?_
                                        refine r_lcmp O dX9_work_690 ?_
                                        obtain ⟨x75, hg, hf⟩ := bnd hf
                                        have hJ : AW p l e { frames := 4, cells := 0, slots := 0, locals := 93 } s m args below meth c G 23 Q h10 0 0 701 [(0, .ref l0), (1, .ref l1), (2, .int l2), (3, .int l3), (4, .int l4), (5, .int (l5 + (-2))), (6, .int (l6 + x23)), (7, .int l7)] [.long x75, .int ((l5 + (-2)) - 1), .ref x72] := by
                                          obtain ⟨h76, eh76, hf⟩ := bnd hf
                                          refine r_stJ O eh76 dX9_work_701 ?_
                                          refine r_goto (tgt := 766) O dX9_work_702 (by decide) ?_
                                          obtain ⟨rfl, rfl⟩ := oi2 hf
                                          refine AW.sub [0, 1, 2, 3, 4, 5, 6, 7] rfl ?_
                                          exact hJ
                                        clear hf
                                        have hf := hg
                                        clear hg
                                        by_cases hc : (lg_cmp x74 0) ≤ 0
                                        · rw [if_pos hc] at hf
                                          refine r_if_le_t (tgt := 699) O dX9_work_691 (by decide) hc ?_
                                          refine r_lload O 11 dX9_work_699 rfl ?_
                                          obtain rfl := oi1 hf
                                          refine AW.sub [3, 4, 5, 6, 7, 0, 1, 8] rfl ?_
                                          exact hJ
                                        · rw [if_neg hc] at hf
                                          refine r_if_le_f (tgt := 699) O dX9_work_691 (by decide) hc ?_
                                          refine r_lload O 12 dX9_work_694 rfl ?_
                                          refine r_goto (tgt := 701) O dX9_work_696 (by decide) ?_
                                          obtain rfl := oi1 hf
                                          refine AW.sub [3, 4, 5, 6, 7, 0, 1, 8] rfl ?_
                                          exact hJ
                                      · rw [if_neg hc] at hf
                                        have hn669 := hc
                                        by_cases hc : x12 = 21
                                        · rw [if_pos hc] at hf
                                          refine r_table_in (off := 394) (tgt := 705) O dX9_work_311 (by (rw [hc]; decide)) (by (rw [hc]; decide)) (by (rw [hc]; rfl)) (by decide) ?_
                                          refine r_iinc O 7 [(5, .int (l5 + (-1))), (6, .int (l6 + x23)), (20, .int x33), (0, .ref l0), (1, .ref l1), (2, .int l2), (3, .int l3), (4, .int l4), (7, .int l7), (8, .int x12), (9, .int x14), (10, .long x15), (12, .long x18), (15, .int x23), (16, .long x31), (18, .long x32)] dX9_work_705 rfl rfl (by decide) rfl ?_
                                          refine r_lload O 11 dX9_work_708 rfl ?_
                                          refine r_lconst O (v := 0) dX9_work_710 (by decide) ?_
                                          refine r_lcmp O dX9_work_711 ?_
                                          by_cases hc : (lg_cmp x15 0) = 0
                                          · rw [if_pos hc] at hf
                                            refine r_if_eq_t (tgt := 766) O dX9_work_712 (by decide) hc ?_
                                            obtain ⟨rfl, rfl⟩ := oi2 hf
                                            refine AW.sub [3, 4, 5, 6, 7, 0, 1, 8] rfl ?_
                                            exact hJ
                                          · rw [if_neg hc] at hf
                                            refine r_if_eq_f (tgt := 766) O dX9_work_712 (by decide) hc ?_
                                            refine r_aload_n O 3 dX9_work_715 rfl (Or.inl rfl) ?_
                                            refine r_iconst O (v := 2) dX9_work_716 (by decide) ?_
                                            obtain ⟨h77, eh77, hf⟩ := bnd hf
                                            refine r_pI O cf9 28 (by decide) rfl fl_X9_67 rfl eh77 dX9_work_717 ?_
                                            refine r_goto (tgt := 766) O dX9_work_720 (by decide) ?_
                                            obtain ⟨rfl, rfl⟩ := oi2 hf
                                            refine AW.sub [3, 4, 5, 6, 7, 0, 1, 8] rfl ?_
                                            exact hJ
                                        · rw [if_neg hc] at hf
                                          have hn705 := hc
                                          by_cases hc : x12 = 22
                                          · rw [if_pos hc] at hf
                                            refine r_table_in (off := 412) (tgt := 723) O dX9_work_311 (by (rw [hc]; decide)) (by (rw [hc]; decide)) (by (rw [hc]; rfl)) (by decide) ?_
                                            refine r_aload_n O 2 dX9_work_723 rfl (Or.inl rfl) ?_
                                            obtain ⟨x78, ex78, hf⟩ := bnd hf
                                            refine r_gP O cf9 41 (by decide) rfl fl_X9_93 ex78 dX9_work_724 ?_
                                            refine r_iload O 7 dX9_work_727 rfl ?_
                                            refine r_iinc O 7 [(5, .int (l5 + 1)), (6, .int (l6 + x23)), (20, .int x33), (0, .ref l0), (1, .ref l1), (2, .int l2), (3, .int l3), (4, .int l4), (7, .int l7), (8, .int x12), (9, .int x14), (10, .long x15), (12, .long x18), (15, .int x23), (16, .long x31), (18, .long x32)] dX9_work_729 rfl rfl (by decide) rfl ?_
                                            refine r_lload O 11 dX9_work_732 rfl ?_
                                            obtain ⟨h79, eh79, hf⟩ := bnd hf
                                            refine r_stJ O eh79 dX9_work_734 ?_
                                            refine r_goto (tgt := 766) O dX9_work_735 (by decide) ?_
                                            obtain ⟨rfl, rfl⟩ := oi2 hf
                                            refine AW.sub [3, 4, 5, 6, 7, 0, 1, 8] rfl ?_
                                            exact hJ
                                          · rw [if_neg hc] at hf
                                            have hn723 := hc
                                            by_cases hc : x12 = 23
                                            · rw [if_pos hc] at hf
                                              refine r_table_in (off := 427) (tgt := 738) O dX9_work_311 (by (rw [hc]; decide)) (by (rw [hc]; decide)) (by (rw [hc]; rfl)) (by decide) ?_
                                              refine r_aload_n O 2 dX9_work_738 rfl (Or.inl rfl) ?_
                                              obtain ⟨x80, ex80, hf⟩ := bnd hf
                                              refine r_gP O cf9 41 (by decide) rfl fl_X9_93 ex80 dX9_work_739 ?_
                                              refine r_iload O 7 dX9_work_742 rfl ?_
                                              refine r_iconst O (v := 1) dX9_work_744 (by decide) ?_
                                              refine r_isub O dX9_work_745 ?_
                                              refine r_lload O 12 dX9_work_746 rfl ?_
                                              obtain ⟨h81, eh81, hf⟩ := bnd hf
                                              refine r_stJ O eh81 dX9_work_748 ?_
                                              refine r_aload_n O 2 dX9_work_749 rfl (Or.inl rfl) ?_
                                              obtain ⟨x82, ex82, hf⟩ := bnd hf
                                              refine r_gP O cf9 41 (by decide) rfl fl_X9_93 ex82 dX9_work_750 ?_
                                              refine r_iload O 7 dX9_work_753 rfl ?_
                                              refine r_iconst O (v := 2) dX9_work_755 (by decide) ?_
                                              refine r_isub O dX9_work_756 ?_
                                              refine r_lload O 11 dX9_work_757 rfl ?_
                                              obtain ⟨h83, eh83, hf⟩ := bnd hf
                                              refine r_stJ O eh83 dX9_work_759 ?_
                                              refine r_goto (tgt := 766) O dX9_work_760 (by decide) ?_
                                              obtain ⟨rfl, rfl⟩ := oi2 hf
                                              refine AW.sub [2, 3, 4, 5, 6, 7, 0, 8] rfl ?_
                                              exact hJ
                                            · rw [if_neg hc] at hf
                                              have hn738 := hc
                                              have hout := tb_out (x := x12) 0 24 (fun j hj => by
                                                rcases (show j = 0 ∨ j = 1 ∨ j = 2 ∨ j = 3 ∨ j = 4 ∨ j = 5 ∨ j = 6 ∨ j = 7 ∨ j = 8 ∨ j = 9 ∨ j = 10 ∨ j = 11 ∨ j = 12 ∨ j = 13 ∨ j = 14 ∨ j = 15 ∨ j = 16 ∨ j = 17 ∨ j = 18 ∨ j = 19 ∨ j = 20 ∨ j = 21 ∨ j = 22 ∨ j = 23 by omega) with rfl | rfl | rfl | rfl | rfl | rfl | rfl | rfl | rfl | rfl | rfl | rfl | rfl | rfl | rfl | rfl | rfl | rfl | rfl | rfl | rfl | rfl | rfl | rfl
                                                · exact fun q => hn420 (q.trans (by decide))
                                                · exact fun q => hn436 (Or.inl (q.trans (by decide)))
                                                · exact fun q => hn436 (Or.inr (Or.inl (q.trans (by decide))))
                                                · exact fun q => hn436 (Or.inr (Or.inr (Or.inl (q.trans (by decide)))))
                                                · exact fun q => hn436 (Or.inr (Or.inr (Or.inr (Or.inl (q.trans (by decide))))))
                                                · exact fun q => hn455 (Or.inl (q.trans (by decide)))
                                                · exact fun q => hn455 (Or.inr (Or.inl (q.trans (by decide))))
                                                · exact fun q => hn455 (Or.inr (Or.inr (Or.inl (q.trans (by decide)))))
                                                · exact fun q => hn436 (Or.inr (Or.inr (Or.inr (Or.inr (Or.inl (q.trans (by decide)))))))
                                                · exact fun q => hn436 (Or.inr (Or.inr (Or.inr (Or.inr (Or.inr (q.trans (by decide)))))))
                                                · exact fun q => hn479 (Or.inl (q.trans (by decide)))
                                                · exact fun q => hn479 (Or.inr (q.trans (by decide)))
                                                · exact fun q => hn455 (Or.inr (Or.inr (Or.inr (Or.inl (q.trans (by decide))))))
                                                · exact fun q => hn455 (Or.inr (Or.inr (Or.inr (Or.inr (q.trans (by decide))))))
                                                · exact fun q => hn503 (q.trans (by decide))
                                                · exact fun q => hn527 (q.trans (by decide))
                                                · exact fun q => hn551 (q.trans (by decide))
                                                · exact fun q => hn574 (q.trans (by decide))
                                                · exact fun q => hn609 (q.trans (by decide))
                                                · exact fun q => hn639 (q.trans (by decide))
                                                · exact fun q => hn669 (q.trans (by decide))
                                                · exact fun q => hn705 (q.trans (by decide))
                                                · exact fun q => hn723 (q.trans (by decide))
                                                · exact fun q => hn738 (q.trans (by decide)))
                                              refine r_table_out (tgt := 763) O dX9_work_311 hout (by decide) ?_
                                              refine r_iinc O 7 [(5, .int (l5 + (-1))), (6, .int (l6 + x23)), (20, .int x33), (0, .ref l0), (1, .ref l1), (2, .int l2), (3, .int l3), (4, .int l4), (7, .int l7), (8, .int x12), (9, .int x14), (10, .long x15), (12, .long x18), (15, .int x23), (16, .long x31), (18, .long x32)] dX9_work_763 rfl rfl (by decide) rfl ?_
                                              obtain ⟨rfl, rfl⟩ := oi2 hf
                                              refine AW.sub [3, 4, 5, 6, 7, 0, 1, 8] rfl ?_
                                              exact hJ
                clear hf
                have hf := hg
                clear hg
                by_cases hc : x23 ≤ 0
                · rw [if_pos hc] at hf
                  refine r_if_le_t (tgt := 299) O dX9_work_282 (by decide) hc ?_
                  refine r_iconst O (v := 0) dX9_work_299 (by decide) ?_
                  obtain rfl := oi1 hf
                  refine AW.sub [0, 1, 2, 3, 4, 5, 6, 7, 8, 9, 10, 11, 12, 13, 14] rfl ?_
                  exact hJ
                · rw [if_neg hc] at hf
                  refine r_if_le_f (tgt := 299) O dX9_work_282 (by decide) hc ?_
                  refine r_aload_n O 0 dX9_work_285 rfl (Or.inl rfl) ?_
                  obtain ⟨x34, ex34, hf⟩ := bnd hf
                  refine r_gP O cf9 33 (by decide) rfl fl_X9_73 ex34 dX9_work_286 ?_
                  refine r_iload O 6 dX9_work_289 rfl ?_
                  obtain ⟨x35, ex35, hf⟩ := bnd hf
                  refine r_ldI O ex35 dX9_work_291 ?_
                  by_cases hc : x35 = 0
                  · rw [if_pos hc] at hf
                    refine r_if_ne_f (tgt := 299) O dX9_work_292 (by decide) hc ?_
                    refine r_iconst O (v := 1) dX9_work_295 (by decide) ?_
                    refine r_goto (tgt := 300) O dX9_work_296 (by decide) ?_
                    obtain rfl := oi1 hf
                    refine AW.sub [0, 1, 2, 3, 4, 5, 6, 7, 8, 9, 10, 11, 12, 13, 14] rfl ?_
                    exact hJ
                  · rw [if_neg hc] at hf
                    refine r_if_ne_t (tgt := 299) O dX9_work_292 (by decide) hc ?_
                    refine r_iconst O (v := 0) dX9_work_299 (by decide) ?_
                    obtain rfl := oi1 hf
                    refine AW.sub [0, 1, 2, 3, 4, 5, 6, 7, 8, 9, 10, 11, 12, 13, 14] rfl ?_
                    exact hJ
              clear hf
              have hf := hg
              clear hg
              by_cases hc : x12 < 9
              · rw [if_pos hc] at hf
                refine r_icmp_lt_t (tgt := 167) O dX9_work_146 (by decide) hc ?_
                refine r_iload O 9 dX9_work_167 rfl ?_
                refine r_iconst O (v := 1) dX9_work_169 (by decide) ?_
                by_cases hc : x12 < 1
                · rw [if_pos hc] at hf
                  refine r_icmp_lt_t (tgt := 184) O dX9_work_170 (by decide) hc ?_
                  refine r_iconst O (v := 0) dX9_work_184 (by decide) ?_
                  obtain rfl := oi1 hf
                  refine AW.sub [1, 2, 3, 4, 5, 6, 7, 8, 9, 10, 11, 12] rfl ?_
                  exact hJ
                · rw [if_neg hc] at hf
                  refine r_icmp_lt_f (tgt := 184) O dX9_work_170 (by decide) hc ?_
                  refine r_iload O 9 dX9_work_173 rfl ?_
                  refine r_bipush O (v := 13) dX9_work_175 (by decide) ?_
                  by_cases hc : 13 < x12
                  · rw [if_pos hc] at hf
                    refine r_icmp_gt_t (tgt := 184) O dX9_work_177 (by decide) hc ?_
                    refine r_iconst O (v := 0) dX9_work_184 (by decide) ?_
                    obtain rfl := oi1 hf
                    refine AW.sub [1, 2, 3, 4, 5, 6, 7, 8, 9, 10, 11, 12] rfl ?_
                    exact hJ
                  · rw [if_neg hc] at hf
                    refine r_icmp_gt_f (tgt := 184) O dX9_work_177 (by decide) hc ?_
                    refine r_iconst O (v := 1) dX9_work_180 (by decide) ?_
                    refine r_goto (tgt := 185) O dX9_work_181 (by decide) ?_
                    obtain rfl := oi1 hf
                    refine AW.sub [1, 2, 3, 4, 5, 6, 7, 8, 9, 10, 11, 12] rfl ?_
                    exact hJ
              · rw [if_neg hc] at hf
                refine r_icmp_lt_f (tgt := 167) O dX9_work_146 (by decide) hc ?_
                refine r_iload O 9 dX9_work_149 rfl ?_
                refine r_bipush O (v := 11) dX9_work_151 (by decide) ?_
                by_cases hc : 11 < x12
                · rw [if_pos hc] at hf
                  refine r_icmp_gt_t (tgt := 167) O dX9_work_153 (by decide) hc ?_
                  refine r_iload O 9 dX9_work_167 rfl ?_
                  refine r_iconst O (v := 1) dX9_work_169 (by decide) ?_
                  by_cases hc : x12 < 1
                  · rw [if_pos hc] at hf
                    refine r_icmp_lt_t (tgt := 184) O dX9_work_170 (by decide) hc ?_
                    refine r_iconst O (v := 0) dX9_work_184 (by decide) ?_
                    obtain rfl := oi1 hf
                    refine AW.sub [1, 2, 3, 4, 5, 6, 7, 8, 9, 10, 11, 12] rfl ?_
                    exact hJ
                  · rw [if_neg hc] at hf
                    refine r_icmp_lt_f (tgt := 184) O dX9_work_170 (by decide) hc ?_
                    refine r_iload O 9 dX9_work_173 rfl ?_
                    refine r_bipush O (v := 13) dX9_work_175 (by decide) ?_
                    by_cases hc : 13 < x12
                    · rw [if_pos hc] at hf
                      refine r_icmp_gt_t (tgt := 184) O dX9_work_177 (by decide) hc ?_
                      refine r_iconst O (v := 0) dX9_work_184 (by decide) ?_
                      obtain rfl := oi1 hf
                      refine AW.sub [1, 2, 3, 4, 5, 6, 7, 8, 9, 10, 11, 12] rfl ?_
                      exact hJ
                    · rw [if_neg hc] at hf
                      refine r_icmp_gt_f (tgt := 184) O dX9_work_177 (by decide) hc ?_
                      refine r_iconst O (v := 1) dX9_work_180 (by decide) ?_
                      refine r_goto (tgt := 185) O dX9_work_181 (by decide) ?_
                      obtain rfl := oi1 hf
                      refine AW.sub [1, 2, 3, 4, 5, 6, 7, 8, 9, 10, 11, 12] rfl ?_
                      exact hJ
                · rw [if_neg hc] at hf
                  refine r_icmp_gt_f (tgt := 167) O dX9_work_153 (by decide) hc ?_
                  refine r_aload_n O 2 dX9_work_156 rfl (Or.inl rfl) ?_
                  refine r_sipush O (v := 492) dX9_work_157 (by decide) ?_
                  refine r_iload O 0 dX9_work_160 rfl ?_
                  refine r_iadd O dX9_work_162 ?_
                  obtain ⟨x24, ex24, hf⟩ := bnd hf
                  refine r_ldI O ex24 dX9_work_163 ?_
                  refine r_goto (tgt := 185) O dX9_work_164 (by decide) ?_
                  obtain rfl := oi1 hf
                  refine AW.sub [1, 2, 3, 4, 5, 6, 7, 8, 9, 10, 11, 12] rfl ?_
                  exact hJ
            clear hf
            have hf := hg
            clear hg
            by_cases hc : 240 ≤ l2
            · rw [if_pos hc] at hf
              refine r_icmp_ge_t (tgt := 138) O dX9_work_124 (by decide) hc ?_
              refine r_iload O 5 dX9_work_138 rfl ?_
              obtain rfl := oi1 hf
              refine AW.sub [1, 2, 3, 4, 5, 6, 7, 8, 9, 10, 11, 0] rfl ?_
              exact hJ
            · rw [if_neg hc] at hf
              refine r_icmp_ge_f (tgt := 138) O dX9_work_124 (by decide) hc ?_
              refine r_aload_n O 2 dX9_work_127 rfl (Or.inl rfl) ?_
              refine r_sipush O (v := 212) dX9_work_128 (by decide) ?_
              refine r_iload O 5 dX9_work_131 rfl ?_
              refine r_iadd O dX9_work_133 ?_
              obtain ⟨x22, ex22, hf⟩ := bnd hf
              refine r_ldI O ex22 dX9_work_134 ?_
              refine r_goto (tgt := 140) O dX9_work_135 (by decide) ?_
              obtain rfl := oi1 hf
              refine AW.sub [1, 2, 3, 4, 5, 6, 7, 8, 9, 10, 11, 0] rfl ?_
              exact hJ
          clear hf
          have hf := hg
          clear hg
          by_cases hc : l5 ≤ 1
          · rw [if_pos hc] at hf
            refine r_icmp_le_t (tgt := 117) O dX9_work_102 (by decide) hc ?_
            refine r_lconst O (v := 0) dX9_work_117 (by decide) ?_
            obtain rfl := oi1 hf
            refine AW.sub [1, 2, 3, 4, 5, 6, 7, 8, 9, 10, 0] rfl ?_
            exact hJ
          · rw [if_neg hc] at hf
            refine r_icmp_le_f (tgt := 117) O dX9_work_102 (by decide) hc ?_
            refine r_aload_n O 1 dX9_work_105 rfl (Or.inl rfl) ?_
            obtain ⟨x19, ex19, hf⟩ := bnd hf
            refine r_gP O cf9 41 (by decide) rfl fl_X9_93 ex19 dX9_work_106 ?_
            refine r_iload O 6 dX9_work_109 rfl ?_
            refine r_iconst O (v := 2) dX9_work_111 (by decide) ?_
            refine r_isub O dX9_work_112 ?_
            obtain ⟨x20, ex20, hf⟩ := bnd hf
            refine r_ldJ O ex20 dX9_work_113 ?_
            refine r_goto (tgt := 118) O dX9_work_114 (by decide) ?_
            obtain rfl := oi1 hf
            refine AW.sub [1, 2, 3, 4, 5, 6, 7, 8, 9, 10, 0] rfl ?_
            exact hJ
        clear hf
        have hf := hg
        clear hg
        by_cases hc : l5 ≤ 0
        · rw [if_pos hc] at hf
          refine r_if_le_t (tgt := 96) O dX9_work_81 (by decide) hc ?_
          refine r_lconst O (v := 0) dX9_work_96 (by decide) ?_
          obtain rfl := oi1 hf
          refine AW.sub [2, 3, 4, 5, 6, 7, 8, 9, 1, 0] rfl ?_
          exact hJ
        · rw [if_neg hc] at hf
          refine r_if_le_f (tgt := 96) O dX9_work_81 (by decide) hc ?_
          refine r_aload_n O 2 dX9_work_84 rfl (Or.inl rfl) ?_
          obtain ⟨x16, ex16, hf⟩ := bnd hf
          refine r_gP O cf9 41 (by decide) rfl fl_X9_93 ex16 dX9_work_85 ?_
          refine r_iload O 7 dX9_work_88 rfl ?_
          refine r_iconst O (v := 1) dX9_work_90 (by decide) ?_
          refine r_isub O dX9_work_91 ?_
          obtain ⟨x17, ex17, hf⟩ := bnd hf
          refine r_ldJ O ex17 dX9_work_92 ?_
          refine r_goto (tgt := 97) O dX9_work_93 (by decide) ?_
          obtain rfl := oi1 hf
          refine AW.sub [2, 3, 4, 5, 6, 7, 8, 9, 1, 0] rfl ?_
          exact hJ
      · rw [if_neg hc] at hf
        refine r_icmp_ne_t (tgt := 772) O dX9_work_42 (by decide) hc ?_
        obtain rfl := oi1 hf
        refine AW.sub [0] rfl ?_
        exact kk
theorem kd_X9_work {h : AH} {a0 : Nat} {a1 : Nat} {a2 : Int32} {r : (Int64 × AH)} (hf : f_X9_work h a0 a1 a2 = some r) : aK h a0 = 9 := by
  unfold f_X9_work at hf
  exact (ifk hf).1
set_option maxRecDepth 100000 in
set_option maxHeartbeats 4000000 in
theorem c_X9_work {l : Launch} {G : GT} {h : AH} {a0 : Nat} {a1 : Nat} {a2 : Int32} {r : (Int64 × AH)} (hf : f_X9_work h a0 a1 a2 = some r) : Cn l yX9_work cX9_work 23 (some .long) 4 93 0 0 G h [.ref a0, .ref a1, .int a2] (.ok (some (.long r.1))) r.2 := by
  refine Cn.of (by decide) (Nat.le_of_ble_eq_true rfl) ?_
  intro p e s m args below meth c O hr hx hin
  have O : OkC p l s m args meth c G cX9_work 23 RX9 := O
  unfold f_X9_work at hf
  obtain ⟨hk0, hf⟩ := ifk hf
  refine AW.sub (lv' := [(0, .ref a0), (1, .ref a1), (2, .int a2)]) [0, 1, 2] rfl ?_
  refine r_iload_n O 2 dX9_work_0 rfl ?_
  obtain ⟨x1, ex1, hf⟩ := bnd hf
  refine r_callS (av := [.int a2]) (st := []) O (c_X9_kindOf ex1) mf_X9_kindOf ml_X9_127 ms_X9_kindOf (by decide) (Nat.le_of_ble_eq_true rfl) (by decide) dX9_work_1 ?_
  refine r_istore_n O [(3, .int x1), (0, .ref a0), (1, .ref a1), (2, .int a2)] dX9_work_4 (by decide) rfl ?_
  refine r_iload_n O 3 dX9_work_5 rfl ?_
  obtain ⟨x3, ex3, hf⟩ := bnd hf
  refine r_callS (av := [.int a2]) (st := []) O (c_X9_ownerOf ex3) mf_X9_ownerOf ml_X9_130 ms_X9_ownerOf (by decide) (Nat.le_of_ble_eq_true rfl) (by decide) dX9_work_6 ?_
  refine r_istore O [(4, .int x3), (3, .int x1), (0, .ref a0), (1, .ref a1), (2, .int a2)] dX9_work_9 (by decide) rfl ?_
  refine r_aload_n O 2 dX9_work_11 rfl (Or.inl rfl) ?_
  refine r_aload_n O 3 dX9_work_12 rfl (Or.inl rfl) ?_
  refine r_iload_n O 4 dX9_work_13 rfl ?_
  obtain ⟨h6, eh6, hf⟩ := bnd hf
  refine r_callV (av := [.ref a1, .int a2]) (st := []) O (c_X9_lookAt eh6) mf_X9_lookAt cf9 (kd_X9_lookAt eh6) ml_X9_165 mi_X9_lookAt mv_X9_lookAt (by decide) (Nat.le_of_ble_eq_true rfl) (by decide) dX9_work_14 ?_
  refine r_iconst O (v := 0) dX9_work_17 (by decide) ?_
  refine r_istore O [(5, .int 0), (4, .int x3), (3, .int x1), (0, .ref a0), (1, .ref a1), (2, .int a2)] dX9_work_18 (by decide) rfl ?_
  refine r_iconst O (v := 0) dX9_work_20 (by decide) ?_
  refine r_istore O [(6, .int 0), (5, .int 0), (4, .int x3), (3, .int x1), (0, .ref a0), (1, .ref a1), (2, .int a2)] dX9_work_21 (by decide) rfl ?_
  refine r_iconst O (v := 0) dX9_work_23 (by decide) ?_
  refine r_istore O [(7, .int 0), (6, .int 0), (5, .int 0), (4, .int x3), (3, .int x1), (0, .ref a0), (1, .ref a1), (2, .int a2)] dX9_work_24 (by decide) rfl ?_
  obtain ⟨h84, hw, hf⟩ := bnd hf
  refine AW.sub [5, 6, 7, 4, 3, 2, 1, 0] rfl ?_
  refine s_X9_work_26 O ?_ _ _ _ _ _ hw
  refine r_aload_n O 0 dX9_work_772 rfl (Or.inl rfl) ?_
  obtain ⟨x85, ex85, hf⟩ := bnd hf
  refine r_gP O cf9 41 (by decide) rfl fl_X9_93 ex85 dX9_work_773 ?_
  refine r_iconst O (v := 0) dX9_work_776 (by decide) ?_
  obtain ⟨x86, ex86, hf⟩ := bnd hf
  refine r_ldJ O ex86 dX9_work_777 ?_
  obtain rfl := Option.some.inj hf
  exact r_lret O hr rfl rfl (by decide) (by decide) dX9_work_778
